/-! WORLDS that are alike in all that acts leave; what hangs on that alone -/
section PS0
variable {n : Int} {w w' : Int → Int}
def keptC (i : Int) : Prop := i < 0 ∨ (0 ≤ i ∧ i ≤ 4) ∨ (6 ≤ i ∧ i ≤ 10) ∨ (15 ≤ i ∧ i ≤ 158) ∨ (159 ≤ i ∧ i < 215 ∧ (i - 159) % 4 = 0) ∨ (215 ≤ i ∧ i ≤ 234) ∨ 475 ≤ i
def SameS (w w' : Int → Int) : Prop := ∀ i, keptC i → w' i = w i
theorem SameS.rf : SameS w w := fun _ _ => rfl
theorem SameS.tr {v : Int → Int} (h : SameS w w') (k : SameS w' v) : SameS w v := fun i hi => (k i hi).trans (h i hi)
theorem SameS.sy (h : SameS w w') : SameS w' w := fun i hi => (h i hi).symm
theorem SameS.set (h : SameS w w') {j v : Int} (hj : ¬ keptC j) : SameS w (sI w' j v) := fun i hi => by
  have hne : i ≠ j := fun e => hj (by rw [← e]; exact hi)
  unfold sI
  rw [if_neg hne]
  exact h i hi
theorem sI_ne {f : Int → Int} {i v j : Int} (h : j ≠ i) : sI f i v j = f j := if_neg h
theorem sI_eq (f : Int → Int) (i v : Int) : sI f i v i = v := if_pos rfl
theorem same_n (S : SameS w w') : w' 0 = w 0 ∧ w' 1 = w 1 ∧ w' 2 = w 2 ∧ w' 3 = w 3 ∧ w' 4 = w 4 ∧ w' 6 = w 6 ∧ w' 7 = w 7 ∧ w' 8 = w 8 ∧ w' 9 = w 9 ∧ w' 10 = w 10 :=
  ⟨S 0 (by unfold keptC; omega), S 1 (by unfold keptC; omega), S 2 (by unfold keptC; omega), S 3 (by unfold keptC; omega), S 4 (by unfold keptC; omega), S 6 (by unfold keptC; omega), S 7 (by unfold keptC; omega), S 8 (by unfold keptC; omega), S 9 (by unfold keptC; omega), S 10 (by unfold keptC; omega)⟩
theorem same_hi (S : SameS w w') : ∀ i, 475 ≤ i → w' i = w i := fun i h => S i (by unfold keptC; omega)
theorem wS_same (S : SameS w w') {s k : Int} (s0 : 0 ≤ s) (s1 : s < 12) (k0 : 0 ≤ k) (k1 : k < 12) : wS w' s k = wS w s k := S _ (by unfold keptC; omega)
theorem wL0_same (S : SameS w w') {l : Int} (l0 : 0 ≤ l) (l1 : l < 14) : wL w' l 0 = wL w l 0 := S _ (by unfold keptC; omega)
theorem wI_same (H : Wi n w) (S : SameS w w') {l k : Int} (l0 : 0 ≤ l) (l1 : l < w 1) (k0 : 0 ≤ k) (k1 : k < 12) : wI w' l k = wI w l k := by
  have hr := H.ra
  have hl := H.lta l0 l1
  unfold wI
  rw [wL0_same S l0 (by omega), wS_same S (by omega) (by omega) k0 k1]
theorem tyRun_same (S : ∀ i, 475 ≤ i → w' i = w i) {b : Int} (hb : 475 ≤ b) : ∀ (m : Nat) (i : Int) (st : List Bool), 0 ≤ i → tyRun w' b i m st = tyRun w b i m st := by
  intro m
  induction m with
  | zero => intro i st _; rfl
  | succ m ih =>
    intro i st h
    rw [tyRun, tyRun, S (b + 2 * i) (by omega), S (b + 2 * i + 1) (by omega)]
    split
    · split
      · exact ih _ _ (by omega)
      · rfl
    · rfl
theorem evRun_same (S : ∀ i, 475 ≤ i → w' i = w i) {b : Int} (hb : 475 ≤ b) (f : Int → Int → Int) : ∀ (m : Nat) (i : Int) (st : List Int), 0 ≤ i → evRun w' b f i m st = evRun w b f i m st := by
  intro m
  induction m with
  | zero => intro i st _; rfl
  | succ m ih =>
    intro i st h
    rw [evRun, evRun, S (b + 2 * i) (by omega), S (b + 2 * i + 1) (by omega)]
    exact ih _ _ (by omega)
theorem LawOk_same (S : ∀ i, 475 ≤ i → w' i = w i) (h : LawOk w 475) : LawOk w' 475 := by
  unfold LawOk at h ⊢
  have e0 := S 475 (by omega)
  rw [e0]
  refine ⟨h.1, h.2.1, fun k k0 k1 => ?_⟩
  have hk := h.2.2 k k0 k1
  have a0 := S (475 + 1 + 4 * k) (by omega)
  have a1 := S (475 + 1 + 4 * k + 1) (by omega)
  have a2 := S (475 + 1 + 4 * k + 2) (by omega)
  have a3 := S (475 + 1 + 4 * k + 3) (by omega)
  rw [a0, a1, a2, a3, tyRun_same S (by omega) _ _ _ hk.2.2.2.1]
  refine ⟨hk.1, hk.2.1, hk.2.2.1, hk.2.2.2.1, hk.2.2.2.2.1, hk.2.2.2.2.2.1, ?_, hk.2.2.2.2.2.2.2⟩
  rw [hk.2.2.2.2.2.2.1]
  by_cases z : k = 0
  · rw [if_pos z, if_pos z]
  · rw [if_neg z, if_neg z, S (475 + 1 + 4 * (k - 1) + 3) (by omega)]
theorem evSum_same (S : ∀ i, 475 ≤ i → w' i = w i) (h : LawOk w 475) {kind : Int} (f : Int → Int → Int) : evSum w' 475 kind f = evSum w 475 kind f := by
  unfold evSum
  rw [S 475 (by omega)]
  refine sumF_congr _ _ (fun k k0 k1 => ?_)
  have hk := h.2.2 k k0 (by have := h.1; omega)
  have e : evLine w' 475 f k = evLine w 475 f k := by
    unfold evLine
    rw [S (475 + 1 + 4 * k + 2) (by omega), S (475 + 1 + 4 * k + 3) (by omega), evRun_same S (by omega) f _ _ _ hk.2.2.2.1]
  rw [e, S (475 + 1 + 4 * k) (by omega), S (475 + 1 + 4 * k + 1) (by omega)]
theorem wFades_same (H : Wi n w) (S : SameS w w') (Y L : Int) : wFades w' Y L = wFades w Y L := by
  have hr := H.ra
  unfold wFades
  rw [(same_n S).2.2.2.2.2.2.2.2.2]
  by_cases z : w 10 = 0
  · rw [if_pos z, if_pos z]
  · rw [if_neg z, if_neg z, evSum_same (same_hi S) (H.law (by omega))]
    congr 1
theorem wWeight_same (H : Wi n w) (S : SameS w w') {g d r : Int} (hg : 0 ≤ g ∧ g + 1 < w 1) (hr5 : 0 ≤ r ∧ r < 5) : wWeight w' g d r = wWeight w g d r := by
  have hr := H.ra
  unfold wWeight
  rw [(same_n S).2.2.2.2.2.2.2.2.2]
  by_cases z : w 10 = 0
  · rw [if_pos z, if_pos z]
  · rw [if_neg z, if_neg z, evSum_same (same_hi S) (H.law (by omega))]
    congr 1
    funext s x
    unfold fctW
    rw [wI_same H S (l := g) (k := 7 + r) (by omega) (by omega) (by omega) (by omega), wI_same H S (l := g + 1) (k := 2 + r) (by omega) (by omega) (by omega) (by omega), wI_same H S (l := g) (k := 0) (by omega) (by omega) (by omega) (by omega), wI_same H S (l := g + 1) (k := 0) (by omega) (by omega) (by omega) (by omega)]
theorem wSpace_same (H : Wi n w) (S : SameS w w') {sh g d r : Int} (hg : 0 ≤ g ∧ g + 1 < w 1) (hr5 : 0 ≤ r ∧ r < 5) : wSpace w' sh g d r = wSpace w sh g d r := by
  unfold wSpace
  rw [(same_n S).2.2.2.2.1, wI_same H S (l := g) (k := 7 + r) (by omega) (by omega) (by omega) (by omega), wI_same H S (l := g + 1) (k := 2 + r) (by omega) (by omega) (by omega) (by omega)]
theorem wLeast_same (H : Wi n w) (S : SameS w w') {sh g d : Int} (hg : 0 ≤ g ∧ g + 1 < w 1) : wLeast w' sh g d = wLeast w sh g d := by
  unfold wLeast
  rw [(same_n S).2.2.2.2.1]
  exact minF_congr _ _ _ (fun k k0 k1 => wSpace_same H S hg (by omega))
theorem wWhite_same (H : Wi n w) (S : SameS w w') (h5 : w' 5 = w 5) {g d : Int} (hg : 0 ≤ g ∧ g + 1 < w 1) : wWhite w' g d = wWhite w g d := by
  unfold wWhite
  rw [h5]
  exact sumF_congr _ _ (fun k k0 k1 => by rw [wSpace_same H S hg (by omega), wWeight_same H S hg (by omega)])
theorem ShopR_same {t : Nat} {D : mD} (H : Wi n w) (S : SameS w w') (h : ShopR t w D) : ShopR t w' D := by
  have hr := H.ra
  obtain ⟨s0, s1, s2, s3, s4, s6, s7, s8, s9, s10⟩ := same_n S
  obtain ⟨a1, a2, a3, a4, a5, a6, a7, a8, a9, b1, b2, b3, b4⟩ := h
  unfold ShopR
  rw [s0, s1, s2, s3, s4, s6, s7, s8, s9]
  refine ⟨a1, a2, a3, a4, a5, a6, a7, a8, a9, fun s h0 h1 => ?_, fun l h0 h1 => ?_, fun j h0 h1 => ?_, fun j h0 h1 => ?_⟩
  · rw [wS_same S h0 (by omega) (by omega) (by omega), wS_same S h0 (by omega) (by omega) (by omega)]
    refine ⟨(b1 s h0 h1).1, (b1 s h0 h1).2.1, fun r r0 r1 => ?_⟩
    rw [wS_same S h0 (by omega) (by omega) (by omega), wS_same S h0 (by omega) (by omega) (by omega)]
    exact (b1 s h0 h1).2.2 r r0 r1
  · rw [wL0_same S h0 (by omega)]; exact b2 l h0 h1
  · rw [S (215 + 2 * j) (by unfold keptC; omega), S (215 + 2 * j + 1) (by unfold keptC; omega)]; exact b3 j h0 h1
  · rw [S (227 + j) (by unfold keptC; omega)]; exact b4 j h0 h1
theorem LawR_same {t : Nat} {D : mD} (H : Wi n w) (S : SameS w w') (h : LawR t w D) : LawR t w' D := by
  have hr := H.ra
  obtain ⟨a, b⟩ := h
  unfold LawR
  rw [(same_n S).2.2.2.2.2.2.2.2.2, same_hi S 475 (by omega)]
  refine ⟨a, fun h10 k k0 k1 => ?_⟩
  have hk := (H.law h10).2.2 k k0 k1
  have c := b h10 k k0 k1
  rw [same_hi S (476 + 4 * k) (by omega), same_hi S (476 + 4 * k + 1) (by omega), same_hi S (476 + 4 * k + 2) (by omega), same_hi S (476 + 4 * k + 3) (by omega)]
  refine ⟨c.1, c.2.1, c.2.2.1, fun i i0 i1 => ?_⟩
  have h4 := hk.2.2.2.1
  rw [e475] at h4
  rw [same_hi S (524 + 2 * i) (by omega), same_hi S (524 + 2 * i + 1) (by omega)]
  exact c.2.2.2 i i0 i1
/-- what acts may change, in its ranges -/
theorem Wi.of {n' : Int} (H : Wi n w) (S : SameS w w')
    (h : 0 ≤ w' 5 ∧ w' 5 ≤ 9 ∧ 0 ≤ w' 11 ∧ w' 11 ≤ n' ∧ -1 ≤ w' 12 ∧ w' 12 < 14 ∧ 0 ≤ w' 13 ∧ w' 13 ≤ 60 ∧ nR (w' 14))
    (hl : ∀ l, 0 ≤ l → l < w 1 → 0 ≤ wL w' l 1 ∧ wL w' l 1 ≤ 3 ∧ wL w' l 1 < wI w l 1 ∧ -1 ≤ wL w' l 2 ∧ wL w' l 2 ≤ n' ∧ 0 ≤ wL w' l 3 ∧ wL w' l 3 ≤ 30)
    (hg : ∀ j, 0 ≤ j → j < w' 13 → 0 ≤ w' (235 + 4 * j) ∧ w' (235 + 4 * j) ≤ n' ∧ 0 ≤ w' (235 + 4 * j + 1) ∧ w' (235 + 4 * j + 1) ≤ 13 ∧ 0 ≤ w' (235 + 4 * j + 2) ∧ w' (235 + 4 * j + 2) ≤ 5 ∧ -1 ≤ w' (235 + 4 * j + 3) ∧ w' (235 + 4 * j + 3) ≤ 1)
    (hw : 0 ≤ w' 12 → w' 12 < w 1 ∧ 0 ≤ wL w' (w' 12) 2) : Wi n' w' := by
  have hr := H.ra
  obtain ⟨s0, s1, s2, s3, s4, s6, s7, s8, s9, s10⟩ := same_n S
  refine ⟨?_, fun s h0 h1 => ?_, fun l h0 h1 => ?_, fun j h0 h1 => ?_, fun j h0 h1 => ?_, hg, ?_, fun h10 => ?_⟩
  · unfold Wr; omega
  · have hs := H.sg h0 (by omega)
    unfold SgOk at hs ⊢
    rw [wS_same S h0 (by omega) (by omega) (by omega), wS_same S h0 (by omega) (by omega) (by omega)]
    refine ⟨hs.1, hs.2.1, hs.2.2.1, hs.2.2.2.1, fun r r0 r1 => ?_⟩
    rw [wS_same S h0 (by omega) (by omega) (by omega), wS_same S h0 (by omega) (by omega) (by omega)]
    exact hs.2.2.2.2 r r0 r1
  · have a := H.lta h0 (by omega)
    have b := hl l h0 (by omega)
    unfold wI at b
    unfold LtOk
    rw [wL0_same S h0 (by omega), wS_same S (by omega) (by omega) (by omega) (by omega)]
    omega
  · rw [S (215 + 2 * j) (by unfold keptC; omega), S (215 + 2 * j + 1) (by unfold keptC; omega)]; exact H.wt h0 (by omega)
  · rw [S (227 + j) (by unfold keptC; omega)]; exact H.lk h0 (by omega)
  · rw [s1]; exact hw
  · exact LawOk_same (same_hi S) (H.law (by omega))
theorem Wi.mono {n' : Int} (H : Wi n w) (h : n ≤ n') : Wi n' w := by
  have hr := H.ra
  refine H.of SameS.rf (by omega) (fun l h0 h1 => ?_) (fun j h0 h1 => ?_) (fun h0 => H.wet h0)
  · have a := H.lta h0 h1
    unfold wI
    omega
  · have a := H.lg h0 h1
    omega
/-- a shadow in its stead -/
theorem Wi.sh (H : Wi n w) {k : Int} (hk : 0 ≤ k ∧ k ≤ 9) : Wi n (sI w 5 k) ∧ SameS w (sI w 5 k) := by
  have hr := H.ra
  have S : SameS w (sI w 5 k) := SameS.rf.set (by unfold keptC; omega)
  have e : ∀ j, j ≠ 5 → sI w 5 k j = w j := fun j h => sI_ne h
  have eL : ∀ l k', 0 ≤ l → 0 ≤ k' → wL (sI w 5 k) l k' = wL w l k' := fun l k' h0 h1 => e _ (by omega)
  refine ⟨H.of S (by rw [sI_eq, e 11 (by decide), e 12 (by decide), e 13 (by decide), e 14 (by decide)]; omega) (fun l h0 h1 => ?_) (fun j h0 h1 => ?_) (fun h0 => ?_), S⟩
  · have a := H.lta h0 h1
    rw [eL l 1 h0 (by omega), eL l 2 h0 (by omega), eL l 3 h0 (by omega)]
    unfold wI
    omega
  · rw [e 13 (by decide)] at h1
    rw [e _ (by omega), e _ (by omega), e _ (by omega), e _ (by omega)]
    exact H.lg h0 h1
  · rw [e 12 (by decide)] at h0 ⊢
    rw [eL _ _ h0 (by omega)]
    exact H.wet h0
theorem sh_wid (H : Wi n w) {k l : Int} (l0 : 0 ≤ l) (l1 : l < w 1) (hk : 0 ≤ k ∧ k ≤ 9) : wWid (sI w 5 k) l = wWid w l ∧ wL (sI w 5 k) l 3 = wL w l 3 := by
  obtain ⟨-, S⟩ := H.sh hk
  unfold wWid
  rw [wI_same H S l0 l1 (by omega) (by omega), show wL (sI w 5 k) l 1 = wL w l 1 from sI_ne (by omega)]
  exact ⟨rfl, sI_ne (by omega)⟩
theorem sh_end (H : Wi n w) {k : Int} (hk : 0 ≤ k ∧ k ≤ 9) : wEnd (sI w 5 k) = wEnd w := by
  have hr := H.ra
  unfold wEnd wBeg
  rw [show sI w 5 k 1 = w 1 from sI_ne (by decide), show sI w 5 k 3 = w 3 from sI_ne (by decide)]
  by_cases z : w 1 = 0
  · rw [if_pos z, if_pos z]
  · rw [if_neg z, if_neg z, (sh_wid H (l := w 1 - 1) (by omega) (by omega) hk).1]
    congr 2
    exact sumF_congr _ _ (fun j j0 j1 => by
      obtain ⟨a, b⟩ := sh_wid H (l := j) j0 (by omega) hk
      rw [a, b])
theorem sh_fit (H : Wi n w) {k : Int} (hk : 0 ≤ k ∧ k ≤ 9) : wFit (sI w 5 k) (sI w 5 k 5) = wFit w k := by
  unfold wFit
  rw [sh_end H hk, sI_eq, show sI w 5 k 2 = w 2 from sI_ne (by decide), show sI w 5 k 3 = w 3 from sI_ne (by decide)]
theorem sh_read (H : Wi n w) {k Y L : Int} (hk : 0 ≤ k ∧ k ≤ 9) : wRead (sI w 5 k) (sI w 5 k 5) Y L = wRead w k Y L := by
  obtain ⟨-, S⟩ := H.sh hk
  have hr := H.ra
  unfold wRead wClear wTight
  rw [sI_eq, wFades_same H S, show sI w 5 k 6 = w 6 from sI_ne (by decide), show sI w 5 k 1 = w 1 from sI_ne (by decide)]
  have e : minF (fun g => wLeast (sI w 5 k) k g (wL (sI w 5 k) g 3)) 60 0 (max 0 (w 1 - 1)).toNat = minF (fun g => wLeast w k g (wL w g 3)) 60 0 (max 0 (w 1 - 1)).toNat :=
    minF_congr _ _ _ (fun j j0 j1 => by rw [(sh_wid H (l := j) j0 (by omega) hk).2, wLeast_same H S (by omega)])
  rw [e]
end PS0
section PA5
variable {n : Int} {D : mD}
/-- the last that does -/
def downF (p : Int → Bool) : Nat → Int
  | 0 => -1
  | m + 1 => if p m then (m : Int) else downF p m
def wBearP (w : Int → Int) (Y L : Int) : Int → Bool := fun k => decide (wFit w k = 1 ∧ wRead w k Y L = 1)
theorem c_bears_L {Y L : Int} (hY : 0 ≤ Y ∧ Y ≤ 60) (hL : 0 ≤ L ∧ L ≤ 60) : ∀ (m fuel : Nat) (E : mD), m < fuel → m ≤ 10 → Kq n D E →
    ∃ E', F_X11_bears_L13 Y L fuel ((m : Int) - 1) E = some (.inl (downF (wBearP (D 134) Y L) m), E') ∧ Kq n D E' := by
  intro m
  induction m with
  | zero =>
    intro fuel E hf hm K
    obtain ⟨j, rfl⟩ : ∃ j, fuel = j + 1 := ⟨fuel - 1, by omega⟩
    exact ⟨E, by simp (disch := omega) only [F_X11_bears_L13, downF, bI_q, bX_q, bX_r, t_0, t_1, in_t, in_f, ck_p, if_pos, if_neg, if_true], K⟩
  | succ m ih =>
    intro fuel E hf hm K
    obtain ⟨j, rfl⟩ : ∃ j, fuel = j + 1 := ⟨fuel - 1, by omega⟩
    have f1 : F_X0_fitsWith (m : Int) E = some (wFit (D 134) (m : Int), E) := by rw [c_fitsWith K.2 (by omega), K.w]
    have f01 : wFit (D 134) (m : Int) = 0 ∨ wFit (D 134) (m : Int) = 1 := b01_01 _
    have r01 := wRead_01 (D 134) (m : Int) Y L
    rw [show ((m + 1 : Nat) : Int) - 1 = m by omega, downF]
    by_cases a : wFit (D 134) (m : Int) = 0
    · obtain ⟨E', h', K'⟩ := ih j E (by omega) (by omega) K
      refine ⟨E', ?_, K'⟩
      rw [show wBearP (D 134) Y L (m : Int) = false from decide_eq_false (by omega)]
      simp (disch := omega) only [F_X11_bears_L13, f1, h', bI_q, bX_q, bX_r, t_0, t_1, in_t, in_f, ck_p, if_pos, if_neg, if_true]
      rfl
    · obtain ⟨E1, h1, K1⟩ := c_isRead K (sh := (m : Int)) (Y := Y) (L := L) (by omega) (by omega) (by omega)
      have h2 := c_tightestSpace K (sh := (m : Int)) (by omega)
      by_cases b : wRead (D 134) (m : Int) Y L = 0
      · obtain ⟨E', h', K'⟩ := ih j E1 (by omega) (by omega) K1
        refine ⟨E', ?_, K'⟩
        rw [show wBearP (D 134) Y L (m : Int) = false from decide_eq_false (by omega)]
        simp (disch := omega) only [F_X11_bears_L13, f1, h1, h2, h', bI_q, bX_q, bX_r, t_0, t_1, in_t, in_f, ck_p, if_pos, if_neg, if_true]
        rfl
      · refine ⟨E1, ?_, K1⟩
        rw [show wBearP (D 134) Y L (m : Int) = true from decide_eq_true (by omega)]
        simp (disch := omega) only [F_X11_bears_L13, f1, h1, h2, bI_q, bX_q, bX_r, t_0, t_1, in_t, in_f, ck_p, if_pos, if_neg, if_true]
theorem sI_sI (f : Int → Int) (i a b : Int) : sI (sI f i a) i b = sI f i b := by
  funext j
  unfold sI
  by_cases q : j = i
  · rw [if_pos q, if_pos q]
  · rw [if_neg q, if_neg q, if_neg q]
/-- but for the shadow nothing has changed but what a question may -/
def Qs (D E : mD) : Prop := (∀ a : Nat, a ≠ 133 → a ≠ 134 → a ≠ 137 → ¬ (141 ≤ a ∧ a ≤ 147) → E a = D a) ∧ (∀ i : Int, ¬ (18 ≤ i ∧ i ≤ 21) → E 133 i = D 133 i) ∧ ∃ k, E 134 = sI (D 134) 5 k
theorem Qs.to {E F : mD} {k : Int} (q : Qs D E) (h : Qw (pD E 134 5 k) F) : Qs D F ∧ F 134 = sI (D 134) 5 k := by
  obtain ⟨q1, q2, k0, q3⟩ := q
  have e : F 134 = sI (D 134) 5 k := by
    rw [h.w]
    show pD E 134 5 k 134 = _
    unfold pD
    rw [sA_eq, q3, sI_sI]
  refine ⟨⟨fun a h1 h2 h3 h4 => ?_, fun i hi => ?_, k, e⟩, e⟩
  · rw [h.1 a h1 h3 h4, pD_ne h2]; exact q1 a h1 h2 h3 h4
  · rw [h.2 i hi, pD_ne (by decide)]; exact q2 i hi
theorem pD_w (E : mD) (i v : Int) : (pD E 134 i v) 134 = sI (E 134) i v := by unfold pD; rw [sA_eq]
theorem r_bears_L (H : Wi n (D 134)) {Y L : Int} (hY : 1 ≤ Y ∧ Y ≤ 60) (hL : 0 ≤ L ∧ L ≤ 60) : ∀ (m fuel : Nat) (k : Nat) (E : mD), m < fuel → k + m = 10 → Qs D E →
    ∃ F, F_X12_bears_L33 Y L (D 134 5) fuel (downF (wBearP (D 134) Y L) k) (k : Int) E = some (downF (wBearP (D 134) Y L) 10, F) ∧ Qw D F := by
  intro m
  induction m with
  | zero =>
    intro fuel k E hf hm q
    obtain ⟨j, rfl⟩ : ∃ j, fuel = j + 1 := ⟨fuel - 1, by omega⟩
    have ek : k = 10 := by omega
    subst ek
    refine ⟨pD E 134 5 (D 134 5), by simp (disch := omega) only [F_X12_bears_L33, bI_q, bX_q, bX_r, t_0, t_1, in_t, in_f, ck_p, if_pos, if_neg, if_true], ?_⟩
    obtain ⟨⟨q1, q2, -⟩, e⟩ := q.to (k := D 134 5) Qw.rf
    refine ⟨fun a h1 h2 h3 => ?_, q2⟩
    by_cases z : a = 134
    · subst z
      rw [e]
      funext i
      unfold sI
      by_cases y : i = 5
      · rw [if_pos y, y]
      · rw [if_neg y]
    · exact q1 a h1 z h2 h3
  | succ m ih =>
    intro fuel k E hf hm q
    obtain ⟨j, rfl⟩ : ∃ j, fuel = j + 1 := ⟨fuel - 1, by omega⟩
    obtain ⟨-, e⟩ := q.to (k := (k : Int)) Qw.rf
    have hk : 0 ≤ (k : Int) ∧ (k : Int) ≤ 9 := by omega
    have H' : Wi n ((pD E 134 5 (k : Int)) 134) := by rw [e]; exact (H.sh hk).1
    have f1 := r_isFit H'
    rw [e, sh_fit H hk] at f1
    have f01 : wFit (D 134) (k : Int) = 0 ∨ wFit (D 134) (k : Int) = 1 := b01_01 _
    have r01 := wRead_01 (D 134) (k : Int) Y L
    by_cases a : wFit (D 134) (k : Int) = 0
    · obtain ⟨F, h', q'⟩ := ih j (k + 1) (pD E 134 5 (k : Int)) (by omega) (by omega) (q.to Qw.rf).1
      refine ⟨F, ?_, q'⟩
      rw [downF, show wBearP (D 134) Y L (k : Int) = false from decide_eq_false (by omega)] at h'
      rw [show ((k + 1 : Nat) : Int) = (k : Int) + 1 by omega] at h'
      simp only [Bool.false_eq_true, if_false] at h'
      simp (disch := omega) only [F_X12_bears_L33, f1, h', bI_q, bX_q, bX_r, t_0, t_1, in_t, in_f, ck_p, if_pos, if_neg, if_true]
    · obtain ⟨E2, h2, q2⟩ := r_isRead H' Qw.rf (Y := Y) (L := L) hY hL
      rw [e, sh_read H hk] at h2
      obtain ⟨F, h', q'⟩ := ih j (k + 1) E2 (by omega) (by omega) (q.to q2).1
      refine ⟨F, ?_, q'⟩
      rw [show ((k + 1 : Nat) : Int) = (k : Int) + 1 by omega, downF] at h'
      by_cases b : wRead (D 134) (k : Int) Y L = 0
      · rw [show wBearP (D 134) Y L (k : Int) = false from decide_eq_false (by omega)] at h'
        simp only [Bool.false_eq_true, if_false] at h'
        simp (disch := omega) only [F_X12_bears_L33, f1, h2, h', bI_q, bX_q, bX_r, t_0, t_1, in_t, in_f, ck_p, if_pos, if_neg, if_true]
      · rw [show wBearP (D 134) Y L (k : Int) = true from decide_eq_true (by omega)] at h'
        simp only [if_true] at h'
        simp (disch := omega) only [F_X12_bears_L33, f1, h2, h', bI_q, bX_q, bX_r, t_0, t_1, in_t, in_f, ck_p, if_pos, if_neg, if_true]
theorem q_bears (R : CR n D) {x y : Int} (hx : nR x) (hy : nR y) : Ans n D [0] (F_X11_bears x y) (F_X12_bears x y) := by
  have hN := fN
  have hz : ∀ E, F_X12_bears x y E = F_X12_bears x y (pD E 133 0 0) := (fun E => by simp only [F_X12_bears, pD_pD])
  by_cases a : 1 ≤ x ∧ x ≤ 60
  · by_cases b : 0 ≤ y ∧ y ≤ 9
    · obtain ⟨E1, h1, K1⟩ := c_bears_L (n := n) (D := D) (Y := x) (L := y) (by omega) (by omega) 10 fuelN D (by omega) (by omega) (Kq.rf R)
      refine Ans.ok (v := downF (wBearP (D 134) x y) 10) (by simp (disch := omega) only [F_X11_bears, n_yards_t hx a, n_light_t hy b, bI_q, bX_q, bX_r, t_0, t_1, in_t, in_f, ck_p, if_pos, if_neg, if_true]; exact h1) K1.ke hz ?_
      intro G e z
      have H : Wi n (G 134) := by rw [e]; exact R.wi
      rw [← e]
      obtain ⟨F, f2, q2⟩ := r_bears_L H (Y := x) (L := y) (by omega) (by omega) 10 fuelN 0 G (by omega) (by omega) ⟨fun _ _ _ _ _ => rfl, fun _ _ => rfl, G 134 5, by funext i; unfold sI; by_cases y : i = 5; rw [if_pos y, y]; rw [if_neg y]⟩
      exact ⟨F, by simp (disch := omega) only [F_X12_bears, z, noLight_t hx hy a b, bI_q, bX_q, bX_r, t_0, t_1, in_t, in_f, ck_p, if_pos, if_neg, if_true]; exact f2, q2⟩
    · refine Ans.no 0 rfl (i := 0) (by simp (disch := omega) only [F_X11_bears, n_yards_t hx a, n_light_f hy b, bI_q, bX_q, bX_r, t_0, t_1, in_t, in_f, ck_p, if_pos, if_neg, if_true]) (Ke.rf R) hz ?_
      intro G e z
      exact ⟨0, G, by simp (disch := omega) only [F_X12_bears, z, noLight_f hx hy (Or.inr b), bI_q, bX_q, bX_r, t_0, t_1, in_t, in_f, ck_p, if_pos, if_neg, if_true]; rfl, Qw.rf⟩
  · refine Ans.no 0 rfl (i := 0) (by simp (disch := omega) only [F_X11_bears, n_yards_f hx a, bI_q, bX_q, bX_r, t_0, t_1, in_t, in_f, ck_p, if_pos, if_neg, if_true]) (Ke.rf R) hz ?_
    intro G e z
    exact ⟨0, G, by simp (disch := omega) only [F_X12_bears, z, noLight_f hx hy (Or.inl a), bI_q, bX_q, bX_r, t_0, t_1, in_t, in_f, ck_p, if_pos, if_neg, if_true]; rfl, Qw.rf⟩
end PA5
