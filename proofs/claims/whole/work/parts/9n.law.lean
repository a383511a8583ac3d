/-! LAW's text: steps and parts -/
section PXa
variable {n : Int} {B f g w : Int → Int} {L p q b s S d : Int} {C D E F R : mD} {st st' : List Bool}
def rS (R : mD) (S d : Int) : mD := pD (pD R 133 16 S) 133 13 d
theorem rS_f (R : mD) (S d q b : Int) (f : Int → Int) : stR (rS R S d) q b f 133 16 = S ∧ stR (rS R S d) q b f 133 13 = d := by
  have h := (st_f (rS R S d) q b f).2.2.2.2
  exact ⟨by rw [h 16 (by decide) (by decide)]; unfold rS; rw [pD_nj (by decide), pD_eq], by rw [h 13 (by decide) (by decide)]; unfold rS; rw [pD_eq]⟩
theorem rS_RT (h : RT B L R) (S d : Int) : RT B L (rS R S d) := h.go (by unfold rS; rw [pD_nj (by decide), pD_nj (by decide)]) (by unfold rS; rw [pD_ne (by decide), pD_ne (by decide)])
theorem stR_put (R : mD) (q b : Int) (f : Int → Int) {i : Int} (v : Int) (h1 : i ≠ 10) (h2 : i ≠ 12) : pD (stR R q b f) 133 i v = stR (pD R 133 i v) q b f := by
  unfold stR posD
  funext a j
  unfold pD sA sI
  by_cases y : a = 134
  · subst y; simp
  · by_cases z : a = 133
    · subst z
      by_cases u : j = i
      · subst u; simp [h1, h2]
      · simp [u]
    · simp [y, z]
theorem rS_16 (R : mD) (S d q b S' : Int) (f : Int → Int) : pD (stR (rS R S d) q b f) 133 16 S' = stR (rS R S' d) q b f := by
  rw [stR_put _ _ _ _ _ (by decide) (by decide)]
  unfold rS
  rw [pD_sw (pD R 133 16 S) 133 d S' (by decide), pD_pD]
theorem rS_13 (R : mD) (S d q b d' : Int) (f : Int → Int) : pD (stR (rS R S d) q b f) 133 13 d' = stR (rS R S d') q b f := by
  rw [stR_put _ _ _ _ _ (by decide) (by decide)]
  unfold rS
  rw [pD_pD]
/-- one step more -/
def emit (f : Int → Int) (S s m : Int) : Int → Int := sI (sI f (1373 + 2 * S) s) (1373 + 2 * S + 1) m
theorem emit_f (f : Int → Int) (S s m : Int) : (∀ i, i ≠ 1373 + 2 * S → i ≠ 1373 + 2 * S + 1 → emit f S s m i = f i) ∧ emit f S s m (1373 + 2 * S) = s ∧ emit f S s m (1373 + 2 * S + 1) = m := by
  unfold emit
  exact ⟨fun i h1 h2 => by rw [sI_ne h2, sI_ne h1], by rw [sI_ne (by omega), sI_eq], sI_eq _ _ _⟩
theorem r_emits (h : 0 ≤ S ∧ S ≤ 399) (R : mD) (d q b s m : Int) (f : Int → Int) : F_X12_emits s m (stR (rS R S d) q b f) = some (0, stR (rS R (S + 1) d) q b (emit f S s m)) := by
  have e1 := (rS_f R S d q b f).1
  rw [F_X12_emits, e1, ck_p (by omega), st_set, (rS_f R S d q b _).1, ck_p (by omega), st_set, (rS_f R S d q b _).1, rS_16]
  rfl
/-- the class's steps are the reference's -/
def CR8 (E : mD) (f : Int → Int) (S : Int) : Prop := E 104 5 = S ∧ 0 ≤ S ∧ ∀ i, 0 ≤ i → i < S → E 108 i = cItem (f (1373 + 2 * i)) (f (1373 + 2 * i + 1))
def FrL (E E' : mD) : Prop := (∀ a : Nat, a ≠ 1 → a ≠ 104 → a ≠ 108 → E' a = E a) ∧ ∀ i : Int, i ≠ 5 → E' 104 i = E 104 i
theorem FrL.rf : FrL E E := ⟨fun _ _ _ _ => rfl, fun _ _ => rfl⟩
theorem FrL.tr {E1 E2 : mD} (h : FrL E E1) (k : FrL E1 E2) : FrL E E2 := ⟨fun a h1 h2 h3 => (k.1 a h1 h2 h3).trans (h.1 a h1 h2 h3), fun i hi => (k.2 i hi).trans (h.2 i hi)⟩
theorem Fr1.l (h : Fr1 C D) : FrL C D := ⟨fun a h1 _ _ => h a h1, fun i _ => by rw [h 104 (by decide)]⟩
theorem CR8.go (h : CR8 E f S) (k : Fr1 E F) : CR8 F f S := by
  unfold CR8 at h ⊢
  rw [k 104 (by decide), k 108 (by decide)]
  exact h
theorem c_put (h : CR8 E f S) (hS : S ≤ 399) {x s m : Int} (hx : x = cItem s m) : ∃ E', F_X2_put 104 x E = some (0, E') ∧ CR8 E' (emit f S s m) (S + 1) ∧ FrL E E' ∧ (∀ a : Nat, a ≠ 104 → a ≠ 108 → E' a = E a) := by
  obtain ⟨h1, h2, h3⟩ := h
  have ef := emit_f f S s m
  refine ⟨pD (pD E 108 S x) 104 5 (S + 1), ?_, ⟨pD_eq _ _ _ _, by omega, fun i i0 i1 => ?_⟩, ⟨fun a _ b1 b2 => by rw [pD_ne b1, pD_ne b2], fun i hi => by rw [pD_nj hi, pD_ne (by decide)]⟩, fun a b1 b2 => by rw [pD_ne b1, pD_ne b2]⟩
  · rw [F_X2_put, h1, ck_p (by omega), if_neg (by omega), ck_p (by omega), pD_ne (a := 108) (b := 104) (by decide), h1]
  · rw [pD_ne (by decide), pD_at]
    by_cases y : i = S
    · rw [if_pos y, y, ef.2.1, ef.2.2, hx]
    · rw [if_neg y, ef.1 _ (by omega) (by omega), ef.1 _ (by omega) (by omega)]; exact h3 i i0 (by omega)
theorem tyRun_app {b : Int} : ∀ (m1 m2 : Nat) (i : Int) (st st1 : List Bool), tyRun w b i m1 st = some st1 → tyRun w b i (m1 + m2) st = tyRun w b (i + m1) m2 st1 := by
  intro m1
  induction m1 with
  | zero =>
    intro m2 i st st1 h
    rw [tyRun] at h
    injection h with h
    subst h
    rw [Nat.zero_add, show i + ((0 : Nat) : Int) = i by omega]
  | succ m1 ih =>
    intro m2 i st st1 h
    obtain ⟨ts, h1, h2, h3⟩ := tyRun_succ h
    rw [show m1 + 1 + m2 = (m1 + m2) + 1 by omega, tyRun, h1]
    simp only [if_pos h2]
    rw [ih m2 (i + 1) ts st1 h3, show i + 1 + (m1 : Int) = i + ((m1 + 1 : Nat) : Int) by omega]
/-- steps from S to S' take st to st' -/
def Ty (f : Int → Int) (S S' : Int) (st st' : List Bool) : Prop := S ≤ S' ∧ tyRun f 1373 S (S' - S).toNat st = some st'
theorem Ty.rf : Ty f S S st st := ⟨by omega, by rw [Int.sub_self]; rfl⟩
theorem Ty.tr {S1 S2 : Int} {st1 st2 : List Bool} (h : Ty f S S1 st st1) (k : Ty g S1 S2 st1 st2) (e : ∀ i, i < 1373 + 2 * S1 → g i = f i) : Ty g S S2 st st2 := by
  obtain ⟨a1, a2⟩ := h
  obtain ⟨b1, b2⟩ := k
  refine ⟨by omega, ?_⟩
  have e1 : tyRun g 1373 S (S1 - S).toNat st = some st1 := by rw [← a2]; exact tyRun_eqn _ _ _ (fun k _ h => e k (by omega))
  rw [show (S2 - S).toNat = (S1 - S).toNat + (S2 - S1).toNat by omega, tyRun_app _ _ _ _ _ e1, show S + ((S1 - S).toNat : Int) = S1 by omega]
  exact b2
theorem Ty.one {s m : Int} (h : tyStep s m st = some st') (hl : st'.length ≤ 20) : Ty (emit f S s m) S (S + 1) st st' := by
  have ef := emit_f f S s m
  refine ⟨by omega, ?_⟩
  rw [show (S + 1 - S).toNat = 0 + 1 by omega, tyRun, ef.2.1, ef.2.2, h]
  simp only [if_pos hl]
  rfl
theorem Ty.emit {s m S1 : Int} {st1 : List Bool} (h : Ty f S S1 st st1) (k : tyStep s m st1 = some st') (hl : st'.length ≤ 20) : Ty (emit f S1 s m) S (S1 + 1) st st' :=
  h.tr (Ty.one k hl) (fun i hi => (emit_f f S1 s m).1 i (by omega) (by omega))
/-- the part at p as the class has it -/
def partV (B : Int → Int) (L p : Int) : Int := if isW B L (sTx 7) p = true then 1000 else if isW B L (sTx 8) p = true then 1001 else if isW B L (sTx 9) p = true then 1002 else if isW B L (sTx 10) p = true then 1003 else if isW B L (sTx 11) p = true then 1004 else if isW B L (sTx 12) p = true then 1005 else numV B L 0 999 p
theorem txl_eq : (sTx 75 = sTx 7 ∧ sTx 76 = sTx 8 ∧ sTx 60 = sTx 9 ∧ sTx 61 = sTx 10 ∧ sTx 77 = sTx 11 ∧ sTx 78 = sTx 12) ∧ (sTx 71 = sTx 0 ∧ sTx 72 = sTx 1 ∧ sTx 73 = sTx 2 ∧ sTx 74 = sTx 3 ∧ sTx 79 = sTx 13 ∧ sTx 80 = sTx 14) ∧ (sTx 16 = sTx 16 ∧ sTx 17 = sTx 4 ∧ sTx 18 = sTx 5 ∧ sTx 19 = sTx 6) := by decide +kernel
theorem c_partHere (hB : CB B L) (c : CT B L p D) (p0 : 0 ≤ p) (p1 : p ≤ L) : F_X3_partHere D = some (partV B L p, D) := by
  unfold partV
  rw [F_X3_partHere, c_isWord hB c p0 p1 (by decide), bI_q]
  cases h1 : isW B L (sTx 7) p with
  | true => rw [bi_t, ck_p (by decide), if_neg (by decide), if_pos rfl]
  | false =>
    rw [bi_f, ck_p (by decide), if_pos rfl, c_isWord hB c p0 p1 (by decide), bI_q, if_neg Bool.false_ne_true]
    cases h2 : isW B L (sTx 8) p with
    | true => rw [bi_t, ck_p (by decide), if_neg (by decide), if_pos rfl]
    | false =>
      rw [bi_f, ck_p (by decide), if_pos rfl, c_isWord hB c p0 p1 (by decide), bI_q, if_neg Bool.false_ne_true]
      cases h3 : isW B L (sTx 9) p with
      | true => rw [bi_t, ck_p (by decide), if_neg (by decide), if_pos rfl]
      | false =>
        rw [bi_f, ck_p (by decide), if_pos rfl, c_isWord hB c p0 p1 (by decide), bI_q, if_neg Bool.false_ne_true]
        cases h4 : isW B L (sTx 10) p with
        | true => rw [bi_t, ck_p (by decide), if_neg (by decide), if_pos rfl]
        | false =>
          rw [bi_f, ck_p (by decide), if_pos rfl, c_isWord hB c p0 p1 (by decide), bI_q, if_neg Bool.false_ne_true]
          cases h5 : isW B L (sTx 11) p with
          | true => rw [bi_t, ck_p (by decide), if_neg (by decide), if_pos rfl]
          | false =>
            rw [bi_f, ck_p (by decide), if_pos rfl, c_isWord hB c p0 p1 (by decide), bI_q, if_neg Bool.false_ne_true]
            cases h6 : isW B L (sTx 12) p with
            | true => rw [bi_t, ck_p (by decide), if_neg (by decide), if_pos rfl]
            | false => rw [bi_f, ck_p (by decide), if_pos rfl, c_numberWithin hB c p0 p1 (by decide) (by decide), bI_q, if_neg Bool.false_ne_true]
theorem r_part (hB : CB B L) (rt : RT B L R) (hS : 0 ≤ S ∧ S ≤ 399) (p0 : 0 ≤ p) (p1 : p ≤ L) (b : Int) :
    ∃ s m, F_X12_readPart (stR (rS R S d) p b f) = some (if partV B L p = -1 then 0 else 1, stR (rS R (S + 1) d) (if tk B L (sk B L p) = 1 then wd B L p else nd B L p) (sk B L p) (emit f S s m)) ∧
      (partV B L p ≠ -1 → partV B L p = cItem s m ∧ (∀ st, tyStep s m st = some (false :: st)) ∧ nx B L p = (if tk B L (sk B L p) = 1 then wd B L p else nd B L p) ∧ sk B L p < L) := by
  have w2 := wd_r (B := B) p1
  have rtS := rS_RT (d := d) (S := S) rt
  have sf := st_f (rS R S d) (wd B L p) (sk B L p) f
  have wn : wd B L p = sk B L p ↔ ¬ tk B L (sk B L p) = 1 := by
    constructor
    · intro h y
      have skL : sk B L p < L := by
        unfold tk at y
        by_cases z : sk B L p < L
        · exact z
        · rw [if_neg z] at y; omega
      have e := te_wd y
      have := te_r (B := B) (L := L) (p := sk B L p) (by omega)
      omega
    · exact wd_no
  have nw : ∀ {i : Nat}, i < 32 → ¬ tk B L (sk B L p) = 1 → isW B L (sTx i) p = false := fun {i} hi h => by
    cases z : isW B L (sTx i) p with
    | false => rfl
    | true => exact absurd (isW_yes (tx_ok i (by omega) (Or.inl hi)).1 z).1 h
  rw [F_X12_readPart, st_letters hB rtS p0 p1, bI_q, sf.1, sf.2.1, ck_p (by have := hB.2.1; omega), ck_p (by have := hB.2.1; omega)]
  by_cases y : tk B L (sk B L p) = 1
  · have hnum : numV B L 0 999 p = -1 := by
      rcases numV_r B L 0 999 p with h | h
      · exact h
      · omega
    obtain ⟨x1, x2, x3, x4, x5, x6⟩ := txl_eq.1
    have fin : ∀ s : Int, 0 ≤ s ∧ s ≤ 5 → F_X12_readPart_j113 s (stR (rS R S d) (wd B L p) (sk B L p) f) = some (1, stR (rS R (S + 1) d) (wd B L p) (sk B L p) (emit f S s 0)) := fun s h => by
      rw [F_X12_readPart_j113, r_emits hS, bI_q, F_X12_readPart_j120, ck_p (by omega), if_neg (by omega), ck_p (by decide)]
    have good : ∀ {i : Nat} (s : Int), i < 32 → isW B L (sTx i) p = true → 0 ≤ s ∧ s ≤ 5 → partV B L p = 1000 + s → partV B L p = cItem s 0 ∧ (∀ st, tyStep s 0 st = some (false :: st)) ∧ nx B L p = (if tk B L (sk B L p) = 1 then wd B L p else nd B L p) ∧ sk B L p < L := fun {i} s hi hw hs hp => by
      have iw := isW_yes (tx_ok i (by omega) (Or.inl hi)).1 hw
      refine ⟨by rw [hp]; unfold cItem; rw [if_pos hs.2], fun st => by unfold tyStep; rw [if_pos hs], by rw [if_pos y]; exact iw.2.1, iw.2.2⟩
    rw [if_neg (fun h => (wn.mp h) y), if_pos y]
    rw [if_pos y] at good
    cases h1 : isW B L (sTx 7) p with
    | true =>
      rw [rW_t hB rtS p0 p1 (by decide) x1 h1, bI_q, ck_p (by decide), if_neg (by decide), fin 0 (by decide)]
      have hv : partV B L p = 1000 := by unfold partV; rw [h1]; rfl
      exact ⟨0, 0, by rw [hv, if_neg (by decide)], fun _ => good 0 (by decide) h1 (by decide) hv⟩
    | false =>
    rw [rW_f hB rtS p0 p1 (by decide) x1 h1, bI_q, ck_p (by decide), if_pos rfl]
    cases h2 : isW B L (sTx 8) p with
    | true =>
      rw [rW_t hB rtS p0 p1 (by decide) x2 h2, bI_q, ck_p (by decide), if_neg (by decide), fin 1 (by decide)]
      have hv : partV B L p = 1001 := by unfold partV; rw [h1, h2]; rfl
      exact ⟨1, 0, by rw [hv, if_neg (by decide)], fun _ => good 1 (by decide) h2 (by decide) hv⟩
    | false =>
    rw [rW_f hB rtS p0 p1 (by decide) x2 h2, bI_q, ck_p (by decide), if_pos rfl]
    cases h3 : isW B L (sTx 9) p with
    | true =>
      rw [rW_t hB rtS p0 p1 (by decide) x3 h3, bI_q, ck_p (by decide), if_neg (by decide), fin 2 (by decide)]
      have hv : partV B L p = 1002 := by unfold partV; rw [h1, h2, h3]; rfl
      exact ⟨2, 0, by rw [hv, if_neg (by decide)], fun _ => good 2 (by decide) h3 (by decide) hv⟩
    | false =>
    rw [rW_f hB rtS p0 p1 (by decide) x3 h3, bI_q, ck_p (by decide), if_pos rfl]
    cases h4 : isW B L (sTx 10) p with
    | true =>
      rw [rW_t hB rtS p0 p1 (by decide) x4 h4, bI_q, ck_p (by decide), if_neg (by decide), fin 3 (by decide)]
      have hv : partV B L p = 1003 := by unfold partV; rw [h1, h2, h3, h4]; rfl
      exact ⟨3, 0, by rw [hv, if_neg (by decide)], fun _ => good 3 (by decide) h4 (by decide) hv⟩
    | false =>
    rw [rW_f hB rtS p0 p1 (by decide) x4 h4, bI_q, ck_p (by decide), if_pos rfl]
    cases h5 : isW B L (sTx 11) p with
    | true =>
      rw [rW_t hB rtS p0 p1 (by decide) x5 h5, bI_q, ck_p (by decide), if_neg (by decide), fin 4 (by decide)]
      have hv : partV B L p = 1004 := by unfold partV; rw [h1, h2, h3, h4, h5]; rfl
      exact ⟨4, 0, by rw [hv, if_neg (by decide)], fun _ => good 4 (by decide) h5 (by decide) hv⟩
    | false =>
    rw [rW_f hB rtS p0 p1 (by decide) x5 h5, bI_q, ck_p (by decide), if_pos rfl]
    cases h6 : isW B L (sTx 12) p with
    | true =>
      rw [rW_t hB rtS p0 p1 (by decide) x6 h6, bI_q, ck_p (by decide), if_neg (by decide), fin 5 (by decide)]
      have hv : partV B L p = 1005 := by unfold partV; rw [h1, h2, h3, h4, h5, h6]; rfl
      exact ⟨5, 0, by rw [hv, if_neg (by decide)], fun _ => good 5 (by decide) h6 (by decide) hv⟩
    | false =>
      have hv : partV B L p = -1 := by unfold partV; rw [h1, h2, h3, h4, h5, h6]; exact hnum
      rw [rW_f hB rtS p0 p1 (by decide) x6 h6, bI_q, ck_p (by decide), if_pos rfl, F_X12_readPart_j113, r_emits hS, bI_q, F_X12_readPart_j120, ck_p (by decide), if_pos (by decide), ck_p (by decide)]
      exact ⟨-1, 0, by rw [hv, if_pos rfl], fun h => absurd hv h⟩
  · have hp : partV B L p = numV B L 0 999 p := by
      unfold partV
      rw [nw (i := 7) (by decide) y, nw (i := 8) (by decide) y, nw (i := 9) (by decide) y, nw (i := 10) (by decide) y, nw (i := 11) (by decide) y, nw (i := 12) (by decide) y]
      rfl
    have ew := wn.mpr y
    have ss := sk_sk (B := B) p1
    have nr := numV_r B L 0 999 p
    have en : numV B L 0 999 (wd B L p) = numV B L 0 999 p ∧ nd B L (wd B L p) = nd B L p ∧ sk B L (wd B L p) = sk B L p := by
      rw [ew]
      unfold numV nd
      rw [ss]
      exact ⟨rfl, rfl, rfl⟩
    rw [if_pos ew, if_neg y, st_number hB rtS (by omega) w2.2.2 (by decide) (by decide), bI_q, en.1, en.2.1, en.2.2, r_emits hS, bI_q, F_X12_readPart_j120, ck_p (by omega), hp]
    by_cases z : numV B L 0 999 p = -1
    · rw [if_pos z, if_pos (by omega), ck_p (by decide)]
      exact ⟨_, _, rfl, fun h => absurd z h⟩
    · rw [if_neg z, if_neg (by omega), ck_p (by decide)]
      refine ⟨7, numV B L 0 999 p, rfl, fun _ => ⟨by unfold cItem; rw [if_neg (by decide), if_neg (by decide), if_pos rfl], fun st => ?_, nd_yes (by omega), ?_⟩⟩
      · unfold tyStep
        rw [if_neg (by decide), if_neg (by decide), if_pos rfl, if_pos (by omega)]
      · have t2 : tk B L (sk B L p) = 2 := by omega
        unfold tk at t2
        by_cases u : sk B L p < L
        · exact u
        · rw [if_neg u] at t2; omega
end PXa
