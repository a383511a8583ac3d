/-! ANSWERS: what a question may change, how both ends agree; checks of arguments -/
section PA0
variable {n : Int} {D E F : mD}
theorem pD_pD (D : mD) (a : Nat) (i v v' : Int) : pD (pD D a i v) a i v' = pD D a i v' := by
  funext b j
  unfold pD sA sI
  by_cases q : b = a
  · simp only [q, if_true]
    by_cases z : j = i
    · simp [z]
    · simp [z]
  · simp [q]
/-- what a call that asks may change in the reference -/
def Qt (D E : mD) : Prop := (∀ a : Nat, a ≠ 133 → a ≠ 137 → ¬ (141 ≤ a ∧ a ≤ 147) → E a = D a) ∧ ∀ i : Int, ¬ (18 ≤ i ∧ i ≤ 21) → i ≠ 0 → E 133 i = D 133 i
theorem Qw.qt {c : Int} (q : Qw (pD D 133 0 c) E) : Qt D E ∧ E 133 0 = c :=
  ⟨⟨fun a h1 h2 h3 => (q.1 a h1 h2 h3).trans (pD_ne h1), fun i h1 h2 => (q.2 i h1).trans (pD_nj h2)⟩, (q.2 0 (by omega)).trans (pD_eq _ _ _ _)⟩
theorem Qt.put (q : Qt D E) (c : Int) : Qt D (pD E 133 0 c) :=
  ⟨fun a h1 h2 h3 => (pD_ne h1).trans (q.1 a h1 h2 h3), fun i h1 h2 => (pD_nj h2).trans (q.2 i h1 h2)⟩
theorem Qt.w (q : Qt D E) : E 134 = D 134 := q.1 134 (by decide) (by decide) (by decide)
/-- class's end, reference's answer, what the reference says that it threw -/
def Agr (ex : List Nat) (r : Int ⊕ Nat) (v t : Int) : Prop := match r with
  | .inl x => t = 0 ∧ v = x
  | .inr i => ∃ k : Nat, t = (k : Int) + 1 ∧ ex[k]? = some i
def RefOk (D : mD) (fr : mD → RI) (v : Int) : Prop := ∃ F, fr D = some (v, F) ∧ Qw D F
def RefNo (D : mD) (fr : mD → RI) (c : Int) : Prop := ∃ v F, fr D = some (v, pD F 133 0 c) ∧ Qw D F
/-- a question: both ends -/
def Ans (n : Int) (D : mD) (ex : List Nat) (fc : mD → RX) (fr : mD → RI) : Prop :=
  ∃ r E v F, fc D = some (r, E) ∧ Ke n D E ∧ fr E = some (v, F) ∧ Qt E F ∧ Agr ex r v (F 133 0)
def AnsI (n : Int) (D : mD) (fc : mD → RI) (fr : mD → RI) : Prop :=
  ∃ E v F, fc D = some (v, E) ∧ Ke n D E ∧ fr E = some (v, F) ∧ Qt E F
theorem Ans.ok {ex : List Nat} {fc : mD → RX} {fr : mD → RI} {v : Int} (hc : fc D = some (.inl v, E)) (K : Ke n D E) (hz : ∀ E, fr E = fr (pD E 133 0 0))
    (hr : ∀ G, G 134 = D 134 → pD G 133 0 0 = G → RefOk G fr v) : Ans n D ex fc fr := by
  obtain ⟨F, h, q⟩ := hr (pD E 133 0 0) (by rw [pD_ne (by decide)]; exact K.w) (pD_pD _ _ _ _ _)
  obtain ⟨q1, q2⟩ := Qw.qt q
  exact ⟨_, E, v, F, hc, K, by rw [hz, h], q1, q2, rfl⟩
theorem Ans.no {ex : List Nat} {fc : mD → RX} {fr : mD → RI} {i : Nat} (k : Nat) (hk : ex[k]? = some i) (hc : fc D = some (.inr i, E)) (K : Ke n D E) (hz : ∀ E, fr E = fr (pD E 133 0 0))
    (hr : ∀ G, G 134 = D 134 → pD G 133 0 0 = G → RefNo G fr ((k : Int) + 1)) : Ans n D ex fc fr := by
  obtain ⟨v, F, h, q⟩ := hr (pD E 133 0 0) (by rw [pD_ne (by decide)]; exact K.w) (pD_pD _ _ _ _ _)
  obtain ⟨q1, q2⟩ := Qw.qt q
  exact ⟨_, E, v, _, hc, K, by rw [hz, h], q1.put _, k, by rw [pD_eq], hk⟩
theorem AnsI.ok {fc : mD → RI} {fr : mD → RI} {v : Int} (hc : fc D = some (v, E)) (K : Ke n D E) (hz : ∀ E, fr E = fr (pD E 133 0 0))
    (hr : ∀ G, G 134 = D 134 → pD G 133 0 0 = G → RefOk G fr v) : AnsI n D fc fr := by
  obtain ⟨F, h, q⟩ := hr (pD E 133 0 0) (by rw [pD_ne (by decide)]; exact K.w) (pD_pD _ _ _ _ _)
  exact ⟨E, v, F, hc, K, by rw [hz, h], (Qw.qt q).1⟩
/-! the class's checks -/
theorem n_sign_t (R : CR n D) {x : Int} (hx : nR x) (h : 0 ≤ x ∧ x ≤ D 134 0 - 1) : F_X11_needSign x D = some (.inl 0, D) := by
  have hr := R.wi.ra
  have hc := R.ca
  simp (disch := omega) only [F_X11_needSign, ck_p, if_pos, if_neg]
theorem n_sign_f (R : CR n D) {x : Int} (hx : nR x) (h : ¬ (0 ≤ x ∧ x ≤ D 134 0 - 1)) : F_X11_needSign x D = some (.inr 2, D) := by
  have hr := R.wi.ra
  have hc := R.ca
  by_cases q : x < 0
  · simp (disch := omega) only [F_X11_needSign, F_X11_needSign_j15, ck_p, if_pos]
  · simp (disch := omega) only [F_X11_needSign, F_X11_needSign_j15, ck_p, if_neg]
theorem n_letter_t (R : CR n D) {x : Int} (hx : nR x) (h : 0 ≤ x ∧ x ≤ D 134 1 - 1) : F_X11_needLetter x D = some (.inl 0, D) := by
  have hr := R.wi.ra
  have hc := R.ca
  simp (disch := omega) only [F_X11_needLetter, ck_p, if_pos, if_neg]
theorem n_letter_f (R : CR n D) {x : Int} (hx : nR x) (h : ¬ (0 ≤ x ∧ x ≤ D 134 1 - 1)) : F_X11_needLetter x D = some (.inr 2, D) := by
  have hr := R.wi.ra
  have hc := R.ca
  by_cases q : x < 0
  · simp (disch := omega) only [F_X11_needLetter, F_X11_needLetter_j15, ck_p, if_pos]
  · simp (disch := omega) only [F_X11_needLetter, F_X11_needLetter_j15, ck_p, if_neg]
theorem n_gap_t (R : CR n D) {x : Int} (hx : nR x) (h : 0 ≤ x ∧ x ≤ max 0 (D 134 1 - 1) - 1) : F_X11_needGap x D = some (.inl 0, D) := by
  have hr := R.wi.ra
  have hc := R.ca
  simp (disch := omega) only [F_X11_needGap, c_gapCount R, bI_s, ck_p, if_pos, if_neg]
theorem n_gap_f (R : CR n D) {x : Int} (hx : nR x) (h : ¬ (0 ≤ x ∧ x ≤ max 0 (D 134 1 - 1) - 1)) : F_X11_needGap x D = some (.inr 2, D) := by
  have hr := R.wi.ra
  have hc := R.ca
  by_cases q : x < 0
  · simp (disch := omega) only [F_X11_needGap, F_X11_needGap_j15, ck_p, if_pos]
  · simp (disch := omega) only [F_X11_needGap, F_X11_needGap_j15, c_gapCount R, bI_s, ck_p, if_neg]
theorem n_writer_t (R : CR n D) {x : Int} (hx : nR x) (h : 0 ≤ x ∧ x ≤ D 134 7 - 1) : F_X11_needWriter x D = some (.inl 0, D) := by
  have hr := R.wi.ra
  have hc := R.ca
  simp (disch := omega) only [F_X11_needWriter, ck_p, if_pos, if_neg]
theorem n_writer_f (R : CR n D) {x : Int} (hx : nR x) (h : ¬ (0 ≤ x ∧ x ≤ D 134 7 - 1)) : F_X11_needWriter x D = some (.inr 2, D) := by
  have hr := R.wi.ra
  have hc := R.ca
  by_cases q : x < 0
  · simp (disch := omega) only [F_X11_needWriter, F_X11_needWriter_j15, ck_p, if_pos]
  · simp (disch := omega) only [F_X11_needWriter, F_X11_needWriter_j15, ck_p, if_neg]
theorem n_row_t {x : Int} (hx : nR x) (h : 0 ≤ x ∧ x ≤ 4) : F_X11_needRow x D = some (.inl 0, D) := by
  simp (disch := omega) only [F_X11_needRow, ck_p, if_pos, if_neg]
theorem n_row_f {x : Int} (hx : nR x) (h : ¬ (0 ≤ x ∧ x ≤ 4)) : F_X11_needRow x D = some (.inr 2, D) := by
  by_cases q : x < 0
  · simp (disch := omega) only [F_X11_needRow, F_X11_needRow_j9, ck_p, if_pos]
  · simp (disch := omega) only [F_X11_needRow, F_X11_needRow_j9, ck_p, if_neg]
theorem n_light_t {x : Int} (hx : nR x) (h : 0 ≤ x ∧ x ≤ 9) : F_X11_needLight x D = some (.inl 0, D) := by
  simp (disch := omega) only [F_X11_needLight, ck_p, if_pos, if_neg]
theorem n_light_f {x : Int} (hx : nR x) (h : ¬ (0 ≤ x ∧ x ≤ 9)) : F_X11_needLight x D = some (.inr 0, D) := by
  by_cases q : x < 0
  · simp (disch := omega) only [F_X11_needLight, F_X11_needLight_j10, ck_p, if_pos]
  · simp (disch := omega) only [F_X11_needLight, F_X11_needLight_j10, ck_p, if_neg]
theorem n_yards_t {x : Int} (hx : nR x) (h : 1 ≤ x ∧ x ≤ 60) : F_X11_needYards x D = some (.inl 0, D) := by
  simp (disch := omega) only [F_X11_needYards, ck_p, if_pos, if_neg]
theorem n_yards_f {x : Int} (hx : nR x) (h : ¬ (1 ≤ x ∧ x ≤ 60)) : F_X11_needYards x D = some (.inr 0, D) := by
  by_cases q : x < 1
  · simp (disch := omega) only [F_X11_needYards, F_X11_needYards_j11, ck_p, if_pos]
  · simp (disch := omega) only [F_X11_needYards, F_X11_needYards_j11, ck_p, if_neg]
theorem n_distance_t {x : Int} (hx : nR x) (h : 0 ≤ x ∧ x ≤ 30) : F_X11_needDistance x D = some (.inl 0, D) := by
  simp (disch := omega) only [F_X11_needDistance, ck_p, if_pos, if_neg]
theorem n_distance_f {x : Int} (hx : nR x) (h : ¬ (0 ≤ x ∧ x ≤ 30)) : F_X11_needDistance x D = some (.inr 0, D) := by
  by_cases q : x < 0
  · simp (disch := omega) only [F_X11_needDistance, F_X11_needDistance_j10, ck_p, if_pos]
  · simp (disch := omega) only [F_X11_needDistance, F_X11_needDistance_j10, ck_p, if_neg]
theorem n_white_t {x : Int} (hx : nR x) (h : 0 ≤ x ∧ x ≤ 2000) : F_X11_needWhite x D = some (.inl 0, D) := by
  simp (disch := omega) only [F_X11_needWhite, ck_p, if_pos, if_neg]
theorem n_white_f {x : Int} (hx : nR x) (h : ¬ (0 ≤ x ∧ x ≤ 2000)) : F_X11_needWhite x D = some (.inr 0, D) := by
  by_cases q : x < 0
  · simp (disch := omega) only [F_X11_needWhite, F_X11_needWhite_j11, ck_p, if_pos]
  · simp (disch := omega) only [F_X11_needWhite, F_X11_needWhite_j11, ck_p, if_neg]
theorem n_days_t {x : Int} (hx : nR x) (h : 0 ≤ x ∧ x ≤ 40) : F_X11_needTrialDays x D = some (.inl 0, D) := by
  simp (disch := omega) only [F_X11_needTrialDays, ck_p, if_pos, if_neg]
theorem n_days_f {x : Int} (hx : nR x) (h : ¬ (0 ≤ x ∧ x ≤ 40)) : F_X11_needTrialDays x D = some (.inr 0, D) := by
  by_cases q : x < 0
  · simp (disch := omega) only [F_X11_needTrialDays, F_X11_needTrialDays_j10, ck_p, if_pos]
  · simp (disch := omega) only [F_X11_needTrialDays, F_X11_needTrialDays_j10, ck_p, if_neg]
/-! the reference's checks -/
theorem t_0 {c : Int} : F_X12_throwsIf 0 c E = some (0, E) := by
  have := e_throwsIf (D := E) (p := False) (c := c)
  simpa [b01] using this
theorem t_1 {c : Int} : F_X12_throwsIf 1 c E = some (1, pD E 133 0 c) := by
  have := e_throwsIf (D := E) (p := True) (c := c)
  simpa [b01] using this
theorem in_t {x lo hi : Int} (h : nR x) (h1 : nR lo) (h2 : nR hi) (q : lo ≤ x ∧ x ≤ hi) : F_X12_in x lo hi E = some (1, E) := by rw [e_in h h1 h2, b01_t q]
theorem in_f {x lo hi : Int} (h : nR x) (h1 : nR lo) (h2 : nR hi) (q : ¬ (lo ≤ x ∧ x ≤ hi)) : F_X12_in x lo hi E = some (0, E) := by rw [e_in h h1 h2, b01_f q]
theorem noSign_t (H : Wi n (E 134)) {x : Int} (hx : nR x) (h : 0 ≤ x ∧ x ≤ E 134 0 - 1) : F_X12_noSign x E = some (0, E) := by rw [e_noSign H.r hx, b01_f (fun z => z h)]
theorem noSign_f (H : Wi n (E 134)) {x : Int} (hx : nR x) (h : ¬ (0 ≤ x ∧ x ≤ E 134 0 - 1)) : F_X12_noSign x E = some (1, E) := by rw [e_noSign H.r hx, b01_t h]
theorem noLetter_t (H : Wi n (E 134)) {x : Int} (hx : nR x) (h : 0 ≤ x ∧ x ≤ E 134 1 - 1) : F_X12_noLetter x E = some (0, E) := by rw [e_noLetter H.r hx, b01_f (fun z => z h)]
theorem noLetter_f (H : Wi n (E 134)) {x : Int} (hx : nR x) (h : ¬ (0 ≤ x ∧ x ≤ E 134 1 - 1)) : F_X12_noLetter x E = some (1, E) := by rw [e_noLetter H.r hx, b01_t h]
theorem noGap_t (H : Wi n (E 134)) {x : Int} (hx : nR x) (h : 0 ≤ x ∧ x ≤ max 0 (E 134 1 - 1) - 1) : F_X12_noGap x E = some (0, E) := by rw [e_noGap H.r hx, b01_f (fun z => z h)]
theorem noGap_f (H : Wi n (E 134)) {x : Int} (hx : nR x) (h : ¬ (0 ≤ x ∧ x ≤ max 0 (E 134 1 - 1) - 1)) : F_X12_noGap x E = some (1, E) := by rw [e_noGap H.r hx, b01_t h]
theorem noWriter_t (H : Wi n (E 134)) {x : Int} (hx : nR x) (h : 0 ≤ x ∧ x ≤ E 134 7 - 1) : F_X12_noWriter x E = some (0, E) := by rw [e_noWriter H.r hx, b01_f (fun z => z h)]
theorem noWriter_f (H : Wi n (E 134)) {x : Int} (hx : nR x) (h : ¬ (0 ≤ x ∧ x ≤ E 134 7 - 1)) : F_X12_noWriter x E = some (1, E) := by rw [e_noWriter H.r hx, b01_t h]
theorem noWhite_t {x : Int} (hx : nR x) (h : 0 ≤ x ∧ x ≤ 2000) : F_X12_noWhite x E = some (0, E) := by rw [e_noWhite hx, b01_f (fun z => z h)]
theorem noWhite_f {x : Int} (hx : nR x) (h : ¬ (0 ≤ x ∧ x ≤ 2000)) : F_X12_noWhite x E = some (1, E) := by rw [e_noWhite hx, b01_t h]
theorem noLight_t {x y : Int} (hx : nR x) (hy : nR y) (h : 1 ≤ x ∧ x ≤ 60) (h2 : 0 ≤ y ∧ y ≤ 9) : F_X12_noLight x y E = some (0, E) := by rw [e_noLight hx hy, b01_f (by omega)]
theorem noLight_f {x y : Int} (hx : nR x) (hy : nR y) (h : ¬ (1 ≤ x ∧ x ≤ 60) ∨ ¬ (0 ≤ y ∧ y ≤ 9)) : F_X12_noLight x y E = some (1, E) := by rw [e_noLight hx hy, b01_t h]
end PA0
section PA0b
theorem bI_q {β : Type} {v : Int} {D : mD} {f : Int → mD → Option β} : bI (some (v, D)) f = f v D := by unfold bI; exact Eq.refl _
theorem bX_q {v : Int} {D : mD} {f : Int → mD → RX} : bX (some (.inl v, D)) f = f v D := by unfold bX; exact Eq.refl _
theorem bX_r {i : Nat} {D : mD} {f : Int → mD → RX} : bX (some (.inr i, D)) f = some (.inr i, D) := by unfold bX; exact Eq.refl _
end PA0b
