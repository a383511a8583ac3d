/-! LAW's text: conditions -/
section PXd
variable {n : Int} {B f g w : Int → Int} {L p q b s S d : Int} {C D E F R : mD} {st st' : List Bool} {fc fr : RI}
/-- the reference before an atom; x2: an and is pending, x3: an or is -/
noncomputable def refA (A : mD → RI) (x2 x3 : Int) (fA fO : Nat) (D : mD) : RI :=
  bI (bI (A D) fun v D1 => ck (nR v) <| if v = 0 then some (0, D1) else (if x2 = 1 then bI (F_X12_emits 12 0 D1) fun _ D3 => F_X12_readAllOf_L9 A fA D3 else F_X12_readAllOf_L9 A fA D1)) fun v D2 =>
    ck (nR v) <| if v = 0 then some (0, D2) else (if x3 = 1 then bI (F_X12_emits 13 0 D2) fun _ D3 => F_X12_readCond_L9 (F_X12_readAllOf A) fO D3 else F_X12_readCond_L9 (F_X12_readAllOf A) fO D2)
def stk (x : Int) (st : List Bool) : List Bool := if x = 1 then true :: st else st
theorem stk_l (x : Int) (st : List Bool) : (stk x st).length ≤ st.length + 1 := by
  unfold stk
  by_cases y : x = 1
  · rw [if_pos y]; simp
  · rw [if_neg y]; omega
theorem bI_bI {r : RI} {k1 k2 : Int → mD → RI} : bI (bI r k1) k2 = bI r (fun v D => bI (k1 v D) k2) := by
  cases r with
  | none => rfl
  | some x => rfl
theorem k_cond_L {A : Int → mD → RI} {aR : mD → RI} (hB : CB B L) (rt : RT B L R) (hA : ∀ (E : mD) (f : Int → Int) (S p b : Int) (st' : List Bool), CT B L p E → CR8 E f S → 0 ≤ p → p ≤ L → S < p → st'.length ≤ st.length + 2 → LK B L st' (true :: st') p S d E f R (A d E) (aR (stR (rS R S d) p b f)))
    (hst : st.length ≤ 17) : ∀ (m fuel fA fO : Nat) (x2 x3 x4 p S b : Int) (f : Int → Int) (E : mD), m < fuel → m < fA → m < fO → m < fuelN → L - p ≤ m → (x2 = 0 ∨ x2 = 1) → (x3 = 0 ∨ x3 = 1) → 0 ≤ x4 → x4 < p → S + x2 + x3 < p → 0 ≤ p → p ≤ L → CT B L p E → CR8 E f S →
    LK B L (stk x2 (stk x3 st)) (true :: st) (p - x2 - x3) S d E f R (F_X3_readsCondition_L7 A d fuel x2 x3 x4 E) (refA aR x2 x3 fA fO (stR (rS R S d) p b f)) := by
  have l4 := hB.2.1
  have n1 : ¬ ((1 : Int) = 0) := by decide
  have n01 : ¬ ((0 : Int) = 1) := by decide
  intro m
  induction m using Nat.strongRecOn with
  | _ m ih =>
    intro fuel fA fO x2 x3 x4 p S b f E hf hfA hfO hfN hm h2 h3 x40 x4p Sp p0 p1 c c8
    obtain ⟨j, rfl⟩ : ∃ j, fuel = j + 1 := ⟨fuel - 1, by omega⟩
    obtain ⟨jA, rfl⟩ : ∃ j, fA = j + 1 := ⟨fA - 1, by omega⟩
    obtain ⟨jO, rfl⟩ : ∃ j, fO = j + 1 := ⟨fO - 1, by omega⟩
    have S0 := c8.2.1
    have sl := stk_l x3 st
    have sl2 := stk_l x2 (stk x3 st)
    obtain ⟨v, E1, q, b1, f1, S1, d1, a1, a2, a3, a4, a5⟩ := hA E f S p b (stk x2 (stk x3 st)) c c8 p0 p1 (by omega) (by omega)
    unfold refA
    rw [F_X3_readsCondition_L7, ck_p (by omega), if_neg (show ¬ 400 ≤ x4 by omega), a1, bI_q, a2, bI_q]
    rcases a5 with ⟨u1, u2, u3⟩ | ⟨u1, u2, u3, u4, u5, u6, u7, u8⟩
    · rw [u1, ck_p (by decide), if_pos rfl, ck_p (by decide), if_pos rfl, bI_q, ck_p (by decide), if_pos rfl]
      exact LK.no rfl rfl a3 a4 u2 u3
    · subst u2
      have S10 := u7.2.1
      have SS1 := u8.1
      have skq := sk_r (B := B) u4
      rw [u1, ck_p (by decide), if_neg n1, ck_p (by omega), ck_p (by decide), if_neg n1]
      /- the and -/
      obtain ⟨E2, f2, b3, k1, k2, k3, k4, k5, k6, k7⟩ : ∃ E2 f2, ∃ b3 : Int, (if x2 = 0 then F_X3_readsCondition_j39 A (F_X3_readsCondition_L7 A d1 j) d1 x3 x4 E1 else bI (F_X2_put 104 1012 E1) fun _ D2 => F_X3_readsCondition_j39 A (F_X3_readsCondition_L7 A d1 j) d1 x3 x4 D2) = F_X3_readsCondition_j39 A (F_X3_readsCondition_L7 A d1 j) d1 x3 x4 E2 ∧
          (if x2 = 1 then bI (F_X12_emits 12 0 (stR (rS R S1 d1) q b1 f1)) fun _ D3 => F_X12_readAllOf_L9 aR (jA + 1) D3 else F_X12_readAllOf_L9 aR (jA + 1) (stR (rS R S1 d1) q b1 f1)) = F_X12_readAllOf_L9 aR (jA + 1) (stR (rS R (S1 + x2) d1) q b3 f2) ∧
          FrL E E2 ∧ (∀ i, i < 1373 + 2 * S → f2 i = f i) ∧ CT B L q E2 ∧ CR8 E2 f2 (S1 + x2) ∧ Ty f2 S (S1 + x2) (stk x2 (stk x3 st)) (true :: stk x3 st) := by
        rcases h2 with y | y
        · subst y
          refine ⟨E1, f1, b1, by rw [if_pos rfl], by rw [if_neg n01, Int.add_zero], a3, a4, u6, by rw [Int.add_zero]; exact u7, ?_⟩
          rw [Int.add_zero]
          unfold stk at u8 ⊢
          rw [if_neg n01] at u8 ⊢
          exact u8
        · subst y
          obtain ⟨E2, t1, t2, t3, t4⟩ := c_put (x := 1012) (s := 12) (m := 0) u7 (by omega) (by decide)
          have ef := emit_f f1 S1 12 0
          refine ⟨E2, emit f1 S1 12 0, b1, by rw [if_neg n1, t1, bI_q], by rw [if_pos rfl, r_emits (by omega), bI_q], a3.tr t3, fun i hi => by rw [ef.1 i (by omega) (by omega)]; exact a4 i hi, u6.go (t4 1 (by decide) (by decide)) (t4 2 (by decide) (by decide)), t2, ?_⟩
          have e1 : stk 1 (stk x3 st) = true :: stk x3 st := by unfold stk; rw [if_pos rfl]
          rw [e1] at u8 ⊢
          exact Ty.emit u8 (ty_12 _).1 (by simp only [List.length_cons]; omega)
      rw [k1, k2, F_X3_readsCondition_j39, F_X12_readAllOf_L9, st_passes hB (rS_RT rt _ _) (by omega) u4 (by decide), txl_eq.2.1.2.2.2.2.1]
      cases hw : isW B L (sTx 13) q with
      | true =>
        have iw := isW_yes (tx_ok 13 (by decide) (by decide)).1 hw
        have wq := wd_r (B := B) u4
        have wpos : q < wd B L q := by
          have := (nx_r (B := B) (p := q) u4).2.2.2 iw.2.2
          rw [iw.2.1] at this; exact this
        obtain ⟨E3, t1, t2, t3⟩ := tW_t hB k5 (by omega) u4 (i := 13) (by decide) hw
        have K := ih (L - wd B L q).toNat (by omega) j jA (jO + 1) 1 x3 (x4 + 1) (wd B L q) (S1 + x2) (sk B L q) f2 E3 (by omega) (by omega) (by omega) (by omega) (by omega) (Or.inr rfl) h3 (by omega) (by omega) (by omega) (by omega) wq.2.2 t3 (k6.go t2)
        unfold refA at K
        rw [if_pos rfl, bI_q, ck_p (by decide), if_neg n1, t1, bI_q, ck_p (by decide), if_neg n1]
        simp only [if_true] at K
        have e1 : stk 1 (stk x3 st) = true :: stk x3 st := by unfold stk; rw [if_pos rfl]
        rw [e1] at K
        exact K.pre (k3.tr t2.l) k4 k7 (by omega) (by omega)
      | false =>
        rw [if_neg Bool.false_ne_true, bI_q, ck_p (by decide), if_pos rfl, bI_q, ck_p (by decide), if_neg n1, tW_f hB k5 (by omega) u4 (by decide) hw, bI_q, ck_p (by decide), if_pos rfl, ck_p (by omega)]
        /- the or -/
        obtain ⟨E4, f4, b4, m1, m2, m3, m4, m5, m6, m7⟩ : ∃ E4 f4, ∃ b4 : Int, (if x3 = 0 then F_X3_readsCondition_j67 A (F_X3_readsCondition_L7 A d1 j) d1 0 x4 E2 else bI (F_X2_put 104 1013 E2) fun _ D2 => F_X3_readsCondition_j67 A (F_X3_readsCondition_L7 A d1 j) d1 0 x4 D2) = F_X3_readsCondition_j67 A (F_X3_readsCondition_L7 A d1 j) d1 0 x4 E4 ∧
            (if x3 = 1 then bI (F_X12_emits 13 0 (stR (rS R (S1 + x2) d1) (sk B L q) (sk B L q) f2)) fun _ D3 => F_X12_readCond_L9 (F_X12_readAllOf aR) (jO + 1) D3 else F_X12_readCond_L9 (F_X12_readAllOf aR) (jO + 1) (stR (rS R (S1 + x2) d1) (sk B L q) (sk B L q) f2)) = F_X12_readCond_L9 (F_X12_readAllOf aR) (jO + 1) (stR (rS R (S1 + x2 + x3) d1) (sk B L q) b4 f4) ∧
            FrL E E4 ∧ (∀ i, i < 1373 + 2 * S → f4 i = f i) ∧ CT B L (sk B L q) E4 ∧ CR8 E4 f4 (S1 + x2 + x3) ∧ Ty f4 S (S1 + x2 + x3) (stk x2 (stk x3 st)) (true :: st) := by
          rcases h3 with y | y
          · subst y
            refine ⟨E2, f2, sk B L q, by rw [if_pos rfl], by rw [if_neg n01, Int.add_zero], k3, k4, k5.sk u4, by rw [Int.add_zero]; exact k6, ?_⟩
            rw [Int.add_zero]
            have e0 : stk 0 st = st := by unfold stk; rw [if_neg n01]
            rw [e0] at k7 ⊢
            exact k7
          · subst y
            obtain ⟨E4, t1, t2, t3, t4⟩ := c_put (x := 1013) (s := 13) (m := 0) k6 (by omega) (by decide)
            have ef := emit_f f2 (S1 + x2) 13 0
            have SS2 := k7.1
            refine ⟨E4, emit f2 (S1 + x2) 13 0, sk B L q, by rw [if_neg n1, t1, bI_q], by rw [if_pos rfl, r_emits (by omega), bI_q], k3.tr t3, fun i hi => by rw [ef.1 i (by omega) (by omega)]; exact k4 i hi, (k5.sk u4).go (t4 1 (by decide) (by decide)) (t4 2 (by decide) (by decide)), t2, ?_⟩
            have e1 : stk 1 st = true :: st := by unfold stk; rw [if_pos rfl]
            rw [e1] at k7 ⊢
            exact Ty.emit k7 (ty_12 _).2 (by simp only [List.length_cons]; omega)
        rw [m1, m2, F_X3_readsCondition_j67, F_X12_readCond_L9, st_passes hB (rS_RT rt _ _) (by omega) skq.2 (by decide), txl_eq.2.1.2.2.2.2.2]
        cases hw2 : isW B L (sTx 14) (sk B L q) with
        | true =>
          have iw := isW_yes (tx_ok 14 (by decide) (by decide)).1 hw2
          have wq := wd_r (B := B) skq.2
          have wpos : sk B L q < wd B L (sk B L q) := by
            have := (nx_r (B := B) (p := sk B L q) skq.2).2.2.2 iw.2.2
            rw [iw.2.1] at this; exact this
          obtain ⟨E5, t1, t2, t3⟩ := tW_t hB m5 (by omega) skq.2 (i := 14) (by decide) hw2
          have K := ih (L - wd B L (sk B L q)).toNat (by omega) j fuelN jO 0 1 (x4 + 1) (wd B L (sk B L q)) (S1 + x2 + x3) (sk B L (sk B L q)) f4 E5 (by omega) (by omega) (by omega) (by omega) (by omega) (Or.inl rfl) (Or.inr rfl) (by omega) (by omega) (by omega) (by omega) wq.2.2 t3 (m6.go t2)
          unfold refA at K
          rw [if_pos rfl, bI_q, ck_p (by decide), if_neg n1, t1, bI_q, ck_p (by decide), if_neg n1, F_X12_readAllOf]
          simp only [if_true, if_neg n01] at K
          have e0 : stk 0 (stk 1 st) = true :: st := by unfold stk; rw [if_neg n01, if_pos rfl]
          rw [e0] at K
          exact K.pre (m3.tr t2.l) m4 m7 (by omega) (by omega)
        | false =>
          rw [if_neg Bool.false_ne_true, bI_q, ck_p (by decide), if_pos rfl, tW_f hB m5 (by omega) skq.2 (by decide) hw2, bI_q, ck_p (by decide), if_pos rfl, sk_sk u4]
          exact LK.yes rfl rfl m3 m4 (by omega) skq.2 (by omega) m5 m6 m7
end PXd
