/-! THE START: what the Statement gives of texts, statics, classes -/
def FL : List Cond := flatC (Cond.and given_1 narrow_1)
def stF (own : String) (k : Nat) : Term := .field (.string own k) "java/lang/String" "value" "[B"
/-- what is said of one text -/
def stC (q : String × Nat × String) : List Cond := .exactly (.string q.1 q.2.1) "java/lang/String" :: .eq (.field (.string q.1 q.2.1) "java/lang/String" "coder" "B") (.int 0) :: .arrayOf (stF q.1 q.2.1) .byte :: .eq (.length (stF q.1 q.2.1)) (.int (Int32.ofNat (mBy q.2.2).length)) :: (List.range (mBy q.2.2).length).map (fun j => .eq (.elem (stF q.1 q.2.1) (.int (Int32.ofNat j))) (.int ((mBy q.2.2).getD j 0)))
def stP : List Nat := [91, 99, 108, 114, 121, 130, 139, 147, 154, 161, 169, 178, 187, 196, 203, 209, 217, 229, 239, 249, 258, 266, 275, 285, 295, 304, 312, 322, 331, 341, 348, 358, 366, 399, 433, 465, 481, 508, 523, 541, 570, 585, 611, 628, 645, 665, 707, 725, 742, 781, 799, 816, 841, 867, 895, 904, 917, 928, 939, 949, 958, 968, 979, 989, 1000, 1008, 1019, 1028, 1039, 1049, 1058, 1069, 1078, 1088, 1095, 1103, 1111, 1119, 1129, 1139, 1147]
def stT : List Nat := [738, 791, 804, 818, 835, 836, 837, 846, 847, 848, 849, 850, 851, 853, 854, 862, 873, 874, 875, 876, 877, 886, 895, 897, 902, 903, 904, 909, 914, 915, 916, 917, 974, 1010, 1032, 1055, 1077, 1095, 1109, 1112, 1124, 1127, 1148, 1153, 1166, 1179, 1187, 1200, 1210, 1236, 1381, 1401, 1431, 1465, 1618, 1637, 1638, 1639, 1640, 1641, 1650, 1655, 1660, 1665, 1666, 1671, 1672, 1685, 1694, 1695, 1696, 1705, 1706, 1707, 1728, 1745, 1746, 1747, 1748, 1749, 1750]
def stOk (x : (String × Nat × String) × Nat) : Bool := decide (stC x.1 = (FL.drop x.2).take (4 + (mBy x.1.2.2).length)) && decide ((mBy x.1.2.2).length < 1000)
theorem st_ok : (mStr.zip stP).all stOk = true := by decide +kernel
def stTk (x : (String × Nat × String) × Nat) : Bool := decide (tables_1[x.2]? = some (.stringRef x.1.1 x.1.2.1 x.1.2.2))
theorem st_tk : (mStr.zip stT).all stTk = true := by decide +kernel
theorem st_len : mStr.length = 81 := by decide +kernel
theorem st_zip {l : List Nat} (hl : l.length = 81) {i : Nat} {q : String × Nat × String} (h : mStr[i]? = some q) : ∃ p, (mStr.zip l)[i]? = some (q, p) := by
  have hi : i < 81 := by
    have h9 := (List.getElem?_eq_some_iff.mp h).1
    rw [st_len] at h9
    exact h9
  refine ⟨l[i]'(by omega), ?_⟩
  rw [List.getElem?_zip_eq_some]
  exact ⟨h, List.getElem?_eq_getElem (by omega)⟩
theorem st_in {i : Nat} {q : String × Nat × String} (h : mStr[i]? = some q) : (∀ w ∈ stC q, w ∈ FL) ∧ (mBy q.2.2).length < 1000 := by
  obtain ⟨p, hp⟩ := st_zip (l := stP) (by decide) h
  have h2 := List.all_eq_true.mp st_ok _ (List.mem_of_getElem? hp)
  unfold stOk at h2
  rw [Bool.and_eq_true] at h2
  have h3 : stC q = (FL.drop p).take (4 + (mBy q.2.2).length) := of_decide_eq_true h2.1
  refine ⟨fun w hw => ?_, of_decide_eq_true h2.2⟩
  rw [h3] at hw
  exact List.mem_of_mem_drop (List.mem_of_mem_take hw)
theorem st_ref {i : Nat} {q : String × Nat × String} (h : mStr[i]? = some q) : Cond.stringRef q.1 q.2.1 q.2.2 ∈ tables_1 := by
  obtain ⟨p, hp⟩ := st_zip (l := stT) (by decide) h
  have h2 := List.all_eq_true.mp st_tk _ (List.mem_of_getElem? hp)
  unfold stTk at h2
  have h3 : tables_1[p]? = some (.stringRef q.1 q.2.1 q.2.2) := of_decide_eq_true h2
  exact List.mem_of_getElem? h3
section PSt
variable {args : Array Value} {s : State} {A : Nat → Prop}
theorem st_field {tm : Term} {o n d : String} {a : Nat} {v : Value} (ht : tm.eval args s none [] s = some (.ref a)) (hv : (Term.field tm o n d).eval args s none [] s = some v) (hA : ∀ a : Nat, a < s.heap.size → ¬ A a) : va_OF o n d v a A s s.heap := by
  cases hfo : s.fieldFound? o n d with
  | none =>
    rw [va_fe ht] at hv
    simp [State.fieldOf?, State.fieldNamed?, hfo] at hv
  | some x =>
    obtain ⟨cf, k, fi, f⟩ := x
    obtain ⟨g1, cell, g2, g3, -, -, g6⟩ := Term.field_spec hfo ht hv
    exact ⟨cf, k, fi, f, cell, hfo, g1, g2, g3, g6, hA _ (Array.getElem?_eq_some_iff.mp g2).1⟩
theorem st_one {q : String × Nat × String} (hr : (Cond.stringRef q.1 q.2.1 q.2.2).before args s = true) (hc : ∀ w ∈ stC q, w.before args s = true) (hn : (mBy q.2.2).length < 1000) (hA : ∀ a : Nat, a < s.heap.size → ¬ A a) :
    ∃ a t : Nat, vk_R q.1 q.2.1 q.2.2 a s ∧ va_O "java/lang/String" a A s s.heap ∧ va_OF "java/lang/String" "coder" "B" (.int 0) a A s s.heap ∧ va_OF "java/lang/String" "value" "[B" (.ref t) a A s s.heap ∧ va_T .byte t (mBy q.2.2).length (fun j => .int ((mBy q.2.2).getD j 0)) A s s.heap := by
  have h1 : (Cond.exactly (.string q.1 q.2.1) "java/lang/String").before args s = true := hc _ (List.mem_cons_self)
  have h2 : (Cond.eq (.field (.string q.1 q.2.1) "java/lang/String" "coder" "B") (.int 0)).before args s = true := hc _ (List.mem_cons_of_mem _ List.mem_cons_self)
  have h3 : (Cond.arrayOf (stF q.1 q.2.1) .byte).before args s = true := hc _ (List.mem_cons_of_mem _ (List.mem_cons_of_mem _ List.mem_cons_self))
  have h4 : (Cond.eq (.length (stF q.1 q.2.1)) (.int (Int32.ofNat (mBy q.2.2).length))).before args s = true := hc _ (List.mem_cons_of_mem _ (List.mem_cons_of_mem _ (List.mem_cons_of_mem _ List.mem_cons_self)))
  have h5 : ∀ j : Nat, j < (mBy q.2.2).length → (Cond.eq (.elem (stF q.1 q.2.1) (.int (Int32.ofNat j))) (.int ((mBy q.2.2).getD j 0))).before args s = true := by
    intro j hj
    refine hc _ ?_
    unfold stC
    refine List.mem_cons_of_mem _ (List.mem_cons_of_mem _ (List.mem_cons_of_mem _ (List.mem_cons_of_mem _ ?_)))
    exact List.mem_map.mpr ⟨j, List.mem_range.mpr hj, rfl⟩
  obtain ⟨a, c, cA, kA, q1, -⟩ := Cond.exactly_spec (args := args) (first := s) (o := none) (s := s) (idx := []) (t := .string q.1 q.2.1) (cls := "java/lang/String") h1
  obtain ⟨t, ht, hT⟩ := va_Tof (tm := stF q.1 q.2.1) (f := fun j => .int ((mBy q.2.2).getD j 0)) (Nat.lt_trans hn (by decide)) h3 (va_eqv h4 rfl) (fun j hj => va_eqv (h5 j hj) rfl) hA
  exact ⟨a, t, vk_R.of hr q1, va_Oof h1 q1 hA, st_field q1 (va_eqv h2 rfl) hA, st_field q1 ht hA, hT⟩
end PSt
def decOk : Bool := mDec.all (fun q => decide (Cond.declares q ∈ tables_1)) && mCas.all (fun q => decide (Cond.castable q.1 q.2 ∈ tables_1)) && (List.range 5).all (fun i => (List.range 5).all (fun j => i == j || decide (Cond.not (.castable (xn i) (xn j)) ∈ FL)))
theorem dec_ok : decOk = true := by decide +kernel
theorem xn_at {args : Array Value} {s : State} (hts : ∀ w ∈ tables_1, w.before args s = true) (hf : ∀ w ∈ FL, w.before args s = true) : XN s := by
  have h := dec_ok
  unfold decOk at h
  rw [Bool.and_eq_true, Bool.and_eq_true] at h
  obtain ⟨⟨h1, h2⟩, h3⟩ := h
  refine ⟨fun q hq => va_Nw.of rfl (hts _ (of_decide_eq_true (List.all_eq_true.mp h1 q hq))), fun q hq => va_Nw.of rfl (hts _ (of_decide_eq_true (List.all_eq_true.mp h2 q hq))), fun i j hi hj hij => va_Nc.of (hf _ ?_)⟩
  have h4 := List.all_eq_true.mp (List.all_eq_true.mp h3 i (List.mem_range.mpr hi)) j (List.mem_range.mpr hj)
  rw [Bool.or_eq_true] at h4
  rcases h4 with h4 | h4
  · exact absurd (by simpa using h4) hij
  · exact of_decide_eq_true h4
theorem fl_1 : (Cond.eq (.static "java/lang/String" "COMPACT_STRINGS" "Z") (.int 1)) ∈ FL := List.mem_of_getElem? (i := 4) (by decide +kernel)
theorem fl_2 : (Cond.isRef (.static "jdk/internal/util/Preconditions" "SIOOBE_FORMATTER" "Ljava/util/function/BiFunction;")) ∈ FL := List.mem_of_getElem? (i := 5) (by decide +kernel)
theorem fl_3 : (Cond.isRef (.static Bundle.tN "UNASSIGNED_STACK" Bundle.steD)) ∈ FL := List.mem_of_getElem? (i := 9) (by decide +kernel)
theorem fl_4 : (Cond.isRef (.static Bundle.tN "SUPPRESSED_SENTINEL" Bundle.listD)) ∈ FL := List.mem_of_getElem? (i := 10) (by decide +kernel)
theorem tl_1 : Cond.laysStatic "java/lang/String" "COMPACT_STRINGS" "Z" ∈ tables_1 := List.mem_of_getElem? (i := 752) (by decide +kernel)
theorem tl_2 : Cond.laysStatic "jdk/internal/util/Preconditions" "SIOOBE_FORMATTER" "Ljava/util/function/BiFunction;" ∈ tables_1 := List.mem_of_getElem? (i := 768) (by decide +kernel)
theorem tl_3 : Cond.laysStatic Bundle.tN "UNASSIGNED_STACK" Bundle.steD ∈ tables_1 := List.mem_of_getElem? (i := 958) (by decide +kernel)
theorem tl_4 : Cond.laysStatic Bundle.tN "SUPPRESSED_SENTINEL" Bundle.listD ∈ tables_1 := List.mem_of_getElem? (i := 960) (by decide +kernel)
theorem ti_1_ : Cond.initialized "java/lang/String" ∈ tables_1 := List.mem_of_getElem? (i := 16) (by decide +kernel)
theorem ti_2_ : Cond.initialized "jdk/internal/util/Preconditions" ∈ tables_1 := List.mem_of_getElem? (i := 18) (by decide +kernel)
theorem ti_3_ : Cond.initialized Bundle.tN ∈ tables_1 := List.mem_of_getElem? (i := 20) (by decide +kernel)
theorem to_1 : Cond.arrayOver (.object "SignBoard$Work") ∈ tables_1 := List.mem_of_getElem? (i := 335) (by decide +kernel)
section PSk
variable {args : Array Value} {s : State}
/-- the world's classes are known -/
theorem cls_known (hts : ∀ w ∈ WSg, w.before args s = true) : ∀ c : Nat, ∃ p : ClassId × (Nat → Nat), ∀ q : vw_C, mCl[c]? = some q → u_Kn s q.1 q.2.1 q.2.2 p.1 p.2 := by
  intro c
  match c with
  | 0 =>
    obtain ⟨cC, iS, h⟩ := u_known (T := TX0) (N := 6) (n := 6) hts kc_0.2.1 (hts _ w_256)
    exact ⟨(cC, iS), fun q hq => by cases hq; exact h⟩
  | 1 =>
    obtain ⟨cC, iS, h⟩ := u_known (T := TX1) (N := 3) (n := 3) hts kc_1.2.1 (hts _ w_329)
    exact ⟨(cC, iS), fun q hq => by cases hq; exact h⟩
  | 2 =>
    obtain ⟨cC, iS, h⟩ := u_known (T := TX2) (N := 6) (n := 6) hts kc_2.2.1 (hts _ w_166)
    exact ⟨(cC, iS), fun q hq => by cases hq; exact h⟩
  | 3 =>
    obtain ⟨cC, iS, h⟩ := u_known (T := TX3) (N := 3) (n := 3) hts kc_3.2.1 (hts _ w_379)
    exact ⟨(cC, iS), fun q hq => by cases hq; exact h⟩
  | 4 =>
    obtain ⟨cC, iS, h⟩ := u_known (T := TX4) (N := 6) (n := 6) hts kc_4.2.1 (hts _ w_282)
    exact ⟨(cC, iS), fun q hq => by cases hq; exact h⟩
  | 5 =>
    obtain ⟨cC, iS, h⟩ := u_known (T := TX5) (N := 5) (n := 5) hts kc_5.2.1 (hts _ w_307)
    exact ⟨(cC, iS), fun q hq => by cases hq; exact h⟩
  | 6 =>
    obtain ⟨cC, iS, h⟩ := u_known (T := TX6) (N := 17) (n := 17) hts kc_6.2.1 (hts _ w_66)
    exact ⟨(cC, iS), fun q hq => by cases hq; exact h⟩
  | 7 =>
    obtain ⟨cC, iS, h⟩ := u_known (T := TX7) (N := 4) (n := 4) hts kc_7.2.1 (hts _ w_349)
    exact ⟨(cC, iS), fun q hq => by cases hq; exact h⟩
  | 8 =>
    obtain ⟨cC, iS, h⟩ := u_known (T := TX8) (N := 5) (n := 5) hts kc_8.2.1 (hts _ w_39)
    exact ⟨(cC, iS), fun q hq => by cases hq; exact h⟩
  | 9 =>
    obtain ⟨cC, iS, h⟩ := u_known (T := TX10) (N := 11) (n := 11) hts kc_9.2.1 (hts _ w_197)
    exact ⟨(cC, iS), fun q hq => by cases hq; exact h⟩
  | 10 =>
    obtain ⟨cC, iS, h⟩ := u_known (T := TX11) (N := 16) (n := 16) hts kc_10.2.1 (hts _ w_31)
    exact ⟨(cC, iS), fun q hq => by cases hq; exact h⟩
  | 11 =>
    obtain ⟨cC, iS, h⟩ := u_known (T := TX12) (N := 28) (n := 28) hts kc_11.2.1 (hts _ w_1471)
    exact ⟨(cC, iS), fun q hq => by cases hq; exact h⟩
  | n + 12 => exact ⟨(0, fun _ => 0), fun q hq => absurd hq (by simp)⟩
theorem arr_known {ty : FieldType} (h : (Cond.arrayClass ty).before args s = true) (hty : ∀ C, ty ≠ .object C) : ∃ cA : ClassId, ArrOfT s cA ty ∧ va_RA s cA ty := by
  obtain ⟨c, k, comp, h1, h2, h3⟩ := Cond.arrayClass_spec (args := args) (first := s) (o := none) (s := s) (idx := []) (type := ty) h
  refine ⟨c, fun n z => ⟨fun k h => (by cases h), k, h2, comp, h3⟩, ?_⟩
  cases ty with
  | object C => exact absurd rfl (hty C)
  | _ => exact h1
theorem arr_knownO {C : String} (h : (Cond.arrayOver (.object C)).before args s = true) : ∃ cA : ClassId, ArrOfT s cA (.object C) ∧ va_RA s cA (.object C) := by
  obtain ⟨comp, c, k, h1, -, h2, h3, h4⟩ := Cond.arrayOver_spec (args := args) (first := s) (o := none) (s := s) (idx := []) h
  exact ⟨c, fun n z => ⟨fun k h => (by cases h), k, h2, comp, h3⟩, k, comp, h2, h3, h1, h4⟩
end PSk
