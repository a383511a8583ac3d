/-! CONSTRUCTORS: the world grows behind a beginning P; each writes what 9y tells -/
section PC0
variable {Ω : mO} {M M' : mM} {d d' c k c' k' : Nat} {Z : mZ} {pc pc' : Nat} {ls : List (Option mV)} {st rest : List mV} {P L L' L2 : List mC} {D D2 : mD} {c0 k0 : Nat}
def rN (sk : List mC) (D : mD) : mZ := fun o h => o = .inl none ∧ h = (sk, D, true)
theorem pl_at {a j : Nat} {x : mC} (ha : P.length + j = a) (h : L[j]? = some x) : (P ++ L)[a]? = some x := by
  subst ha
  rw [List.getElem?_append_right (Nat.le_add_right _ _), Nat.add_sub_cancel_left]
  exact h
theorem pl_set {a j : Nat} {x : mC} (ha : P.length + j = a) : (P ++ L).set a x = P ++ L.set j x := by
  subst ha
  rw [List.set_append_right _ _ (Nat.le_add_right _ _), Nat.add_sub_cancel_left]
theorem n_getR {a i sl ci n r j : Nat} {rs : List (Option Nat)} {C ref : String} {T : u_T} {N : Nat} {ty : Nat → FieldType} (K : Kc ci C T N ty) (hw : Cond.fieldLink M.1.cls i ref (T sl).2.1 (T sl).2.2.1 ∈ WSg) (hsm : ref = (T sl).1 ∨ Cond.sameField ref (T sl).1 (T sl).2.1 (T sl).2.2.1 ∈ WSg) (hs : sl < N)
    (hd : decode M.2.1 pc = .ok (.getfield i, 3)) (hn : pc + 3 = pc') (hP : P.length + j = a) (ha : a < 1000000) (hk : L[j]? = some (ci, n, rs)) (hsn : sl < n) (hr : rs.getD sl none = some (r + 1)) (hr2 : r < 1000000)
    (kk : J Ω M d c k Z pc' ls (mR r :: st) (P ++ L, D, true) c0 k0) : J Ω M d c k Z pc ls (mR a :: st) (P ++ L, D, true) c0 k0 := j_getR K hw hsm hs hd hn ha (pl_at hP hk) hsn hr hr2 kk
theorem n_putI {a i sl ci n j : Nat} {i' : Int} {rs : List (Option Nat)} {C : String} {T : u_T} {N : Nat} {ty : Nat → FieldType} {z : Int} (K : Kc ci C T N ty) (hw : Cond.fieldLink M.1.cls i (T sl).1 (T sl).2.1 (T sl).2.2.1 ∈ WSg) (hs : sl < N) (hfin : (T sl).2.2.2 = false ∨ (T sl).2.2.2 = true ∧ M.1.name = "<init>" ∧ (T sl).1 = M.1.cls) (hty : ty sl = .int ∨ ty sl = .boolean ∧ (z = 0 ∨ z = 1))
    (hd : decode M.2.1 pc = .ok (.putfield i, 3)) (hn : pc + 3 = pc') (hP : P.length + j = a) (ha : a < 1000000) (hk : L[j]? = some (ci, n, rs)) (hsn : sl < n) (hr : rs.getD sl none = none) (hi : (sl : Int) = i')
    (kk : J Ω M d c k Z pc' ls st (P ++ L, pD D a i' z, true) c0 k0) : J Ω M d c k Z pc ls (mI z :: mR a :: st) (P ++ L, D, true) c0 k0 := by
  subst hi
  exact j_putI K hw hs hfin hty hd hn ha (pl_at hP hk) hsn hr kk
theorem n_putR {a i sl ci n r j : Nat} {rs : List (Option Nat)} {C : String} {T : u_T} {N : Nat} {ty : Nat → FieldType} (K : Kc ci C T N ty) (hw : Cond.fieldLink M.1.cls i (T sl).1 (T sl).2.1 (T sl).2.2.1 ∈ WSg) (hs : sl < N) (hfin : (T sl).2.2.2 = true ∧ M.1.name = "<init>" ∧ (T sl).1 = M.1.cls) (hty : (∃ q, ty sl = .object q) ∨ ∃ q, ty sl = .array q)
    (hd : decode M.2.1 pc = .ok (.putfield i, 3)) (hn : pc + 3 = pc') (hP : P.length + j = a) (ha : a < 1000000) (hk : L[j]? = some (ci, n, rs)) (hsn : sl < n) (hrl : sl < rs.length) (hr2 : r < 1000000) (hL : L.set j (ci, n, rs.set sl (some (r + 1))) = L')
    (kk : J Ω M d c k Z pc' ls st (P ++ L', D, true) c0 k0) : J Ω M d c k Z pc ls (mR r :: mR a :: st) (P ++ L, D, true) c0 k0 := by
  subst hL
  refine j_putR K hw hs hfin hty hd hn ha (pl_at hP hk) hsn hrl hr2 ?_
  rw [pl_set hP, sA_same]
  exact kk
theorem n_iast {a n j : Nat} {rs : List (Option Nat)} {i z : Int} (hd : decode M.2.1 pc = .ok (.iastore, 1)) (hn : pc + 1 = pc') (hP : P.length + j = a) (ha : a < 1000000) (hk : L[j]? = some (20, n, rs)) (hm : n < 2147483648) (h0 : 0 ≤ i) (h1 : i < n)
    (kk : J Ω M d c k Z pc' ls st (P ++ L, pD D a i z, true) c0 k0) : J Ω M d c k Z pc ls (mI z :: mI i :: mR a :: st) (P ++ L, D, true) c0 k0 := j_iast hd hn ha (pl_at hP hk) hm h0 h1 kk
theorem n_newa {at_ : ArrayType} {kd N a : Nat} {n : Int} (hkd : (kd = 20 ∧ at_ = .int) ∨ (kd = 21 ∧ at_ = .byte) ∨ (kd = 22 ∧ at_ = .long)) (hw : Cond.arrayClass (newarray.typeOf at_) ∈ WSg) (hd : decode M.2.1 pc = .ok (.newarray at_, 2)) (hn : pc + 2 = pc') (hN : n = (N : Int)) (hb : N ≤ 60000000) (hl1 : a < 1000000) (hc : c0 + 1 ≤ c) (hk : k0 + N ≤ k) (ha : P.length + L.length = a) (hL : L ++ [(kd, N, [])] = L')
    (kk : J Ω M d c k Z pc' ls (mR a :: st) (P ++ L', nw a D, true) (c0 + 1) (k0 + N)) : J Ω M d c k Z pc ls (mI n :: st) (P ++ L, D, true) c0 k0 := by
  subst ha; subst hL
  have e : (P ++ L).length = P.length + L.length := List.length_append
  refine j_newa hkd hw hd hn hN hb (by rw [e]; exact hl1) hc hk ?_
  rw [e, List.append_assoc]
  exact kk
theorem n_anewa {i N a : Nat} {n : Int} (hw : Cond.classLink M.1.cls i "SignBoard$Work" ∈ WSg) (hd : decode M.2.1 pc = .ok (.anewarray i, 3)) (hn : pc + 3 = pc') (hN : n = (N : Int)) (hb : N ≤ 60000000) (hl1 : a < 1000000) (hc : c0 + 1 ≤ c) (hk : k0 + N ≤ k) (ha : P.length + L.length = a) (hL : L ++ [(23, N, List.replicate N (some 0))] = L')
    (kk : J Ω M d c k Z pc' ls (mR a :: st) (P ++ L', nw a D, true) (c0 + 1) (k0 + N)) : J Ω M d c k Z pc ls (mI n :: st) (P ++ L, D, true) c0 k0 := by
  subst ha; subst hL
  have e : (P ++ L).length = P.length + L.length := List.length_append
  refine j_anewa hw hd hn hN hb (by rw [e]; exact hl1) hc hk ?_
  rw [e, List.append_assoc]
  exact kk
theorem n_new {i ci a : Nat} {rs : List (Option Nat)} {C : String} {T : u_T} {N : Nat} {ty : Nat → FieldType} (K : Kc ci C T N ty) (hw : Cond.classLink M.1.cls i C ∈ WSg) (hw2 : Cond.instantiable C N ∈ WSg) (hw3 : Cond.initialized C ∈ WSg) (hty : ∀ (Ω : mO) (j : Nat), j < N → defaultValue (ty j) = cs Ω (rs.getD j none) 0)
    (hd : decode M.2.1 pc = .ok (.new i, 3)) (hn : pc + 3 = pc') (hl1 : a < 1000000) (hc : c0 + 1 ≤ c) (hk : k0 + N ≤ k) (ha : P.length + L.length = a) (hL : L ++ [(ci, N, rs)] = L')
    (kk : J Ω M d c k Z pc' ls (mR a :: st) (P ++ L', nw a D, true) (c0 + 1) (k0 + N)) : J Ω M d c k Z pc ls st (P ++ L, D, true) c0 k0 := by
  subst ha; subst hL
  have e : (P ++ L).length = P.length + L.length := List.length_append
  refine j_new K hw hw2 hw3 (hty Ω) hd hn (by rw [e]; exact hl1) hc hk ?_
  rw [e, List.append_assoc]
  exact kk
theorem n_aast {a n r nn j jr : Nat} {rs rs' : List (Option Nat)} {i : Int} (hd : decode M.2.1 pc = .ok (.aastore, 1)) (hn : pc + 1 = pc') (hP : P.length + j = a) (hP2 : P.length + jr = r) (ha : a < 1000000) (hr2 : r < 1000000) (hk : L[j]? = some (23, n, rs)) (hr : L[jr]? = some (9, nn, rs')) (hm : n < 2147483648) (hrl : rs.length = n) (h0 : 0 ≤ i) (h1 : i < n) (hL : L.set j (23, n, rs.set i.toNat (some (r + 1))) = L')
    (kk : J Ω M d c k Z pc' ls st (P ++ L', D, true) c0 k0) : J Ω M d c k Z pc ls (mR r :: mI i :: mR a :: st) (P ++ L, D, true) c0 k0 := by
  subst hL
  refine j_aast hd hn ha (pl_at hP hk) (pl_at hP2 hr) hr2 hm hrl h0 h1 ?_
  rw [pl_set hP, sA_same]
  exact kk
theorem n_callI {i n a : Nat} {as : List mV} (hM : CM d' c' k' M' (mR a :: as) (P ++ L, D, true) (rN (P ++ L2) D2)) (w : Cw M.1.cls M' i n) (hi : Cond.instanceMethod M'.1 ∈ WSg) (hnm : M'.1.name = "<init>") (hrt : M'.2.2.2.1 = none)
    (hd : decode M.2.1 pc = .ok (.invokespecial i, 3)) (hn : pc + 3 = pc') (hdd : d' + 1 ≤ d) (hlen : as.length = n) (ht : M.2.2.2.2 = []) (ha : a < 1000000) (hst : as.reverse ++ mR a :: rest = st) (hrs : (rest.all c1 && Nat.ble rest.length 8) = true) (hcc : c0 + c' ≤ c) (hkk : k0 + k' ≤ k)
    (kk : J Ω M d c k Z pc' ls rest (P ++ L2, D2, true) (c0 + c') (k0 + k')) : J Ω M d c k Z pc ls st (P ++ L, D, true) c0 k0 :=
  j_callI hM w hi hnm hrt hd hn hdd hlen ht ha hst.symm (hrs_of hrs) hcc hkk (fun v h' hz => by obtain ⟨e1, e2⟩ := hz; cases e1; cases e2; exact kk) (fun i h' hz => by cases hz.1)
theorem n_callV {i n a ci nn j : Nat} {rs : List (Option Nat)} {C : String} {T : u_T} {N : Nat} {ty : Nat → FieldType} {as : List mV} (hM : CM d' c' k' M' (mR a :: as) (P ++ L, D, true) (rN (P ++ L) D2)) (w : Cw M.1.cls M' i n) (K : Kc ci C T N ty) (hi : Cond.instanceMethod M'.1 ∈ WSg) (hs : Cond.selects C M'.1 M'.1 ∈ WSg)
    (hd : decode M.2.1 pc = .ok (.invokevirtual i, 3)) (hn : pc + 3 = pc') (hdd : d' + 1 ≤ d) (hlen : as.length = n) (ht : M.2.2.2.2 = []) (hP : P.length + j = a) (ha : a < 1000000) (hk : L[j]? = some (ci, nn, rs)) (hst : as.reverse ++ mR a :: rest = st) (hrs : (rest.all c1 && Nat.ble rest.length 8) = true) (hcc : c0 + c' ≤ c) (hkk : k0 + k' ≤ k)
    (kk : J Ω M d c k Z pc' ls rest (P ++ L, D2, true) (c0 + c') (k0 + k')) : J Ω M d c k Z pc ls st (P ++ L, D, true) c0 k0 :=
  j_callV hM w K hi hs hd hn hdd hlen ht ha (pl_at hP hk) hst.symm (hrs_of hrs) hcc hkk (fun v h' hz => by obtain ⟨e1, e2⟩ := hz; cases e1; cases e2; exact kk) (fun i h' hz => by cases hz.1)
theorem n_callS {i n : Nat} {as : List mV} (hM : CM d' c' k' M' as (P ++ L, D, true) (rN (P ++ L) D2)) (w : Cw M.1.cls M' i n) (hi : Cond.static M'.1 ∈ WSg)
    (hd : decode M.2.1 pc = .ok (.invokestatic i, 3)) (hn : pc + 3 = pc') (hdd : d' + 1 ≤ d) (hlen : as.length = n) (ht : M.2.2.2.2 = []) (hst : as.reverse ++ rest = st) (hrs : (rest.all c1 && Nat.ble rest.length 8) = true) (hcc : c0 + c' ≤ c) (hkk : k0 + k' ≤ k)
    (kk : J Ω M d c k Z pc' ls rest (P ++ L, D2, true) (c0 + c') (k0 + k')) : J Ω M d c k Z pc ls st (P ++ L, D, true) c0 k0 :=
  j_callS hM w hi hd hn hdd hlen ht hst.symm (hrs_of hrs) hcc hkk (fun v h' hz => by obtain ⟨e1, e2⟩ := hz; cases e1; cases e2; exact kk) (fun i h' hz => by cases hz.1)
/-- a beginning grows -/
theorem pl_cm {X Y L1 : List mC} {as : List mV} (h : CM d c k M as ((P ++ L) ++ X, D, true) (rN ((P ++ L) ++ Y) D2)) (hX : L ++ X = L1) (hY : L ++ Y = L2) : CM d c k M as (P ++ L1, D, true) (rN (P ++ L2) D2) := by
  subst hX; subst hY
  rw [← List.append_assoc, ← List.append_assoc]
  exact h
theorem pl_len {a : Nat} (hP : P.length + L.length = a) : (P ++ L).length = a := by rw [List.length_append]; exact hP
theorem g_alen {a n : Nat} {sk : List mC} {g : Bool} {rs : List (Option Nat)} (hd : decode M.2.1 pc = .ok (.arraylength, 1)) (hn : pc + 1 = pc') (ha : a < 1000000) (hk : sk[a]? = some (20, n, rs))
    (kk : J Ω M d c k Z pc' ls (mI (n : Int) :: st) (sk, D, g) c0 k0) : J Ω M d c k Z pc ls (mR a :: st) (sk, D, g) c0 k0 := by
  intro p e s m args below meth cd H locs la X w hS hl
  subst hn
  have q := kk p e s m args below meth cd H locs la X w hS hl
  have he : (cw Ω (sk, D, g))[a]? = some (oB Ω + a, .inl (oI Ω, n, .inl (fun j : Nat => Int32.ofInt (D a (j : Int))))) := by rw [cw_at (h := (sk, D, g)) hk]; rfl
  rw [List.map_cons, show cv Ω (mR a) = .ref (oB Ω + a) by show Value.ref _ = _; rw [ca_lo ha]]
  exact va_alen X.1 X.2.1 w.2.1 w.1 a 0 he rfl (v := Int32.ofInt (n : Int)) (by rw [Int32.ofInt_eq_ofNat]) hd q
theorem n_fill {d : Nat} {a N j : Nat} {rs : List (Option Nat)} {v : Int} {D : mD} (hP : P.length + j = a) (ha : a < 1000000) (hk0 : L[j]? = some (20, N, rs)) (hm : N < 1000000) {n : Int} (hn : (N : Int) = n) : CM d 0 0 M_J7_fill_53178 [mR a, mI v] (P ++ L, D, true) (rN (P ++ L) (fillD D a n v)) := by
  subst hn
  have hk := pl_at hP hk0
  generalize P ++ L = sk at hk
  have loop : ∀ (Ω : mO) (m i : Nat) (D : mD) (Z : mZ), i + m = N → Z (.inl none) (sk, sA D a (fun j => if (i : Int) ≤ j ∧ j < N then v else D a j), true) → J Ω M_J7_fill_53178 d 0 0 Z 5 [some (mR a), some (mI v), some (mI (i : Int)), some (mI (N : Int))] [] (sk, D, true) 0 0 := by
    intro Ω m
    induction m with
    | zero =>
      intro i D Z hi hz
      refine j_iload_n (pc' := 6) dJ7_fill_53178_5 rfl rfl (j_iload_n (pc' := 7) dJ7_fill_53178_6 rfl rfl (j_icmp_ge (tgt := 20) (pc' := 10) dJ7_fill_53178_7 rfl rfl ⟨by omega, by omega⟩ ⟨by omega, by omega⟩ (fun q => ?_) (fun q => absurd q (by omega))))
      refine j_vret dJ7_fill_53178_20 rfl (Nat.le_refl _) (Nat.le_refl _) ?_
      have e : (fun j => if (i : Int) ≤ j ∧ j < N then v else D a j) = D a := by
        funext j
        rw [if_neg (by omega)]
      rw [e, sA_same] at hz
      exact hz
    | succ m ih =>
      intro i D Z hi hz
      refine j_iload_n (pc' := 6) dJ7_fill_53178_5 rfl rfl (j_iload_n (pc' := 7) dJ7_fill_53178_6 rfl rfl (j_icmp_ge (tgt := 20) (pc' := 10) dJ7_fill_53178_7 rfl rfl ⟨by omega, by omega⟩ ⟨by omega, by omega⟩ (fun q => absurd q (by omega)) (fun q => ?_)))
      refine j_aload_n (pc' := 11) dJ7_fill_53178_10 rfl rfl (j_iload_n (pc' := 12) dJ7_fill_53178_11 rfl rfl (j_iload_n (pc' := 13) dJ7_fill_53178_12 rfl rfl (j_iast (pc' := 14) dJ7_fill_53178_13 rfl ha hk (by omega) (by omega) (by omega) ?_)))
      refine j_iinc (pc' := 17) (z' := ((i + 1 : Nat) : Int)) (ls' := [some (mR a), some (mI v), some (mI ((i + 1 : Nat) : Int)), some (mI (N : Int))]) dJ7_fill_53178_14 rfl rfl (by omega) (by decide) rfl (j_goto (tgt := 5) dJ7_fill_53178_17 rfl ?_)
      refine ih (i + 1) _ Z (by omega) ?_
      have e : sA (pD D a (i : Int) v) a (fun j => if ((i + 1 : Nat) : Int) ≤ j ∧ j < N then v else (pD D a (i : Int) v) a j) = sA D a (fun j => if (i : Int) ≤ j ∧ j < N then v else D a j) := by
        funext b j
        unfold pD sA sI
        by_cases eb : b = a
        · subst eb
          simp only [if_true]
          by_cases e1 : j = (i : Int)
          · subst e1
            rw [if_neg (by omega), if_pos rfl, if_pos (by omega)]
          · by_cases e2 : (i : Int) ≤ j ∧ j < N
            · rw [if_pos (by omega), if_pos e2]
            · rw [if_neg (by omega), if_neg e1, if_neg e2]
        · simp [eb]
      exact e ▸ hz
  refine CM.intro (by decide +kernel) rfl rfl (Nat.le_of_ble_eq_true rfl) (fun Ω => ?_)
  refine j_iconst (pc' := 1) dJ7_fill_53178_0 rfl (j_istore_n (pc' := 2) (ls' := [some (mR a), some (mI v), some (mI 0), none]) dJ7_fill_53178_1 rfl (by decide) rfl (j_aload_n (pc' := 3) dJ7_fill_53178_2 rfl rfl (g_alen (pc' := 4) dJ7_fill_53178_3 rfl ha hk ?_)))
  refine j_istore_n (pc' := 5) (ls' := [some (mR a), some (mI v), some (mI 0), some (mI (N : Int))]) dJ7_fill_53178_4 rfl (by decide) rfl ?_
  exact loop Ω N 0 D _ (by omega) ⟨rfl, rfl⟩
end PC0

theorem hty_0 (Ω : mO) (j : Nat) (hj : j < 6) : defaultValue (tyX0 j) = cs Ω ([some 0, some 0, some 0, some 0, some 0, some 0].getD j none) 0 := by
  match j, hj with
  | 0, _ => rfl
  | 1, _ => rfl
  | 2, _ => rfl
  | 3, _ => rfl
  | 4, _ => rfl
  | 5, _ => rfl
  | n + 6, h => exact absurd h (by omega)
theorem hty_1 (Ω : mO) (j : Nat) (hj : j < 3) : defaultValue (tyX1 j) = cs Ω ([some 0, none, none].getD j none) 0 := by
  match j, hj with
  | 0, _ => rfl
  | 1, _ => rfl
  | 2, _ => rfl
  | n + 3, h => exact absurd h (by omega)
theorem hty_2 (Ω : mO) (j : Nat) (hj : j < 6) : defaultValue (tyX2 j) = cs Ω ([none, some 0, some 0, some 0, some 0, none].getD j none) 0 := by
  match j, hj with
  | 0, _ => rfl
  | 1, _ => rfl
  | 2, _ => rfl
  | 3, _ => rfl
  | 4, _ => rfl
  | 5, _ => rfl
  | n + 6, h => exact absurd h (by omega)
theorem hty_3 (Ω : mO) (j : Nat) (hj : j < 3) : defaultValue (tyX3 j) = cs Ω ([some 0, none, some 0].getD j none) 0 := by
  match j, hj with
  | 0, _ => rfl
  | 1, _ => rfl
  | 2, _ => rfl
  | n + 3, h => exact absurd h (by omega)
theorem hty_4 (Ω : mO) (j : Nat) (hj : j < 6) : defaultValue (tyX4 j) = cs Ω ([some 0, some 0, some 0, some 0, none, none].getD j none) 0 := by
  match j, hj with
  | 0, _ => rfl
  | 1, _ => rfl
  | 2, _ => rfl
  | 3, _ => rfl
  | 4, _ => rfl
  | 5, _ => rfl
  | n + 6, h => exact absurd h (by omega)
theorem hty_5 (Ω : mO) (j : Nat) (hj : j < 5) : defaultValue (tyX5 j) = cs Ω ([some 0, some 0, some 0, some 0, none].getD j none) 0 := by
  match j, hj with
  | 0, _ => rfl
  | 1, _ => rfl
  | 2, _ => rfl
  | 3, _ => rfl
  | 4, _ => rfl
  | n + 5, h => exact absurd h (by omega)
theorem hty_6 (Ω : mO) (j : Nat) (hj : j < 17) : defaultValue (tyX6 j) = cs Ω ([none, some 0, some 0, some 0, some 0, none, some 0, none, none, none, none, none, some 0, some 0, none, some 0, none].getD j none) 0 := by
  match j, hj with
  | 0, _ => rfl
  | 1, _ => rfl
  | 2, _ => rfl
  | 3, _ => rfl
  | 4, _ => rfl
  | 5, _ => rfl
  | 6, _ => rfl
  | 7, _ => rfl
  | 8, _ => rfl
  | 9, _ => rfl
  | 10, _ => rfl
  | 11, _ => rfl
  | 12, _ => rfl
  | 13, _ => rfl
  | 14, _ => rfl
  | 15, _ => rfl
  | 16, _ => rfl
  | n + 17, h => exact absurd h (by omega)
theorem hty_7 (Ω : mO) (j : Nat) (hj : j < 4) : defaultValue (tyX7 j) = cs Ω ([some 0, none, some 0, none].getD j none) 0 := by
  match j, hj with
  | 0, _ => rfl
  | 1, _ => rfl
  | 2, _ => rfl
  | 3, _ => rfl
  | n + 4, h => exact absurd h (by omega)
theorem hty_8 (Ω : mO) (j : Nat) (hj : j < 5) : defaultValue (tyX8 j) = cs Ω ([some 0, none, none, none, none].getD j none) 0 := by
  match j, hj with
  | 0, _ => rfl
  | 1, _ => rfl
  | 2, _ => rfl
  | 3, _ => rfl
  | 4, _ => rfl
  | n + 5, h => exact absurd h (by omega)
theorem hty_9 (Ω : mO) (j : Nat) (hj : j < 11) : defaultValue (tyX10 j) = cs Ω ([some 0, some 0, some 0, none, none, none, none, none, some 0, none, none].getD j none) 0 := by
  match j, hj with
  | 0, _ => rfl
  | 1, _ => rfl
  | 2, _ => rfl
  | 3, _ => rfl
  | 4, _ => rfl
  | 5, _ => rfl
  | 6, _ => rfl
  | 7, _ => rfl
  | 8, _ => rfl
  | 9, _ => rfl
  | 10, _ => rfl
  | n + 11, h => exact absurd h (by omega)
theorem hty_10 (Ω : mO) (j : Nat) (hj : j < 16) : defaultValue (tyX11 j) = cs Ω ([some 0, some 0, some 0, some 0, some 0, some 0, some 0, some 0, some 0, some 0, some 0, some 0, some 0, some 0, none, none].getD j none) 0 := by
  match j, hj with
  | 0, _ => rfl
  | 1, _ => rfl
  | 2, _ => rfl
  | 3, _ => rfl
  | 4, _ => rfl
  | 5, _ => rfl
  | 6, _ => rfl
  | 7, _ => rfl
  | 8, _ => rfl
  | 9, _ => rfl
  | 10, _ => rfl
  | 11, _ => rfl
  | 12, _ => rfl
  | 13, _ => rfl
  | 14, _ => rfl
  | 15, _ => rfl
  | n + 16, h => exact absurd h (by omega)
theorem hty_11 (Ω : mO) (j : Nat) (hj : j < 28) : defaultValue (tyX12 j) = cs Ω ([none, some 0, some 0, some 0, some 0, some 0, none, none, some 0, none, none, none, none, none, none, some 0, none, some 0, none, none, none, none, some 0, some 0, some 0, some 0, some 0, some 0].getD j none) 0 := by
  match j, hj with
  | 0, _ => rfl
  | 1, _ => rfl
  | 2, _ => rfl
  | 3, _ => rfl
  | 4, _ => rfl
  | 5, _ => rfl
  | 6, _ => rfl
  | 7, _ => rfl
  | 8, _ => rfl
  | 9, _ => rfl
  | 10, _ => rfl
  | 11, _ => rfl
  | 12, _ => rfl
  | 13, _ => rfl
  | 14, _ => rfl
  | 15, _ => rfl
  | 16, _ => rfl
  | 17, _ => rfl
  | 18, _ => rfl
  | 19, _ => rfl
  | 20, _ => rfl
  | 21, _ => rfl
  | 22, _ => rfl
  | 23, _ => rfl
  | 24, _ => rfl
  | 25, _ => rfl
  | 26, _ => rfl
  | 27, _ => rfl
  | n + 28, h => exact absurd h (by omega)
def shopL (t : Nat) : List mC := [(6, 17, [none, some (t + 2), some (t + 3), some (t + 4), some (t + 5), none, some (t + 6), none, none, none, none, none, some (t + 7), some (t + 8), none, some (t + 9), none]), (20, 12, []), (20, 12, []), (20, 60, []), (20, 60, []), (20, 14, []), (20, 6, []), (20, 6, []), (20, 8, [])]
theorem i_shop {t : Nat} (ht : t < 900) {P : List mC} (hP : P.length = t) {D : mD} : CM 2 8 178 M_X6_init [mR t] (P ++ [(6, 17, [none, some 0, some 0, some 0, some 0, none, some 0, none, none, none, none, none, some 0, some 0, none, some 0, none])], D, true) (rN (P ++ shopL t) (iShop t D)) := by
  refine CM.intro pn_X6 rfl rfl (Nat.le_of_ble_eq_true rfl) (fun Ω => ?_)
  show J Ω M_X6_init 2 8 178 _ 0 [some (mR t)] [] _ 0 0
  refine j_aload_n (pc' := 1) dX6_init_0 rfl rfl ?_
  refine j_objInit (pc' := 4) w_70 w_36 w_37 dX6_init_1 rfl (by decide) (hrs_of rfl) ?_
  refine j_aload_n (pc' := 5) dX6_init_4 rfl rfl ?_
  refine j_bipush (pc' := 7) dX6_init_5 rfl rfl ?_
  refine n_newa (pc' := 9) (L' := [(6, 17, [none, some 0, some 0, some 0, some 0, none, some 0, none, none, none, none, none, some 0, some 0, none, some 0, none]), (20, 12, [])]) (a := (t + 1)) (N := 12) (kd := 20) (Or.inl ⟨rfl, rfl⟩) w_64 dX6_init_7 rfl rfl (Nat.le_of_ble_eq_true rfl) (by omega) (Nat.le_of_ble_eq_true rfl) (Nat.le_of_ble_eq_true rfl) (by rw [hP]; rfl) rfl ?_
  refine n_putR (pc' := 12) (L' := [(6, 17, [none, some (t + 2), some 0, some 0, some 0, none, some 0, none, none, none, none, none, some 0, some 0, none, some 0, none]), (20, 12, [])]) (j := 0) (sl := 1) (r := (t + 1)) (rs := [none, some 0, some 0, some 0, some 0, none, some 0, none, none, none, none, none, some 0, some 0, none, some 0, none]) kc_6 w_74 (by decide) ⟨rfl, rfl, rfl⟩ (Or.inr ⟨_, rfl⟩) dX6_init_9 rfl (by omega) (by omega) rfl (by decide) (Nat.le_of_ble_eq_true rfl) (by omega) rfl ?_
  refine j_aload_n (pc' := 13) dX6_init_12 rfl rfl ?_
  refine j_bipush (pc' := 15) dX6_init_13 rfl rfl ?_
  refine n_newa (pc' := 17) (L' := [(6, 17, [none, some (t + 2), some 0, some 0, some 0, none, some 0, none, none, none, none, none, some 0, some 0, none, some 0, none]), (20, 12, []), (20, 12, [])]) (a := (t + 2)) (N := 12) (kd := 20) (Or.inl ⟨rfl, rfl⟩) w_64 dX6_init_15 rfl rfl (Nat.le_of_ble_eq_true rfl) (by omega) (Nat.le_of_ble_eq_true rfl) (Nat.le_of_ble_eq_true rfl) (by rw [hP]; rfl) rfl ?_
  refine n_putR (pc' := 20) (L' := [(6, 17, [none, some (t + 2), some (t + 3), some 0, some 0, none, some 0, none, none, none, none, none, some 0, some 0, none, some 0, none]), (20, 12, []), (20, 12, [])]) (j := 0) (sl := 2) (r := (t + 2)) (rs := [none, some (t + 2), some 0, some 0, some 0, none, some 0, none, none, none, none, none, some 0, some 0, none, some 0, none]) kc_6 w_78 (by decide) ⟨rfl, rfl, rfl⟩ (Or.inr ⟨_, rfl⟩) dX6_init_17 rfl (by omega) (by omega) rfl (by decide) (Nat.le_of_ble_eq_true rfl) (by omega) rfl ?_
  refine j_aload_n (pc' := 21) dX6_init_20 rfl rfl ?_
  refine j_bipush (pc' := 23) dX6_init_21 rfl rfl ?_
  refine n_newa (pc' := 25) (L' := [(6, 17, [none, some (t + 2), some (t + 3), some 0, some 0, none, some 0, none, none, none, none, none, some 0, some 0, none, some 0, none]), (20, 12, []), (20, 12, []), (20, 60, [])]) (a := (t + 3)) (N := 60) (kd := 20) (Or.inl ⟨rfl, rfl⟩) w_64 dX6_init_23 rfl rfl (Nat.le_of_ble_eq_true rfl) (by omega) (Nat.le_of_ble_eq_true rfl) (Nat.le_of_ble_eq_true rfl) (by rw [hP]; rfl) rfl ?_
  refine n_putR (pc' := 28) (L' := [(6, 17, [none, some (t + 2), some (t + 3), some (t + 4), some 0, none, some 0, none, none, none, none, none, some 0, some 0, none, some 0, none]), (20, 12, []), (20, 12, []), (20, 60, [])]) (j := 0) (sl := 3) (r := (t + 3)) (rs := [none, some (t + 2), some (t + 3), some 0, some 0, none, some 0, none, none, none, none, none, some 0, some 0, none, some 0, none]) kc_6 w_82 (by decide) ⟨rfl, rfl, rfl⟩ (Or.inr ⟨_, rfl⟩) dX6_init_25 rfl (by omega) (by omega) rfl (by decide) (Nat.le_of_ble_eq_true rfl) (by omega) rfl ?_
  refine j_aload_n (pc' := 29) dX6_init_28 rfl rfl ?_
  refine j_bipush (pc' := 31) dX6_init_29 rfl rfl ?_
  refine n_newa (pc' := 33) (L' := [(6, 17, [none, some (t + 2), some (t + 3), some (t + 4), some 0, none, some 0, none, none, none, none, none, some 0, some 0, none, some 0, none]), (20, 12, []), (20, 12, []), (20, 60, []), (20, 60, [])]) (a := (t + 4)) (N := 60) (kd := 20) (Or.inl ⟨rfl, rfl⟩) w_64 dX6_init_31 rfl rfl (Nat.le_of_ble_eq_true rfl) (by omega) (Nat.le_of_ble_eq_true rfl) (Nat.le_of_ble_eq_true rfl) (by rw [hP]; rfl) rfl ?_
  refine n_putR (pc' := 36) (L' := [(6, 17, [none, some (t + 2), some (t + 3), some (t + 4), some (t + 5), none, some 0, none, none, none, none, none, some 0, some 0, none, some 0, none]), (20, 12, []), (20, 12, []), (20, 60, []), (20, 60, [])]) (j := 0) (sl := 4) (r := (t + 4)) (rs := [none, some (t + 2), some (t + 3), some (t + 4), some 0, none, some 0, none, none, none, none, none, some 0, some 0, none, some 0, none]) kc_6 w_84 (by decide) ⟨rfl, rfl, rfl⟩ (Or.inr ⟨_, rfl⟩) dX6_init_33 rfl (by omega) (by omega) rfl (by decide) (Nat.le_of_ble_eq_true rfl) (by omega) rfl ?_
  refine j_aload_n (pc' := 37) dX6_init_36 rfl rfl ?_
  refine j_bipush (pc' := 39) dX6_init_37 rfl rfl ?_
  refine n_newa (pc' := 41) (L' := [(6, 17, [none, some (t + 2), some (t + 3), some (t + 4), some (t + 5), none, some 0, none, none, none, none, none, some 0, some 0, none, some 0, none]), (20, 12, []), (20, 12, []), (20, 60, []), (20, 60, []), (20, 14, [])]) (a := (t + 5)) (N := 14) (kd := 20) (Or.inl ⟨rfl, rfl⟩) w_64 dX6_init_39 rfl rfl (Nat.le_of_ble_eq_true rfl) (by omega) (Nat.le_of_ble_eq_true rfl) (Nat.le_of_ble_eq_true rfl) (by rw [hP]; rfl) rfl ?_
  refine n_putR (pc' := 44) (L' := [(6, 17, [none, some (t + 2), some (t + 3), some (t + 4), some (t + 5), none, some (t + 6), none, none, none, none, none, some 0, some 0, none, some 0, none]), (20, 12, []), (20, 12, []), (20, 60, []), (20, 60, []), (20, 14, [])]) (j := 0) (sl := 6) (r := (t + 5)) (rs := [none, some (t + 2), some (t + 3), some (t + 4), some (t + 5), none, some 0, none, none, none, none, none, some 0, some 0, none, some 0, none]) kc_6 w_92 (by decide) ⟨rfl, rfl, rfl⟩ (Or.inr ⟨_, rfl⟩) dX6_init_41 rfl (by omega) (by omega) rfl (by decide) (Nat.le_of_ble_eq_true rfl) (by omega) rfl ?_
  refine j_aload_n (pc' := 45) dX6_init_44 rfl rfl ?_
  refine j_bipush (pc' := 47) dX6_init_45 rfl rfl ?_
  refine n_putI (pc' := 50) (j := 0) (sl := 7) (i' := 7) (rs := [none, some (t + 2), some (t + 3), some (t + 4), some (t + 5), none, some (t + 6), none, none, none, none, none, some 0, some 0, none, some 0, none]) kc_6 w_97 (by decide) (Or.inl rfl) (Or.inl rfl) dX6_init_47 rfl (by omega) (by omega) rfl (by decide) rfl rfl ?_
  refine j_aload_n (pc' := 51) dX6_init_50 rfl rfl ?_
  refine j_iconst (pc' := 52) dX6_init_51 rfl ?_
  refine n_putI (pc' := 55) (j := 0) (sl := 8) (i' := 8) (rs := [none, some (t + 2), some (t + 3), some (t + 4), some (t + 5), none, some (t + 6), none, none, none, none, none, some 0, some 0, none, some 0, none]) kc_6 w_101 (by decide) (Or.inl rfl) (Or.inl rfl) dX6_init_52 rfl (by omega) (by omega) rfl (by decide) rfl rfl ?_
  refine j_aload_n (pc' := 56) dX6_init_55 rfl rfl ?_
  refine j_bipush (pc' := 58) dX6_init_56 rfl rfl ?_
  refine n_putI (pc' := 61) (j := 0) (sl := 9) (i' := 9) (rs := [none, some (t + 2), some (t + 3), some (t + 4), some (t + 5), none, some (t + 6), none, none, none, none, none, some 0, some 0, none, some 0, none]) kc_6 w_105 (by decide) (Or.inl rfl) (Or.inl rfl) dX6_init_58 rfl (by omega) (by omega) rfl (by decide) rfl rfl ?_
  refine j_aload_n (pc' := 62) dX6_init_61 rfl rfl ?_
  refine j_bipush (pc' := 64) dX6_init_62 rfl rfl ?_
  refine n_putI (pc' := 67) (j := 0) (sl := 10) (i' := 10) (rs := [none, some (t + 2), some (t + 3), some (t + 4), some (t + 5), none, some (t + 6), none, none, none, none, none, some 0, some 0, none, some 0, none]) kc_6 w_109 (by decide) (Or.inl rfl) (Or.inl rfl) dX6_init_64 rfl (by omega) (by omega) rfl (by decide) rfl rfl ?_
  refine j_aload_n (pc' := 68) dX6_init_67 rfl rfl ?_
  refine j_bipush (pc' := 70) dX6_init_68 rfl rfl ?_
  refine n_newa (pc' := 72) (L' := [(6, 17, [none, some (t + 2), some (t + 3), some (t + 4), some (t + 5), none, some (t + 6), none, none, none, none, none, some 0, some 0, none, some 0, none]), (20, 12, []), (20, 12, []), (20, 60, []), (20, 60, []), (20, 14, []), (20, 6, [])]) (a := (t + 6)) (N := 6) (kd := 20) (Or.inl ⟨rfl, rfl⟩) w_64 dX6_init_70 rfl rfl (Nat.le_of_ble_eq_true rfl) (by omega) (Nat.le_of_ble_eq_true rfl) (Nat.le_of_ble_eq_true rfl) (by rw [hP]; rfl) rfl ?_
  refine n_putR (pc' := 75) (L' := [(6, 17, [none, some (t + 2), some (t + 3), some (t + 4), some (t + 5), none, some (t + 6), none, none, none, none, none, some (t + 7), some 0, none, some 0, none]), (20, 12, []), (20, 12, []), (20, 60, []), (20, 60, []), (20, 14, []), (20, 6, [])]) (j := 0) (sl := 12) (r := (t + 6)) (rs := [none, some (t + 2), some (t + 3), some (t + 4), some (t + 5), none, some (t + 6), none, none, none, none, none, some 0, some 0, none, some 0, none]) kc_6 w_116 (by decide) ⟨rfl, rfl, rfl⟩ (Or.inr ⟨_, rfl⟩) dX6_init_72 rfl (by omega) (by omega) rfl (by decide) (Nat.le_of_ble_eq_true rfl) (by omega) rfl ?_
  refine j_aload_n (pc' := 76) dX6_init_75 rfl rfl ?_
  refine j_bipush (pc' := 78) dX6_init_76 rfl rfl ?_
  refine n_newa (pc' := 80) (L' := [(6, 17, [none, some (t + 2), some (t + 3), some (t + 4), some (t + 5), none, some (t + 6), none, none, none, none, none, some (t + 7), some 0, none, some 0, none]), (20, 12, []), (20, 12, []), (20, 60, []), (20, 60, []), (20, 14, []), (20, 6, []), (20, 6, [])]) (a := (t + 7)) (N := 6) (kd := 20) (Or.inl ⟨rfl, rfl⟩) w_64 dX6_init_78 rfl rfl (Nat.le_of_ble_eq_true rfl) (by omega) (Nat.le_of_ble_eq_true rfl) (Nat.le_of_ble_eq_true rfl) (by rw [hP]; rfl) rfl ?_
  refine n_putR (pc' := 83) (L' := [(6, 17, [none, some (t + 2), some (t + 3), some (t + 4), some (t + 5), none, some (t + 6), none, none, none, none, none, some (t + 7), some (t + 8), none, some 0, none]), (20, 12, []), (20, 12, []), (20, 60, []), (20, 60, []), (20, 14, []), (20, 6, []), (20, 6, [])]) (j := 0) (sl := 13) (r := (t + 7)) (rs := [none, some (t + 2), some (t + 3), some (t + 4), some (t + 5), none, some (t + 6), none, none, none, none, none, some (t + 7), some 0, none, some 0, none]) kc_6 w_119 (by decide) ⟨rfl, rfl, rfl⟩ (Or.inr ⟨_, rfl⟩) dX6_init_80 rfl (by omega) (by omega) rfl (by decide) (Nat.le_of_ble_eq_true rfl) (by omega) rfl ?_
  refine j_aload_n (pc' := 84) dX6_init_83 rfl rfl ?_
  refine j_bipush (pc' := 86) dX6_init_84 rfl rfl ?_
  refine n_newa (pc' := 88) (L' := [(6, 17, [none, some (t + 2), some (t + 3), some (t + 4), some (t + 5), none, some (t + 6), none, none, none, none, none, some (t + 7), some (t + 8), none, some 0, none]), (20, 12, []), (20, 12, []), (20, 60, []), (20, 60, []), (20, 14, []), (20, 6, []), (20, 6, []), (20, 8, [])]) (a := (t + 8)) (N := 8) (kd := 20) (Or.inl ⟨rfl, rfl⟩) w_64 dX6_init_86 rfl rfl (Nat.le_of_ble_eq_true rfl) (by omega) (Nat.le_of_ble_eq_true rfl) (Nat.le_of_ble_eq_true rfl) (by rw [hP]; rfl) rfl ?_
  refine n_putR (pc' := 91) (L' := [(6, 17, [none, some (t + 2), some (t + 3), some (t + 4), some (t + 5), none, some (t + 6), none, none, none, none, none, some (t + 7), some (t + 8), none, some (t + 9), none]), (20, 12, []), (20, 12, []), (20, 60, []), (20, 60, []), (20, 14, []), (20, 6, []), (20, 6, []), (20, 8, [])]) (j := 0) (sl := 15) (r := (t + 8)) (rs := [none, some (t + 2), some (t + 3), some (t + 4), some (t + 5), none, some (t + 6), none, none, none, none, none, some (t + 7), some (t + 8), none, some 0, none]) kc_6 w_125 (by decide) ⟨rfl, rfl, rfl⟩ (Or.inr ⟨_, rfl⟩) dX6_init_88 rfl (by omega) (by omega) rfl (by decide) (Nat.le_of_ble_eq_true rfl) (by omega) rfl ?_
  exact j_vret dX6_init_91 rfl (Nat.le_of_ble_eq_true rfl) (Nat.le_of_ble_eq_true rfl) ⟨rfl, rfl⟩
def lawL (t : Nat) : List mC := [(2, 6, [none, some (t + 2), some (t + 3), some (t + 4), some (t + 5), none]), (20, 12, []), (20, 12, []), (20, 12, []), (20, 400, [])]
theorem i_law {t : Nat} (ht : t < 900) {P : List mC} (hP : P.length = t) {D : mD} : CM 2 4 436 M_X2_init [mR t] (P ++ [(2, 6, [none, some 0, some 0, some 0, some 0, none])], D, true) (rN (P ++ lawL t) (iLaw t D)) := by
  refine CM.intro pn_X2 rfl rfl (Nat.le_of_ble_eq_true rfl) (fun Ω => ?_)
  show J Ω M_X2_init 2 4 436 _ 0 [some (mR t)] [] _ 0 0
  refine j_aload_n (pc' := 1) dX2_init_0 rfl rfl ?_
  refine j_objInit (pc' := 4) w_170 w_36 w_37 dX2_init_1 rfl (by decide) (hrs_of rfl) ?_
  refine j_aload_n (pc' := 5) dX2_init_4 rfl rfl ?_
  refine j_iconst (pc' := 6) dX2_init_5 rfl ?_
  refine n_putI (pc' := 9) (j := 0) (sl := 0) (i' := 0) (rs := [none, some 0, some 0, some 0, some 0, none]) kc_2 w_171 (by decide) (Or.inl rfl) (Or.inl rfl) dX2_init_6 rfl (by omega) (by omega) rfl (by decide) rfl rfl ?_
  refine j_aload_n (pc' := 10) dX2_init_9 rfl rfl ?_
  refine j_bipush (pc' := 12) dX2_init_10 rfl rfl ?_
  refine n_newa (pc' := 14) (L' := [(2, 6, [none, some 0, some 0, some 0, some 0, none]), (20, 12, [])]) (a := (t + 1)) (N := 12) (kd := 20) (Or.inl ⟨rfl, rfl⟩) w_64 dX2_init_12 rfl rfl (Nat.le_of_ble_eq_true rfl) (by omega) (Nat.le_of_ble_eq_true rfl) (Nat.le_of_ble_eq_true rfl) (by rw [hP]; rfl) rfl ?_
  refine n_putR (pc' := 17) (L' := [(2, 6, [none, some (t + 2), some 0, some 0, some 0, none]), (20, 12, [])]) (j := 0) (sl := 1) (r := (t + 1)) (rs := [none, some 0, some 0, some 0, some 0, none]) kc_2 w_174 (by decide) ⟨rfl, rfl, rfl⟩ (Or.inr ⟨_, rfl⟩) dX2_init_14 rfl (by omega) (by omega) rfl (by decide) (Nat.le_of_ble_eq_true rfl) (by omega) rfl ?_
  refine j_aload_n (pc' := 18) dX2_init_17 rfl rfl ?_
  refine j_bipush (pc' := 20) dX2_init_18 rfl rfl ?_
  refine n_newa (pc' := 22) (L' := [(2, 6, [none, some (t + 2), some 0, some 0, some 0, none]), (20, 12, []), (20, 12, [])]) (a := (t + 2)) (N := 12) (kd := 20) (Or.inl ⟨rfl, rfl⟩) w_64 dX2_init_20 rfl rfl (Nat.le_of_ble_eq_true rfl) (by omega) (Nat.le_of_ble_eq_true rfl) (Nat.le_of_ble_eq_true rfl) (by rw [hP]; rfl) rfl ?_
  refine n_putR (pc' := 25) (L' := [(2, 6, [none, some (t + 2), some (t + 3), some 0, some 0, none]), (20, 12, []), (20, 12, [])]) (j := 0) (sl := 2) (r := (t + 2)) (rs := [none, some (t + 2), some 0, some 0, some 0, none]) kc_2 w_176 (by decide) ⟨rfl, rfl, rfl⟩ (Or.inr ⟨_, rfl⟩) dX2_init_22 rfl (by omega) (by omega) rfl (by decide) (Nat.le_of_ble_eq_true rfl) (by omega) rfl ?_
  refine j_aload_n (pc' := 26) dX2_init_25 rfl rfl ?_
  refine j_bipush (pc' := 28) dX2_init_26 rfl rfl ?_
  refine n_newa (pc' := 30) (L' := [(2, 6, [none, some (t + 2), some (t + 3), some 0, some 0, none]), (20, 12, []), (20, 12, []), (20, 12, [])]) (a := (t + 3)) (N := 12) (kd := 20) (Or.inl ⟨rfl, rfl⟩) w_64 dX2_init_28 rfl rfl (Nat.le_of_ble_eq_true rfl) (by omega) (Nat.le_of_ble_eq_true rfl) (Nat.le_of_ble_eq_true rfl) (by rw [hP]; rfl) rfl ?_
  refine n_putR (pc' := 33) (L' := [(2, 6, [none, some (t + 2), some (t + 3), some (t + 4), some 0, none]), (20, 12, []), (20, 12, []), (20, 12, [])]) (j := 0) (sl := 3) (r := (t + 3)) (rs := [none, some (t + 2), some (t + 3), some 0, some 0, none]) kc_2 w_178 (by decide) ⟨rfl, rfl, rfl⟩ (Or.inr ⟨_, rfl⟩) dX2_init_30 rfl (by omega) (by omega) rfl (by decide) (Nat.le_of_ble_eq_true rfl) (by omega) rfl ?_
  refine j_aload_n (pc' := 34) dX2_init_33 rfl rfl ?_
  refine j_sipush (pc' := 37) dX2_init_34 rfl rfl ?_
  refine n_newa (pc' := 39) (L' := [(2, 6, [none, some (t + 2), some (t + 3), some (t + 4), some 0, none]), (20, 12, []), (20, 12, []), (20, 12, []), (20, 400, [])]) (a := (t + 4)) (N := 400) (kd := 20) (Or.inl ⟨rfl, rfl⟩) w_64 dX2_init_37 rfl rfl (Nat.le_of_ble_eq_true rfl) (by omega) (Nat.le_of_ble_eq_true rfl) (Nat.le_of_ble_eq_true rfl) (by rw [hP]; rfl) rfl ?_
  refine n_putR (pc' := 42) (L' := [(2, 6, [none, some (t + 2), some (t + 3), some (t + 4), some (t + 5), none]), (20, 12, []), (20, 12, []), (20, 12, []), (20, 400, [])]) (j := 0) (sl := 4) (r := (t + 4)) (rs := [none, some (t + 2), some (t + 3), some (t + 4), some 0, none]) kc_2 w_180 (by decide) ⟨rfl, rfl, rfl⟩ (Or.inr ⟨_, rfl⟩) dX2_init_39 rfl (by omega) (by omega) rfl (by decide) (Nat.le_of_ble_eq_true rfl) (by omega) rfl ?_
  exact j_vret dX2_init_42 rfl (Nat.le_of_ble_eq_true rfl) (Nat.le_of_ble_eq_true rfl) ⟨rfl, rfl⟩
def workL (t : Nat) : List mC := [(9, 11, [some (t + 2), some (t + 3), some (t + 4), none, none, none, none, none, some (t + 5), none, none]), (20, 13, []), (20, 14, []), (20, 14, []), (20, 240, [])]
theorem i_begin {t : Nat} (ht : t < 900) {P : List mC} (hP : P.length = t) {D : mD} : CM 2 0 0 M_X10_beginWord [mR t] (P ++ workL t, D, true) (rN (P ++ workL t) (iBegin t D)) := by
  refine CM.intro pn_X10 rfl rfl (Nat.le_of_ble_eq_true rfl) (fun Ω => ?_)
  show J Ω M_X10_beginWord 2 0 0 _ 0 [some (mR t)] [] _ 0 0
  refine j_aload_n (pc' := 1) dX10_beginWord_0 rfl rfl ?_
  refine n_getR (pc' := 4) (j := 0) (sl := 0) (r := (t + 1)) (rs := [some (t + 2), some (t + 3), some (t + 4), none, none, none, none, none, some (t + 5), none, none]) kc_9 w_209 (Or.inl rfl) (by decide) dX10_beginWord_1 rfl (by omega) (by omega) rfl (by decide) rfl (by omega) ?_
  refine j_iconst (pc' := 5) dX10_beginWord_4 rfl ?_
  refine n_callS (pc' := 8) (as := [mR (t + 1), mI 3]) (rest := []) (d' := 1) (n_fill (j := 1) (N := 13) (by omega) (by omega) rfl (by decide) rfl) cw_X10_31 w_207 dX10_beginWord_5 rfl (by decide) rfl rfl rfl rfl (Nat.le_of_ble_eq_true rfl) (Nat.le_of_ble_eq_true rfl) ?_
  refine j_aload_n (pc' := 9) dX10_beginWord_8 rfl rfl ?_
  refine n_getR (pc' := 12) (j := 0) (sl := 1) (r := (t + 2)) (rs := [some (t + 2), some (t + 3), some (t + 4), none, none, none, none, none, some (t + 5), none, none]) kc_9 w_212 (Or.inl rfl) (by decide) dX10_beginWord_9 rfl (by omega) (by omega) rfl (by decide) rfl (by omega) ?_
  refine j_iconst (pc' := 13) dX10_beginWord_12 rfl ?_
  refine n_callS (pc' := 16) (as := [mR (t + 2), mI 0]) (rest := []) (d' := 1) (n_fill (j := 2) (N := 14) (by omega) (by omega) rfl (by decide) rfl) cw_X10_31 w_207 dX10_beginWord_13 rfl (by decide) rfl rfl rfl rfl (Nat.le_of_ble_eq_true rfl) (Nat.le_of_ble_eq_true rfl) ?_
  refine j_aload_n (pc' := 17) dX10_beginWord_16 rfl rfl ?_
  refine n_getR (pc' := 20) (j := 0) (sl := 2) (r := (t + 3)) (rs := [some (t + 2), some (t + 3), some (t + 4), none, none, none, none, none, some (t + 5), none, none]) kc_9 w_216 (Or.inl rfl) (by decide) dX10_beginWord_17 rfl (by omega) (by omega) rfl (by decide) rfl (by omega) ?_
  refine j_iconst (pc' := 21) dX10_beginWord_20 rfl ?_
  refine n_callS (pc' := 24) (as := [mR (t + 3), mI (-1)]) (rest := []) (d' := 1) (n_fill (j := 3) (N := 14) (by omega) (by omega) rfl (by decide) rfl) cw_X10_31 w_207 dX10_beginWord_21 rfl (by decide) rfl rfl rfl rfl (Nat.le_of_ble_eq_true rfl) (Nat.le_of_ble_eq_true rfl) ?_
  refine j_aload_n (pc' := 25) dX10_beginWord_24 rfl rfl ?_
  refine j_iconst (pc' := 26) dX10_beginWord_25 rfl ?_
  refine n_putI (pc' := 29) (j := 0) (sl := 3) (i' := 3) (rs := [some (t + 2), some (t + 3), some (t + 4), none, none, none, none, none, some (t + 5), none, none]) kc_9 w_218 (by decide) (Or.inl rfl) (Or.inl rfl) dX10_beginWord_26 rfl (by omega) (by omega) rfl (by decide) rfl rfl ?_
  refine j_aload_n (pc' := 30) dX10_beginWord_29 rfl rfl ?_
  refine j_iconst (pc' := 31) dX10_beginWord_30 rfl ?_
  refine n_putI (pc' := 34) (j := 0) (sl := 4) (i' := 4) (rs := [some (t + 2), some (t + 3), some (t + 4), none, none, none, none, none, some (t + 5), none, none]) kc_9 w_220 (by decide) (Or.inl rfl) (Or.inl rfl) dX10_beginWord_31 rfl (by omega) (by omega) rfl (by decide) rfl rfl ?_
  exact j_vret dX10_beginWord_34 rfl (Nat.le_of_ble_eq_true rfl) (Nat.le_of_ble_eq_true rfl) ⟨rfl, rfl⟩
theorem i_work {t : Nat} (ht : t < 900) {P : List mC} (hP : P.length = t) {D : mD} : CM 3 4 281 M_X10_init [mR t] (P ++ [(9, 11, [some 0, some 0, some 0, none, none, none, none, none, some 0, none, none])], D, true) (rN (P ++ workL t) (iWork t D)) := by
  refine CM.intro pn_X10 rfl rfl (Nat.le_of_ble_eq_true rfl) (fun Ω => ?_)
  show J Ω M_X10_init 3 4 281 _ 0 [some (mR t)] [] _ 0 0
  refine j_aload_n (pc' := 1) dX10_init_0 rfl rfl ?_
  refine j_objInit (pc' := 4) w_201 w_36 w_37 dX10_init_1 rfl (by decide) (hrs_of rfl) ?_
  refine j_aload_n (pc' := 5) dX10_init_4 rfl rfl ?_
  refine j_bipush (pc' := 7) dX10_init_5 rfl rfl ?_
  refine n_newa (pc' := 9) (L' := [(9, 11, [some 0, some 0, some 0, none, none, none, none, none, some 0, none, none]), (20, 13, [])]) (a := (t + 1)) (N := 13) (kd := 20) (Or.inl ⟨rfl, rfl⟩) w_64 dX10_init_7 rfl rfl (Nat.le_of_ble_eq_true rfl) (by omega) (Nat.le_of_ble_eq_true rfl) (Nat.le_of_ble_eq_true rfl) (by rw [hP]; rfl) rfl ?_
  refine n_putR (pc' := 12) (L' := [(9, 11, [some (t + 2), some 0, some 0, none, none, none, none, none, some 0, none, none]), (20, 13, [])]) (j := 0) (sl := 0) (r := (t + 1)) (rs := [some 0, some 0, some 0, none, none, none, none, none, some 0, none, none]) kc_9 w_209 (by decide) ⟨rfl, rfl, rfl⟩ (Or.inr ⟨_, rfl⟩) dX10_init_9 rfl (by omega) (by omega) rfl (by decide) (Nat.le_of_ble_eq_true rfl) (by omega) rfl ?_
  refine j_aload_n (pc' := 13) dX10_init_12 rfl rfl ?_
  refine j_bipush (pc' := 15) dX10_init_13 rfl rfl ?_
  refine n_newa (pc' := 17) (L' := [(9, 11, [some (t + 2), some 0, some 0, none, none, none, none, none, some 0, none, none]), (20, 13, []), (20, 14, [])]) (a := (t + 2)) (N := 14) (kd := 20) (Or.inl ⟨rfl, rfl⟩) w_64 dX10_init_15 rfl rfl (Nat.le_of_ble_eq_true rfl) (by omega) (Nat.le_of_ble_eq_true rfl) (Nat.le_of_ble_eq_true rfl) (by rw [hP]; rfl) rfl ?_
  refine n_putR (pc' := 20) (L' := [(9, 11, [some (t + 2), some (t + 3), some 0, none, none, none, none, none, some 0, none, none]), (20, 13, []), (20, 14, [])]) (j := 0) (sl := 1) (r := (t + 2)) (rs := [some (t + 2), some 0, some 0, none, none, none, none, none, some 0, none, none]) kc_9 w_212 (by decide) ⟨rfl, rfl, rfl⟩ (Or.inr ⟨_, rfl⟩) dX10_init_17 rfl (by omega) (by omega) rfl (by decide) (Nat.le_of_ble_eq_true rfl) (by omega) rfl ?_
  refine j_aload_n (pc' := 21) dX10_init_20 rfl rfl ?_
  refine j_bipush (pc' := 23) dX10_init_21 rfl rfl ?_
  refine n_newa (pc' := 25) (L' := [(9, 11, [some (t + 2), some (t + 3), some 0, none, none, none, none, none, some 0, none, none]), (20, 13, []), (20, 14, []), (20, 14, [])]) (a := (t + 3)) (N := 14) (kd := 20) (Or.inl ⟨rfl, rfl⟩) w_64 dX10_init_23 rfl rfl (Nat.le_of_ble_eq_true rfl) (by omega) (Nat.le_of_ble_eq_true rfl) (Nat.le_of_ble_eq_true rfl) (by rw [hP]; rfl) rfl ?_
  refine n_putR (pc' := 28) (L' := [(9, 11, [some (t + 2), some (t + 3), some (t + 4), none, none, none, none, none, some 0, none, none]), (20, 13, []), (20, 14, []), (20, 14, [])]) (j := 0) (sl := 2) (r := (t + 3)) (rs := [some (t + 2), some (t + 3), some 0, none, none, none, none, none, some 0, none, none]) kc_9 w_216 (by decide) ⟨rfl, rfl, rfl⟩ (Or.inr ⟨_, rfl⟩) dX10_init_25 rfl (by omega) (by omega) rfl (by decide) (Nat.le_of_ble_eq_true rfl) (by omega) rfl ?_
  refine j_aload_n (pc' := 29) dX10_init_28 rfl rfl ?_
  refine j_sipush (pc' := 32) dX10_init_29 rfl rfl ?_
  refine n_newa (pc' := 34) (L' := [(9, 11, [some (t + 2), some (t + 3), some (t + 4), none, none, none, none, none, some 0, none, none]), (20, 13, []), (20, 14, []), (20, 14, []), (20, 240, [])]) (a := (t + 4)) (N := 240) (kd := 20) (Or.inl ⟨rfl, rfl⟩) w_64 dX10_init_32 rfl rfl (Nat.le_of_ble_eq_true rfl) (by omega) (Nat.le_of_ble_eq_true rfl) (Nat.le_of_ble_eq_true rfl) (by rw [hP]; rfl) rfl ?_
  refine n_putR (pc' := 37) (L' := [(9, 11, [some (t + 2), some (t + 3), some (t + 4), none, none, none, none, none, some (t + 5), none, none]), (20, 13, []), (20, 14, []), (20, 14, []), (20, 240, [])]) (j := 0) (sl := 8) (r := (t + 4)) (rs := [some (t + 2), some (t + 3), some (t + 4), none, none, none, none, none, some 0, none, none]) kc_9 w_228 (by decide) ⟨rfl, rfl, rfl⟩ (Or.inr ⟨_, rfl⟩) dX10_init_34 rfl (by omega) (by omega) rfl (by decide) (Nat.le_of_ble_eq_true rfl) (by omega) rfl ?_
  refine j_aload_n (pc' := 38) dX10_init_37 rfl rfl ?_
  refine j_iconst (pc' := 39) dX10_init_38 rfl ?_
  refine n_putI (pc' := 42) (j := 0) (sl := 6) (i' := 6) (rs := [some (t + 2), some (t + 3), some (t + 4), none, none, none, none, none, some (t + 5), none, none]) kc_9 w_224 (by decide) (Or.inl rfl) (Or.inl rfl) dX10_init_39 rfl (by omega) (by omega) rfl (by decide) rfl rfl ?_
  refine j_aload_n (pc' := 43) dX10_init_42 rfl rfl ?_
  refine n_callV (pc' := 46) (as := []) (rest := []) (d' := 2) (j := 0) (rs := [some (t + 2), some (t + 3), some (t + 4), none, none, none, none, none, some (t + 5), none, none]) (i_begin ht hP) cw_X10_28 kc_9 w_203 w_204 dX10_init_43 rfl (by decide) rfl rfl (by omega) (by omega) rfl rfl rfl (Nat.le_of_ble_eq_true rfl) (Nat.le_of_ble_eq_true rfl) ?_
  exact j_vret dX10_init_46 rfl (Nat.le_of_ble_eq_true rfl) (Nat.le_of_ble_eq_true rfl) ⟨rfl, rfl⟩
theorem i_tape {P : List mC} (hP : P.length = 1) {D : mD} : CM 2 1 400 M_X8_init [mR 1] (P ++ [(8, 5, [some 0, none, none, none, none])], D, true) (rN (P ++ [(8, 5, [some 3, none, none, none, none]), (20, 400, [])]) (nw 2 D)) := by
  refine CM.intro pn_X8 rfl rfl (Nat.le_of_ble_eq_true rfl) (fun Ω => ?_)
  show J Ω M_X8_init 2 1 400 _ 0 [some (mR 1)] [] _ 0 0
  refine j_aload_n (pc' := 1) dX8_init_0 rfl rfl ?_
  refine j_objInit (pc' := 4) w_43 w_36 w_37 dX8_init_1 rfl (by decide) (hrs_of rfl) ?_
  refine j_aload_n (pc' := 5) dX8_init_4 rfl rfl ?_
  refine j_sipush (pc' := 8) dX8_init_5 rfl rfl ?_
  refine n_newa (pc' := 10) (L' := [(8, 5, [some 0, none, none, none, none]), (20, 400, [])]) (a := 2) (N := 400) (kd := 20) (Or.inl ⟨rfl, rfl⟩) w_64 dX8_init_8 rfl rfl (Nat.le_of_ble_eq_true rfl) (by omega) (Nat.le_of_ble_eq_true rfl) (Nat.le_of_ble_eq_true rfl) (by rw [hP]; rfl) rfl ?_
  refine n_putR (pc' := 13) (L' := [(8, 5, [some 3, none, none, none, none]), (20, 400, [])]) (j := 0) (sl := 0) (r := 2) (rs := [some 0, none, none, none, none]) kc_8 w_44 (by decide) ⟨rfl, rfl, rfl⟩ (Or.inr ⟨_, rfl⟩) dX8_init_10 rfl (by omega) (by omega) rfl (by decide) (Nat.le_of_ble_eq_true rfl) (by omega) rfl ?_
  exact j_vret dX8_init_13 rfl (Nat.le_of_ble_eq_true rfl) (Nat.le_of_ble_eq_true rfl) ⟨rfl, rfl⟩
theorem i_gauge {P : List mC} (hP : P.length = 22) {D : mD} : CM 2 3 452 M_X0_init [mR 22, mR 3, mR 12, mR 17] (P ++ [(0, 6, [some 0, some 0, some 0, some 0, some 0, some 0])], D, true) (rN (P ++ [(0, 6, [some 4, some 13, some 18, some 24, some 25, some 26]), (20, 9, []), (20, 40, []), (20, 403, [])]) (fillD (nw 25 (nw 24 (nw 23 D))) 25 403 (-1))) := by
  refine CM.intro pn_X0 rfl rfl (Nat.le_of_ble_eq_true rfl) (fun Ω => ?_)
  show J Ω M_X0_init 2 3 452 _ 0 [some (mR 22), some (mR 3), some (mR 12), some (mR 17)] [] _ 0 0
  refine j_aload_n (pc' := 1) dX0_init_0 rfl rfl ?_
  refine j_objInit (pc' := 4) w_260 w_36 w_37 dX0_init_1 rfl (by decide) (hrs_of rfl) ?_
  refine j_aload_n (pc' := 5) dX0_init_4 rfl rfl ?_
  refine j_aload_n (pc' := 6) dX0_init_5 rfl rfl ?_
  refine n_putR (pc' := 9) (L' := [(0, 6, [some 4, some 0, some 0, some 0, some 0, some 0])]) (j := 0) (sl := 0) (r := 3) (rs := [some 0, some 0, some 0, some 0, some 0, some 0]) kc_0 w_262 (by decide) ⟨rfl, rfl, rfl⟩ (Or.inl ⟨_, rfl⟩) dX0_init_6 rfl (by omega) (by omega) rfl (by decide) (Nat.le_of_ble_eq_true rfl) (by omega) rfl ?_
  refine j_aload_n (pc' := 10) dX0_init_9 rfl rfl ?_
  refine j_aload_n (pc' := 11) dX0_init_10 rfl rfl ?_
  refine n_putR (pc' := 14) (L' := [(0, 6, [some 4, some 13, some 0, some 0, some 0, some 0])]) (j := 0) (sl := 1) (r := 12) (rs := [some 4, some 0, some 0, some 0, some 0, some 0]) kc_0 w_263 (by decide) ⟨rfl, rfl, rfl⟩ (Or.inl ⟨_, rfl⟩) dX0_init_11 rfl (by omega) (by omega) rfl (by decide) (Nat.le_of_ble_eq_true rfl) (by omega) rfl ?_
  refine j_aload_n (pc' := 15) dX0_init_14 rfl rfl ?_
  refine j_aload_n (pc' := 16) dX0_init_15 rfl rfl ?_
  refine n_putR (pc' := 19) (L' := [(0, 6, [some 4, some 13, some 18, some 0, some 0, some 0])]) (j := 0) (sl := 2) (r := 17) (rs := [some 4, some 13, some 0, some 0, some 0, some 0]) kc_0 w_264 (by decide) ⟨rfl, rfl, rfl⟩ (Or.inl ⟨_, rfl⟩) dX0_init_16 rfl (by omega) (by omega) rfl (by decide) (Nat.le_of_ble_eq_true rfl) (by omega) rfl ?_
  refine j_aload_n (pc' := 20) dX0_init_19 rfl rfl ?_
  refine j_bipush (pc' := 22) dX0_init_20 rfl rfl ?_
  refine n_newa (pc' := 24) (L' := [(0, 6, [some 4, some 13, some 18, some 0, some 0, some 0]), (20, 9, [])]) (a := 23) (N := 9) (kd := 20) (Or.inl ⟨rfl, rfl⟩) w_64 dX0_init_22 rfl rfl (Nat.le_of_ble_eq_true rfl) (by omega) (Nat.le_of_ble_eq_true rfl) (Nat.le_of_ble_eq_true rfl) (by rw [hP]; rfl) rfl ?_
  refine n_putR (pc' := 27) (L' := [(0, 6, [some 4, some 13, some 18, some 24, some 0, some 0]), (20, 9, [])]) (j := 0) (sl := 3) (r := 23) (rs := [some 4, some 13, some 18, some 0, some 0, some 0]) kc_0 w_265 (by decide) ⟨rfl, rfl, rfl⟩ (Or.inr ⟨_, rfl⟩) dX0_init_24 rfl (by omega) (by omega) rfl (by decide) (Nat.le_of_ble_eq_true rfl) (by omega) rfl ?_
  refine j_aload_n (pc' := 28) dX0_init_27 rfl rfl ?_
  refine j_bipush (pc' := 30) dX0_init_28 rfl rfl ?_
  refine n_newa (pc' := 32) (L' := [(0, 6, [some 4, some 13, some 18, some 24, some 0, some 0]), (20, 9, []), (20, 40, [])]) (a := 24) (N := 40) (kd := 20) (Or.inl ⟨rfl, rfl⟩) w_64 dX0_init_30 rfl rfl (Nat.le_of_ble_eq_true rfl) (by omega) (Nat.le_of_ble_eq_true rfl) (Nat.le_of_ble_eq_true rfl) (by rw [hP]; rfl) rfl ?_
  refine n_putR (pc' := 35) (L' := [(0, 6, [some 4, some 13, some 18, some 24, some 25, some 0]), (20, 9, []), (20, 40, [])]) (j := 0) (sl := 4) (r := 24) (rs := [some 4, some 13, some 18, some 24, some 0, some 0]) kc_0 w_266 (by decide) ⟨rfl, rfl, rfl⟩ (Or.inr ⟨_, rfl⟩) dX0_init_32 rfl (by omega) (by omega) rfl (by decide) (Nat.le_of_ble_eq_true rfl) (by omega) rfl ?_
  refine j_aload_n (pc' := 36) dX0_init_35 rfl rfl ?_
  refine j_sipush (pc' := 39) dX0_init_36 rfl rfl ?_
  refine n_newa (pc' := 41) (L' := [(0, 6, [some 4, some 13, some 18, some 24, some 25, some 0]), (20, 9, []), (20, 40, []), (20, 403, [])]) (a := 25) (N := 403) (kd := 20) (Or.inl ⟨rfl, rfl⟩) w_64 dX0_init_39 rfl rfl (Nat.le_of_ble_eq_true rfl) (by omega) (Nat.le_of_ble_eq_true rfl) (Nat.le_of_ble_eq_true rfl) (by rw [hP]; rfl) rfl ?_
  refine n_putR (pc' := 44) (L' := [(0, 6, [some 4, some 13, some 18, some 24, some 25, some 26]), (20, 9, []), (20, 40, []), (20, 403, [])]) (j := 0) (sl := 5) (r := 25) (rs := [some 4, some 13, some 18, some 24, some 25, some 0]) kc_0 w_267 (by decide) ⟨rfl, rfl, rfl⟩ (Or.inr ⟨_, rfl⟩) dX0_init_41 rfl (by omega) (by omega) rfl (by decide) (Nat.le_of_ble_eq_true rfl) (by omega) rfl ?_
  refine j_aload_n (pc' := 45) dX0_init_44 rfl rfl ?_
  refine n_getR (pc' := 48) (j := 0) (sl := 5) (r := 25) (rs := [some 4, some 13, some 18, some 24, some 25, some 26]) kc_0 w_267 (Or.inl rfl) (by decide) dX0_init_45 rfl (by omega) (by omega) rfl (by decide) rfl (by omega) ?_
  refine j_iconst (pc' := 49) dX0_init_48 rfl ?_
  refine n_callS (pc' := 52) (as := [mR 25, mI (-1)]) (rest := []) (d' := 1) (n_fill (j := 3) (N := 403) (by omega) (by omega) rfl (by decide) rfl) cw_X0_35 w_207 dX0_init_49 rfl (by decide) rfl rfl rfl rfl (Nat.le_of_ble_eq_true rfl) (Nat.le_of_ble_eq_true rfl) ?_
  exact j_vret dX0_init_52 rfl (Nat.le_of_ble_eq_true rfl) (Nat.le_of_ble_eq_true rfl) ⟨rfl, rfl⟩
theorem i_laying {P : List mC} (hP : P.length = 26) {D : mD} : CM 2 2 1893 M_X4_init [mR 26, mR 3, mR 22] (P ++ [(4, 6, [some 0, some 0, some 0, some 0, none, none])], D, true) (rN (P ++ [(4, 6, [some 4, some 23, some 28, some 29, none, none]), (20, 1862, []), (20, 31, [])]) (nw 28 (nw 27 D))) := by
  refine CM.intro pn_X4 rfl rfl (Nat.le_of_ble_eq_true rfl) (fun Ω => ?_)
  show J Ω M_X4_init 2 2 1893 _ 0 [some (mR 26), some (mR 3), some (mR 22)] [] _ 0 0
  refine j_aload_n (pc' := 1) dX4_init_0 rfl rfl ?_
  refine j_objInit (pc' := 4) w_286 w_36 w_37 dX4_init_1 rfl (by decide) (hrs_of rfl) ?_
  refine j_aload_n (pc' := 5) dX4_init_4 rfl rfl ?_
  refine j_aload_n (pc' := 6) dX4_init_5 rfl rfl ?_
  refine n_putR (pc' := 9) (L' := [(4, 6, [some 4, some 0, some 0, some 0, none, none])]) (j := 0) (sl := 0) (r := 3) (rs := [some 0, some 0, some 0, some 0, none, none]) kc_4 w_287 (by decide) ⟨rfl, rfl, rfl⟩ (Or.inl ⟨_, rfl⟩) dX4_init_6 rfl (by omega) (by omega) rfl (by decide) (Nat.le_of_ble_eq_true rfl) (by omega) rfl ?_
  refine j_aload_n (pc' := 10) dX4_init_9 rfl rfl ?_
  refine j_aload_n (pc' := 11) dX4_init_10 rfl rfl ?_
  refine n_putR (pc' := 14) (L' := [(4, 6, [some 4, some 23, some 0, some 0, none, none])]) (j := 0) (sl := 1) (r := 22) (rs := [some 4, some 0, some 0, some 0, none, none]) kc_4 w_288 (by decide) ⟨rfl, rfl, rfl⟩ (Or.inl ⟨_, rfl⟩) dX4_init_11 rfl (by omega) (by omega) rfl (by decide) (Nat.le_of_ble_eq_true rfl) (by omega) rfl ?_
  refine j_aload_n (pc' := 15) dX4_init_14 rfl rfl ?_
  refine j_sipush (pc' := 18) dX4_init_15 rfl rfl ?_
  refine n_newa (pc' := 20) (L' := [(4, 6, [some 4, some 23, some 0, some 0, none, none]), (20, 1862, [])]) (a := 27) (N := 1862) (kd := 20) (Or.inl ⟨rfl, rfl⟩) w_64 dX4_init_18 rfl rfl (Nat.le_of_ble_eq_true rfl) (by omega) (Nat.le_of_ble_eq_true rfl) (Nat.le_of_ble_eq_true rfl) (by rw [hP]; rfl) rfl ?_
  refine n_putR (pc' := 23) (L' := [(4, 6, [some 4, some 23, some 28, some 0, none, none]), (20, 1862, [])]) (j := 0) (sl := 2) (r := 27) (rs := [some 4, some 23, some 0, some 0, none, none]) kc_4 w_289 (by decide) ⟨rfl, rfl, rfl⟩ (Or.inr ⟨_, rfl⟩) dX4_init_20 rfl (by omega) (by omega) rfl (by decide) (Nat.le_of_ble_eq_true rfl) (by omega) rfl ?_
  refine j_aload_n (pc' := 24) dX4_init_23 rfl rfl ?_
  refine j_bipush (pc' := 26) dX4_init_24 rfl rfl ?_
  refine n_newa (pc' := 28) (L' := [(4, 6, [some 4, some 23, some 28, some 0, none, none]), (20, 1862, []), (20, 31, [])]) (a := 28) (N := 31) (kd := 20) (Or.inl ⟨rfl, rfl⟩) w_64 dX4_init_26 rfl rfl (Nat.le_of_ble_eq_true rfl) (by omega) (Nat.le_of_ble_eq_true rfl) (Nat.le_of_ble_eq_true rfl) (by rw [hP]; rfl) rfl ?_
  refine n_putR (pc' := 31) (L' := [(4, 6, [some 4, some 23, some 28, some 29, none, none]), (20, 1862, []), (20, 31, [])]) (j := 0) (sl := 3) (r := 28) (rs := [some 4, some 23, some 28, some 0, none, none]) kc_4 w_290 (by decide) ⟨rfl, rfl, rfl⟩ (Or.inr ⟨_, rfl⟩) dX4_init_28 rfl (by omega) (by omega) rfl (by decide) (Nat.le_of_ble_eq_true rfl) (by omega) rfl ?_
  exact j_vret dX4_init_31 rfl (Nat.le_of_ble_eq_true rfl) (Nat.le_of_ble_eq_true rfl) ⟨rfl, rfl⟩
theorem i_press {P : List mC} (hP : P.length = 29) {D : mD} : CM 2 1 645 M_X5_init [mR 29, mR 3, mR 17, mR 22] (P ++ [(5, 5, [some 0, some 0, some 0, some 0, none])], D, true) (rN (P ++ [(5, 5, [some 4, some 18, some 23, some 31, none]), (20, 645, [])]) (nw 30 D)) := by
  refine CM.intro pn_X5 rfl rfl (Nat.le_of_ble_eq_true rfl) (fun Ω => ?_)
  show J Ω M_X5_init 2 1 645 _ 0 [some (mR 29), some (mR 3), some (mR 17), some (mR 22)] [] _ 0 0
  refine j_aload_n (pc' := 1) dX5_init_0 rfl rfl ?_
  refine j_objInit (pc' := 4) w_311 w_36 w_37 dX5_init_1 rfl (by decide) (hrs_of rfl) ?_
  refine j_aload_n (pc' := 5) dX5_init_4 rfl rfl ?_
  refine j_aload_n (pc' := 6) dX5_init_5 rfl rfl ?_
  refine n_putR (pc' := 9) (L' := [(5, 5, [some 4, some 0, some 0, some 0, none])]) (j := 0) (sl := 0) (r := 3) (rs := [some 0, some 0, some 0, some 0, none]) kc_5 w_312 (by decide) ⟨rfl, rfl, rfl⟩ (Or.inl ⟨_, rfl⟩) dX5_init_6 rfl (by omega) (by omega) rfl (by decide) (Nat.le_of_ble_eq_true rfl) (by omega) rfl ?_
  refine j_aload_n (pc' := 10) dX5_init_9 rfl rfl ?_
  refine j_aload_n (pc' := 11) dX5_init_10 rfl rfl ?_
  refine n_putR (pc' := 14) (L' := [(5, 5, [some 4, some 18, some 0, some 0, none])]) (j := 0) (sl := 1) (r := 17) (rs := [some 4, some 0, some 0, some 0, none]) kc_5 w_313 (by decide) ⟨rfl, rfl, rfl⟩ (Or.inl ⟨_, rfl⟩) dX5_init_11 rfl (by omega) (by omega) rfl (by decide) (Nat.le_of_ble_eq_true rfl) (by omega) rfl ?_
  refine j_aload_n (pc' := 15) dX5_init_14 rfl rfl ?_
  refine j_aload_n (pc' := 16) dX5_init_15 rfl rfl ?_
  refine n_putR (pc' := 19) (L' := [(5, 5, [some 4, some 18, some 23, some 0, none])]) (j := 0) (sl := 2) (r := 22) (rs := [some 4, some 18, some 0, some 0, none]) kc_5 w_314 (by decide) ⟨rfl, rfl, rfl⟩ (Or.inl ⟨_, rfl⟩) dX5_init_16 rfl (by omega) (by omega) rfl (by decide) (Nat.le_of_ble_eq_true rfl) (by omega) rfl ?_
  refine j_aload_n (pc' := 20) dX5_init_19 rfl rfl ?_
  refine j_sipush (pc' := 23) dX5_init_20 rfl rfl ?_
  refine n_newa (pc' := 25) (L' := [(5, 5, [some 4, some 18, some 23, some 0, none]), (20, 645, [])]) (a := 30) (N := 645) (kd := 20) (Or.inl ⟨rfl, rfl⟩) w_64 dX5_init_23 rfl rfl (Nat.le_of_ble_eq_true rfl) (by omega) (Nat.le_of_ble_eq_true rfl) (Nat.le_of_ble_eq_true rfl) (by rw [hP]; rfl) rfl ?_
  refine n_putR (pc' := 28) (L' := [(5, 5, [some 4, some 18, some 23, some 31, none]), (20, 645, [])]) (j := 0) (sl := 3) (r := 30) (rs := [some 4, some 18, some 23, some 0, none]) kc_5 w_315 (by decide) ⟨rfl, rfl, rfl⟩ (Or.inr ⟨_, rfl⟩) dX5_init_25 rfl (by omega) (by omega) rfl (by decide) (Nat.le_of_ble_eq_true rfl) (by omega) rfl ?_
  exact j_vret dX5_init_28 rfl (Nat.le_of_ble_eq_true rfl) (Nat.le_of_ble_eq_true rfl) ⟨rfl, rfl⟩
theorem i_r7 {P : List mC} (hP : P.length = 93) {D : mD} : CM 2 0 0 M_X9_init [mR 93, mR 1, mI 14] (P ++ [(7, 4, [some 0, none, some 0, none])], D, true) (rN (P ++ [(7, 4, [some 2, none, some 0, none])]) (pD D 93 1 14)) := by
  refine CM.intro pn_X9 rfl rfl (Nat.le_of_ble_eq_true rfl) (fun Ω => ?_)
  show J Ω M_X9_init 2 0 0 _ 0 [some (mR 93), some (mR 1), some (mI 14)] [] _ 0 0
  refine j_aload_n (pc' := 1) dX9_init_0 rfl rfl ?_
  refine j_objInit (pc' := 4) w_356 w_36 w_37 dX9_init_1 rfl (by decide) (hrs_of rfl) ?_
  refine j_aload_n (pc' := 5) dX9_init_4 rfl rfl ?_
  refine j_aload_n (pc' := 6) dX9_init_5 rfl rfl ?_
  refine n_putR (pc' := 9) (L' := [(7, 4, [some 2, none, some 0, none])]) (j := 0) (sl := 0) (r := 1) (rs := [some 0, none, some 0, none]) kc_7 w_363 (by decide) ⟨rfl, rfl, rfl⟩ (Or.inl ⟨_, rfl⟩) dX9_init_6 rfl (by omega) (by omega) rfl (by decide) (Nat.le_of_ble_eq_true rfl) (by omega) rfl ?_
  refine j_aload_n (pc' := 10) dX9_init_9 rfl rfl ?_
  refine j_iload_n (pc' := 11) dX9_init_10 rfl rfl ?_
  refine n_putI (pc' := 14) (j := 0) (sl := 1) (i' := 1) (rs := [some 2, none, some 0, none]) kc_7 w_368 (by decide) (Or.inr ⟨rfl, rfl, rfl⟩) (Or.inl rfl) dX9_init_11 rfl (by omega) (by omega) rfl (by decide) rfl rfl ?_
  exact j_vret dX9_init_14 rfl (Nat.le_of_ble_eq_true rfl) (Nat.le_of_ble_eq_true rfl) ⟨rfl, rfl⟩
theorem i_r3 {P : List mC} (hP : P.length = 103) {D : mD} : CM 2 0 0 M_X9_init [mR 103, mR 1, mI 12] (P ++ [(3, 3, [some 0, none, some 0])], D, true) (rN (P ++ [(3, 3, [some 2, none, some 0])]) (pD D 103 1 12)) := by
  refine CM.intro pn_X9 rfl rfl (Nat.le_of_ble_eq_true rfl) (fun Ω => ?_)
  show J Ω M_X9_init 2 0 0 _ 0 [some (mR 103), some (mR 1), some (mI 12)] [] _ 0 0
  refine j_aload_n (pc' := 1) dX9_init_0 rfl rfl ?_
  refine j_objInit (pc' := 4) w_356 w_36 w_37 dX9_init_1 rfl (by decide) (hrs_of rfl) ?_
  refine j_aload_n (pc' := 5) dX9_init_4 rfl rfl ?_
  refine j_aload_n (pc' := 6) dX9_init_5 rfl rfl ?_
  refine n_putR (pc' := 9) (L' := [(3, 3, [some 2, none, some 0])]) (j := 0) (sl := 0) (r := 1) (rs := [some 0, none, some 0]) kc_3 w_363 (by decide) ⟨rfl, rfl, rfl⟩ (Or.inl ⟨_, rfl⟩) dX9_init_6 rfl (by omega) (by omega) rfl (by decide) (Nat.le_of_ble_eq_true rfl) (by omega) rfl ?_
  refine j_aload_n (pc' := 10) dX9_init_9 rfl rfl ?_
  refine j_iload_n (pc' := 11) dX9_init_10 rfl rfl ?_
  refine n_putI (pc' := 14) (j := 0) (sl := 1) (i' := 1) (rs := [some 2, none, some 0]) kc_3 w_368 (by decide) (Or.inr ⟨rfl, rfl, rfl⟩) (Or.inl rfl) dX9_init_11 rfl (by omega) (by omega) rfl (by decide) rfl rfl ?_
  exact j_vret dX9_init_14 rfl (Nat.le_of_ble_eq_true rfl) (Nat.le_of_ble_eq_true rfl) ⟨rfl, rfl⟩
theorem i_shopReader {P : List mC} (hP : P.length = 93) {D : mD} : CM 3 9 195 M_X7_init [mR 93, mR 1] (P ++ [(7, 4, [some 0, none, some 0, none])], D, true) (rN (P ++ [(7, 4, [some 2, none, some 95, none]), (6, 17, [none, some 96, some 97, some 98, some 99, none, some 100, none, none, none, none, none, some 101, some 102, none, some 103, none]), (20, 12, []), (20, 12, []), (20, 60, []), (20, 60, []), (20, 14, []), (20, 6, []), (20, 6, []), (20, 8, [])]) (iShop 94 (nw 94 (pD D 93 1 14)))) := by
  refine CM.intro pn_X7 rfl rfl (Nat.le_of_ble_eq_true rfl) (fun Ω => ?_)
  show J Ω M_X7_init 3 9 195 _ 0 [some (mR 93), some (mR 1)] [] _ 0 0
  refine j_aload_n (pc' := 1) dX7_init_0 rfl rfl ?_
  refine j_aload_n (pc' := 2) dX7_init_1 rfl rfl ?_
  refine j_bipush (pc' := 4) dX7_init_2 rfl rfl ?_
  refine n_callI (pc' := 7) (L2 := [(7, 4, [some 2, none, some 0, none])]) (as := [mR 1, mI 14]) (rest := []) (d' := 2) (i_r7 hP) cw_X7_5 w_354 rfl rfl dX7_init_4 rfl (by decide) rfl rfl (by omega) rfl rfl (Nat.le_of_ble_eq_true rfl) (Nat.le_of_ble_eq_true rfl) ?_
  refine j_aload_n (pc' := 8) dX7_init_7 rfl rfl ?_
  refine n_new (pc' := 11) (L' := [(7, 4, [some 2, none, some 0, none]), (6, 17, [none, some 0, some 0, some 0, some 0, none, some 0, none, none, none, none, none, some 0, some 0, none, some 0, none])]) (a := 94) (rs := [none, some 0, some 0, some 0, some 0, none, some 0, none, none, none, none, none, some 0, some 0, none, some 0, none]) kc_6 w_357 w_66 w_3 hty_6 dX7_init_8 rfl (by omega) (Nat.le_of_ble_eq_true rfl) (Nat.le_of_ble_eq_true rfl) (by rw [hP]; rfl) rfl ?_
  refine j_dup (pc' := 12) dX7_init_11 rfl rfl ?_
  refine n_callI (pc' := 15) (L2 := [(7, 4, [some 2, none, some 0, none]), (6, 17, [none, some 96, some 97, some 98, some 99, none, some 100, none, none, none, none, none, some 101, some 102, none, some 103, none]), (20, 12, []), (20, 12, []), (20, 60, []), (20, 60, []), (20, 14, []), (20, 6, []), (20, 6, []), (20, 8, [])]) (as := []) (rest := [mR 94, mR 93]) (d' := 2) (pl_cm (L := [(7, 4, [some 2, none, some 0, none])]) (i_shop (t := 94) (by decide) (pl_len (by rw [hP]; rfl))) rfl rfl) cw_X7_13 w_68 rfl rfl dX7_init_12 rfl (by decide) rfl rfl (by omega) rfl rfl (Nat.le_of_ble_eq_true rfl) (Nat.le_of_ble_eq_true rfl) ?_
  refine n_putR (pc' := 18) (L' := [(7, 4, [some 2, none, some 95, none]), (6, 17, [none, some 96, some 97, some 98, some 99, none, some 100, none, none, none, none, none, some 101, some 102, none, some 103, none]), (20, 12, []), (20, 12, []), (20, 60, []), (20, 60, []), (20, 14, []), (20, 6, []), (20, 6, []), (20, 8, [])]) (j := 0) (sl := 2) (r := 94) (rs := [some 2, none, some 0, none]) kc_7 w_359 (by decide) ⟨rfl, rfl, rfl⟩ (Or.inl ⟨_, rfl⟩) dX7_init_15 rfl (by omega) (by omega) rfl (by decide) (Nat.le_of_ble_eq_true rfl) (by omega) rfl ?_
  exact j_vret dX7_init_18 rfl (Nat.le_of_ble_eq_true rfl) (Nat.le_of_ble_eq_true rfl) ⟨rfl, rfl⟩
theorem i_lawReader {P : List mC} (hP : P.length = 103) {D : mD} : CM 3 5 442 M_X3_init [mR 103, mR 1] (P ++ [(3, 3, [some 0, none, some 0])], D, true) (rN (P ++ [(3, 3, [some 2, none, some 105]), (2, 6, [none, some 106, some 107, some 108, some 109, none]), (20, 12, []), (20, 12, []), (20, 12, []), (20, 400, [])]) (iLaw 104 (nw 104 (pD D 103 1 12)))) := by
  refine CM.intro pn_X3 rfl rfl (Nat.le_of_ble_eq_true rfl) (fun Ω => ?_)
  show J Ω M_X3_init 3 5 442 _ 0 [some (mR 103), some (mR 1)] [] _ 0 0
  refine j_aload_n (pc' := 1) dX3_init_0 rfl rfl ?_
  refine j_aload_n (pc' := 2) dX3_init_1 rfl rfl ?_
  refine j_bipush (pc' := 4) dX3_init_2 rfl rfl ?_
  refine n_callI (pc' := 7) (L2 := [(3, 3, [some 2, none, some 0])]) (as := [mR 1, mI 12]) (rest := []) (d' := 2) (i_r3 hP) cw_X3_5 w_354 rfl rfl dX3_init_4 rfl (by decide) rfl rfl (by omega) rfl rfl (Nat.le_of_ble_eq_true rfl) (Nat.le_of_ble_eq_true rfl) ?_
  refine j_aload_n (pc' := 8) dX3_init_7 rfl rfl ?_
  refine n_new (pc' := 11) (L' := [(3, 3, [some 2, none, some 0]), (2, 6, [none, some 0, some 0, some 0, some 0, none])]) (a := 104) (rs := [none, some 0, some 0, some 0, some 0, none]) kc_2 w_384 w_166 w_4 hty_2 dX3_init_8 rfl (by omega) (Nat.le_of_ble_eq_true rfl) (Nat.le_of_ble_eq_true rfl) (by rw [hP]; rfl) rfl ?_
  refine j_dup (pc' := 12) dX3_init_11 rfl rfl ?_
  refine n_callI (pc' := 15) (L2 := [(3, 3, [some 2, none, some 0]), (2, 6, [none, some 106, some 107, some 108, some 109, none]), (20, 12, []), (20, 12, []), (20, 12, []), (20, 400, [])]) (as := []) (rest := [mR 104, mR 103]) (d' := 2) (pl_cm (L := [(3, 3, [some 2, none, some 0])]) (i_law (t := 104) (by decide) (pl_len (by rw [hP]; rfl))) rfl rfl) cw_X3_11 w_168 rfl rfl dX3_init_12 rfl (by decide) rfl rfl (by omega) rfl rfl (Nat.le_of_ble_eq_true rfl) (Nat.le_of_ble_eq_true rfl) ?_
  refine n_putR (pc' := 18) (L' := [(3, 3, [some 2, none, some 105]), (2, 6, [none, some 106, some 107, some 108, some 109, none]), (20, 12, []), (20, 12, []), (20, 12, []), (20, 400, [])]) (j := 0) (sl := 2) (r := 104) (rs := [some 2, none, some 0]) kc_3 w_386 (by decide) ⟨rfl, rfl, rfl⟩ (Or.inl ⟨_, rfl⟩) dX3_init_15 rfl (by omega) (by omega) rfl (by decide) (Nat.le_of_ble_eq_true rfl) (by omega) rfl ?_
  exact j_vret dX3_init_18 rfl (Nat.le_of_ble_eq_true rfl) (Nat.le_of_ble_eq_true rfl) ⟨rfl, rfl⟩
def histL (i : Nat) : List mC := (1, 3, [some 33, none, none]) :: (23, 12, (([some 34, some 39, some 44, some 49, some 54, some 59, some 64, some 69, some 74, some 79, some 84, some 89].take i) ++ List.replicate (12 - i) (some 0))) :: (SK.drop 33).take (5 * i)
def histM (i : Nat) : List mC := (1, 3, [some 33, none, none]) :: (23, 12, (([some 34, some 39, some 44, some 49, some 54, some 59, some 64, some 69, some 74, some 79, some 84, some 89].take i) ++ List.replicate (12 - i) (some 0))) :: (SK.drop 33).take (5 * i + 5)
theorem i_history {P : List mC} (hP : P.length = 31) {D : mD} : CM 4 61 3516 M_X1_init [mR 31] (P ++ [(1, 3, [some 0, none, none])], D, true) (rN (P ++ histL 12) (iHist 12 33 (nw 32 D))) := by
  refine CM.intro pn_X1 rfl rfl (Nat.le_of_ble_eq_true rfl) (fun Ω => ?_)
  show J Ω M_X1_init 4 61 3516 _ 0 [some (mR 31), none] [] _ 0 0
  refine j_aload_n (pc' := 1) dX1_init_0 rfl rfl ?_
  refine j_objInit (pc' := 4) w_333 w_36 w_37 dX1_init_1 rfl (by decide) (hrs_of rfl) ?_
  refine j_aload_n (pc' := 5) dX1_init_4 rfl rfl ?_
  refine j_bipush (pc' := 7) dX1_init_5 rfl rfl ?_
  refine n_anewa (pc' := 10) (L' := [(1, 3, [some 0, none, none]), (23, 12, [some 0, some 0, some 0, some 0, some 0, some 0, some 0, some 0, some 0, some 0, some 0, some 0])]) (a := 32) (N := 12) w_334 dX1_init_7 rfl rfl (Nat.le_of_ble_eq_true rfl) (by omega) (Nat.le_of_ble_eq_true rfl) (Nat.le_of_ble_eq_true rfl) (by rw [hP]; rfl) rfl ?_
  refine n_putR (pc' := 13) (L' := histL 0) (j := 0) (sl := 0) (r := 32) (rs := [some 0, none, none]) kc_1 w_337 (by decide) ⟨rfl, rfl, rfl⟩ (Or.inr ⟨_, rfl⟩) dX1_init_10 rfl (by omega) (by omega) rfl (by decide) (Nat.le_of_ble_eq_true rfl) (by omega) rfl ?_
  refine j_iconst (pc' := 14) dX1_init_13 rfl ?_
  refine j_istore_n (pc' := 15) (ls' := [some (mR 31), some (mI 0)]) dX1_init_14 rfl (by decide) rfl ?_
  refine j_iload_n (pc' := 16) dX1_init_15 rfl rfl ?_
  refine j_bipush (pc' := 18) dX1_init_16 rfl rfl ?_
  refine j_icmp_ge (tgt := 40) (pc' := 21) dX1_init_18 rfl rfl (by decide) (by decide) (fun q => absurd q (by decide)) (fun _ => ?_)
  refine j_aload_n (pc' := 22) dX1_init_21 rfl rfl ?_
  refine n_getR (pc' := 25) (j := 0) (sl := 0) (r := 32) (rs := [some 33, none, none]) kc_1 w_337 (Or.inl rfl) (by decide) dX1_init_22 rfl (by omega) (by omega) rfl (by decide) rfl (by omega) ?_
  refine j_iload_n (pc' := 26) dX1_init_25 rfl rfl ?_
  refine n_new (pc' := 29) (L' := histL 0 ++ [(9, 11, [some 0, some 0, some 0, none, none, none, none, none, some 0, none, none])]) (a := 33) (rs := [some 0, some 0, some 0, none, none, none, none, none, some 0, none, none]) kc_9 w_334 w_197 w_5 hty_9 dX1_init_26 rfl (by omega) (Nat.le_of_ble_eq_true rfl) (Nat.le_of_ble_eq_true rfl) (by rw [hP]; rfl) rfl ?_
  refine j_dup (pc' := 30) dX1_init_29 rfl rfl ?_
  refine n_callI (pc' := 33) (L2 := histM 0) (as := []) (rest := [mR 33, mI 0, mR 32]) (d' := 3) (pl_cm (L := histL 0) (i_work (t := 33) (by decide) (pl_len (by rw [hP]; rfl))) rfl rfl) cw_X1_15 w_199 rfl rfl dX1_init_30 rfl (by decide) rfl rfl (by omega) rfl rfl (Nat.le_of_ble_eq_true rfl) (Nat.le_of_ble_eq_true rfl) ?_
  refine n_aast (pc' := 34) (L' := histL 1) (j := 1) (jr := 2) (n := 12) (nn := 11) (rs := [some 0, some 0, some 0, some 0, some 0, some 0, some 0, some 0, some 0, some 0, some 0, some 0]) (rs' := [some 35, some 36, some 37, none, none, none, none, none, some 38, none, none]) dX1_init_33 rfl (by omega) (by omega) (by omega) (by omega) rfl rfl (by decide) rfl (by decide) (by decide) rfl ?_
  refine j_iinc (pc' := 37) (z' := 1) (ls' := [some (mR 31), some (mI 1)]) dX1_init_34 rfl rfl rfl (by decide) rfl ?_
  refine j_goto (tgt := 15) dX1_init_37 rfl ?_
  refine j_iload_n (pc' := 16) dX1_init_15 rfl rfl ?_
  refine j_bipush (pc' := 18) dX1_init_16 rfl rfl ?_
  refine j_icmp_ge (tgt := 40) (pc' := 21) dX1_init_18 rfl rfl (by decide) (by decide) (fun q => absurd q (by decide)) (fun _ => ?_)
  refine j_aload_n (pc' := 22) dX1_init_21 rfl rfl ?_
  refine n_getR (pc' := 25) (j := 0) (sl := 0) (r := 32) (rs := [some 33, none, none]) kc_1 w_337 (Or.inl rfl) (by decide) dX1_init_22 rfl (by omega) (by omega) rfl (by decide) rfl (by omega) ?_
  refine j_iload_n (pc' := 26) dX1_init_25 rfl rfl ?_
  refine n_new (pc' := 29) (L' := histL 1 ++ [(9, 11, [some 0, some 0, some 0, none, none, none, none, none, some 0, none, none])]) (a := 38) (rs := [some 0, some 0, some 0, none, none, none, none, none, some 0, none, none]) kc_9 w_334 w_197 w_5 hty_9 dX1_init_26 rfl (by omega) (Nat.le_of_ble_eq_true rfl) (Nat.le_of_ble_eq_true rfl) (by rw [hP]; rfl) rfl ?_
  refine j_dup (pc' := 30) dX1_init_29 rfl rfl ?_
  refine n_callI (pc' := 33) (L2 := histM 1) (as := []) (rest := [mR 38, mI 1, mR 32]) (d' := 3) (pl_cm (L := histL 1) (i_work (t := 38) (by decide) (pl_len (by rw [hP]; rfl))) rfl rfl) cw_X1_15 w_199 rfl rfl dX1_init_30 rfl (by decide) rfl rfl (by omega) rfl rfl (Nat.le_of_ble_eq_true rfl) (Nat.le_of_ble_eq_true rfl) ?_
  refine n_aast (pc' := 34) (L' := histL 2) (j := 1) (jr := 7) (n := 12) (nn := 11) (rs := [some 34, some 0, some 0, some 0, some 0, some 0, some 0, some 0, some 0, some 0, some 0, some 0]) (rs' := [some 40, some 41, some 42, none, none, none, none, none, some 43, none, none]) dX1_init_33 rfl (by omega) (by omega) (by omega) (by omega) rfl rfl (by decide) rfl (by decide) (by decide) rfl ?_
  refine j_iinc (pc' := 37) (z' := 2) (ls' := [some (mR 31), some (mI 2)]) dX1_init_34 rfl rfl rfl (by decide) rfl ?_
  refine j_goto (tgt := 15) dX1_init_37 rfl ?_
  refine j_iload_n (pc' := 16) dX1_init_15 rfl rfl ?_
  refine j_bipush (pc' := 18) dX1_init_16 rfl rfl ?_
  refine j_icmp_ge (tgt := 40) (pc' := 21) dX1_init_18 rfl rfl (by decide) (by decide) (fun q => absurd q (by decide)) (fun _ => ?_)
  refine j_aload_n (pc' := 22) dX1_init_21 rfl rfl ?_
  refine n_getR (pc' := 25) (j := 0) (sl := 0) (r := 32) (rs := [some 33, none, none]) kc_1 w_337 (Or.inl rfl) (by decide) dX1_init_22 rfl (by omega) (by omega) rfl (by decide) rfl (by omega) ?_
  refine j_iload_n (pc' := 26) dX1_init_25 rfl rfl ?_
  refine n_new (pc' := 29) (L' := histL 2 ++ [(9, 11, [some 0, some 0, some 0, none, none, none, none, none, some 0, none, none])]) (a := 43) (rs := [some 0, some 0, some 0, none, none, none, none, none, some 0, none, none]) kc_9 w_334 w_197 w_5 hty_9 dX1_init_26 rfl (by omega) (Nat.le_of_ble_eq_true rfl) (Nat.le_of_ble_eq_true rfl) (by rw [hP]; rfl) rfl ?_
  refine j_dup (pc' := 30) dX1_init_29 rfl rfl ?_
  refine n_callI (pc' := 33) (L2 := histM 2) (as := []) (rest := [mR 43, mI 2, mR 32]) (d' := 3) (pl_cm (L := histL 2) (i_work (t := 43) (by decide) (pl_len (by rw [hP]; rfl))) rfl rfl) cw_X1_15 w_199 rfl rfl dX1_init_30 rfl (by decide) rfl rfl (by omega) rfl rfl (Nat.le_of_ble_eq_true rfl) (Nat.le_of_ble_eq_true rfl) ?_
  refine n_aast (pc' := 34) (L' := histL 3) (j := 1) (jr := 12) (n := 12) (nn := 11) (rs := [some 34, some 39, some 0, some 0, some 0, some 0, some 0, some 0, some 0, some 0, some 0, some 0]) (rs' := [some 45, some 46, some 47, none, none, none, none, none, some 48, none, none]) dX1_init_33 rfl (by omega) (by omega) (by omega) (by omega) rfl rfl (by decide) rfl (by decide) (by decide) rfl ?_
  refine j_iinc (pc' := 37) (z' := 3) (ls' := [some (mR 31), some (mI 3)]) dX1_init_34 rfl rfl rfl (by decide) rfl ?_
  refine j_goto (tgt := 15) dX1_init_37 rfl ?_
  refine j_iload_n (pc' := 16) dX1_init_15 rfl rfl ?_
  refine j_bipush (pc' := 18) dX1_init_16 rfl rfl ?_
  refine j_icmp_ge (tgt := 40) (pc' := 21) dX1_init_18 rfl rfl (by decide) (by decide) (fun q => absurd q (by decide)) (fun _ => ?_)
  refine j_aload_n (pc' := 22) dX1_init_21 rfl rfl ?_
  refine n_getR (pc' := 25) (j := 0) (sl := 0) (r := 32) (rs := [some 33, none, none]) kc_1 w_337 (Or.inl rfl) (by decide) dX1_init_22 rfl (by omega) (by omega) rfl (by decide) rfl (by omega) ?_
  refine j_iload_n (pc' := 26) dX1_init_25 rfl rfl ?_
  refine n_new (pc' := 29) (L' := histL 3 ++ [(9, 11, [some 0, some 0, some 0, none, none, none, none, none, some 0, none, none])]) (a := 48) (rs := [some 0, some 0, some 0, none, none, none, none, none, some 0, none, none]) kc_9 w_334 w_197 w_5 hty_9 dX1_init_26 rfl (by omega) (Nat.le_of_ble_eq_true rfl) (Nat.le_of_ble_eq_true rfl) (by rw [hP]; rfl) rfl ?_
  refine j_dup (pc' := 30) dX1_init_29 rfl rfl ?_
  refine n_callI (pc' := 33) (L2 := histM 3) (as := []) (rest := [mR 48, mI 3, mR 32]) (d' := 3) (pl_cm (L := histL 3) (i_work (t := 48) (by decide) (pl_len (by rw [hP]; rfl))) rfl rfl) cw_X1_15 w_199 rfl rfl dX1_init_30 rfl (by decide) rfl rfl (by omega) rfl rfl (Nat.le_of_ble_eq_true rfl) (Nat.le_of_ble_eq_true rfl) ?_
  refine n_aast (pc' := 34) (L' := histL 4) (j := 1) (jr := 17) (n := 12) (nn := 11) (rs := [some 34, some 39, some 44, some 0, some 0, some 0, some 0, some 0, some 0, some 0, some 0, some 0]) (rs' := [some 50, some 51, some 52, none, none, none, none, none, some 53, none, none]) dX1_init_33 rfl (by omega) (by omega) (by omega) (by omega) rfl rfl (by decide) rfl (by decide) (by decide) rfl ?_
  refine j_iinc (pc' := 37) (z' := 4) (ls' := [some (mR 31), some (mI 4)]) dX1_init_34 rfl rfl rfl (by decide) rfl ?_
  refine j_goto (tgt := 15) dX1_init_37 rfl ?_
  refine j_iload_n (pc' := 16) dX1_init_15 rfl rfl ?_
  refine j_bipush (pc' := 18) dX1_init_16 rfl rfl ?_
  refine j_icmp_ge (tgt := 40) (pc' := 21) dX1_init_18 rfl rfl (by decide) (by decide) (fun q => absurd q (by decide)) (fun _ => ?_)
  refine j_aload_n (pc' := 22) dX1_init_21 rfl rfl ?_
  refine n_getR (pc' := 25) (j := 0) (sl := 0) (r := 32) (rs := [some 33, none, none]) kc_1 w_337 (Or.inl rfl) (by decide) dX1_init_22 rfl (by omega) (by omega) rfl (by decide) rfl (by omega) ?_
  refine j_iload_n (pc' := 26) dX1_init_25 rfl rfl ?_
  refine n_new (pc' := 29) (L' := histL 4 ++ [(9, 11, [some 0, some 0, some 0, none, none, none, none, none, some 0, none, none])]) (a := 53) (rs := [some 0, some 0, some 0, none, none, none, none, none, some 0, none, none]) kc_9 w_334 w_197 w_5 hty_9 dX1_init_26 rfl (by omega) (Nat.le_of_ble_eq_true rfl) (Nat.le_of_ble_eq_true rfl) (by rw [hP]; rfl) rfl ?_
  refine j_dup (pc' := 30) dX1_init_29 rfl rfl ?_
  refine n_callI (pc' := 33) (L2 := histM 4) (as := []) (rest := [mR 53, mI 4, mR 32]) (d' := 3) (pl_cm (L := histL 4) (i_work (t := 53) (by decide) (pl_len (by rw [hP]; rfl))) rfl rfl) cw_X1_15 w_199 rfl rfl dX1_init_30 rfl (by decide) rfl rfl (by omega) rfl rfl (Nat.le_of_ble_eq_true rfl) (Nat.le_of_ble_eq_true rfl) ?_
  refine n_aast (pc' := 34) (L' := histL 5) (j := 1) (jr := 22) (n := 12) (nn := 11) (rs := [some 34, some 39, some 44, some 49, some 0, some 0, some 0, some 0, some 0, some 0, some 0, some 0]) (rs' := [some 55, some 56, some 57, none, none, none, none, none, some 58, none, none]) dX1_init_33 rfl (by omega) (by omega) (by omega) (by omega) rfl rfl (by decide) rfl (by decide) (by decide) rfl ?_
  refine j_iinc (pc' := 37) (z' := 5) (ls' := [some (mR 31), some (mI 5)]) dX1_init_34 rfl rfl rfl (by decide) rfl ?_
  refine j_goto (tgt := 15) dX1_init_37 rfl ?_
  refine j_iload_n (pc' := 16) dX1_init_15 rfl rfl ?_
  refine j_bipush (pc' := 18) dX1_init_16 rfl rfl ?_
  refine j_icmp_ge (tgt := 40) (pc' := 21) dX1_init_18 rfl rfl (by decide) (by decide) (fun q => absurd q (by decide)) (fun _ => ?_)
  refine j_aload_n (pc' := 22) dX1_init_21 rfl rfl ?_
  refine n_getR (pc' := 25) (j := 0) (sl := 0) (r := 32) (rs := [some 33, none, none]) kc_1 w_337 (Or.inl rfl) (by decide) dX1_init_22 rfl (by omega) (by omega) rfl (by decide) rfl (by omega) ?_
  refine j_iload_n (pc' := 26) dX1_init_25 rfl rfl ?_
  refine n_new (pc' := 29) (L' := histL 5 ++ [(9, 11, [some 0, some 0, some 0, none, none, none, none, none, some 0, none, none])]) (a := 58) (rs := [some 0, some 0, some 0, none, none, none, none, none, some 0, none, none]) kc_9 w_334 w_197 w_5 hty_9 dX1_init_26 rfl (by omega) (Nat.le_of_ble_eq_true rfl) (Nat.le_of_ble_eq_true rfl) (by rw [hP]; rfl) rfl ?_
  refine j_dup (pc' := 30) dX1_init_29 rfl rfl ?_
  refine n_callI (pc' := 33) (L2 := histM 5) (as := []) (rest := [mR 58, mI 5, mR 32]) (d' := 3) (pl_cm (L := histL 5) (i_work (t := 58) (by decide) (pl_len (by rw [hP]; rfl))) rfl rfl) cw_X1_15 w_199 rfl rfl dX1_init_30 rfl (by decide) rfl rfl (by omega) rfl rfl (Nat.le_of_ble_eq_true rfl) (Nat.le_of_ble_eq_true rfl) ?_
  refine n_aast (pc' := 34) (L' := histL 6) (j := 1) (jr := 27) (n := 12) (nn := 11) (rs := [some 34, some 39, some 44, some 49, some 54, some 0, some 0, some 0, some 0, some 0, some 0, some 0]) (rs' := [some 60, some 61, some 62, none, none, none, none, none, some 63, none, none]) dX1_init_33 rfl (by omega) (by omega) (by omega) (by omega) rfl rfl (by decide) rfl (by decide) (by decide) rfl ?_
  refine j_iinc (pc' := 37) (z' := 6) (ls' := [some (mR 31), some (mI 6)]) dX1_init_34 rfl rfl rfl (by decide) rfl ?_
  refine j_goto (tgt := 15) dX1_init_37 rfl ?_
  refine j_iload_n (pc' := 16) dX1_init_15 rfl rfl ?_
  refine j_bipush (pc' := 18) dX1_init_16 rfl rfl ?_
  refine j_icmp_ge (tgt := 40) (pc' := 21) dX1_init_18 rfl rfl (by decide) (by decide) (fun q => absurd q (by decide)) (fun _ => ?_)
  refine j_aload_n (pc' := 22) dX1_init_21 rfl rfl ?_
  refine n_getR (pc' := 25) (j := 0) (sl := 0) (r := 32) (rs := [some 33, none, none]) kc_1 w_337 (Or.inl rfl) (by decide) dX1_init_22 rfl (by omega) (by omega) rfl (by decide) rfl (by omega) ?_
  refine j_iload_n (pc' := 26) dX1_init_25 rfl rfl ?_
  refine n_new (pc' := 29) (L' := histL 6 ++ [(9, 11, [some 0, some 0, some 0, none, none, none, none, none, some 0, none, none])]) (a := 63) (rs := [some 0, some 0, some 0, none, none, none, none, none, some 0, none, none]) kc_9 w_334 w_197 w_5 hty_9 dX1_init_26 rfl (by omega) (Nat.le_of_ble_eq_true rfl) (Nat.le_of_ble_eq_true rfl) (by rw [hP]; rfl) rfl ?_
  refine j_dup (pc' := 30) dX1_init_29 rfl rfl ?_
  refine n_callI (pc' := 33) (L2 := histM 6) (as := []) (rest := [mR 63, mI 6, mR 32]) (d' := 3) (pl_cm (L := histL 6) (i_work (t := 63) (by decide) (pl_len (by rw [hP]; rfl))) rfl rfl) cw_X1_15 w_199 rfl rfl dX1_init_30 rfl (by decide) rfl rfl (by omega) rfl rfl (Nat.le_of_ble_eq_true rfl) (Nat.le_of_ble_eq_true rfl) ?_
  refine n_aast (pc' := 34) (L' := histL 7) (j := 1) (jr := 32) (n := 12) (nn := 11) (rs := [some 34, some 39, some 44, some 49, some 54, some 59, some 0, some 0, some 0, some 0, some 0, some 0]) (rs' := [some 65, some 66, some 67, none, none, none, none, none, some 68, none, none]) dX1_init_33 rfl (by omega) (by omega) (by omega) (by omega) rfl rfl (by decide) rfl (by decide) (by decide) rfl ?_
  refine j_iinc (pc' := 37) (z' := 7) (ls' := [some (mR 31), some (mI 7)]) dX1_init_34 rfl rfl rfl (by decide) rfl ?_
  refine j_goto (tgt := 15) dX1_init_37 rfl ?_
  refine j_iload_n (pc' := 16) dX1_init_15 rfl rfl ?_
  refine j_bipush (pc' := 18) dX1_init_16 rfl rfl ?_
  refine j_icmp_ge (tgt := 40) (pc' := 21) dX1_init_18 rfl rfl (by decide) (by decide) (fun q => absurd q (by decide)) (fun _ => ?_)
  refine j_aload_n (pc' := 22) dX1_init_21 rfl rfl ?_
  refine n_getR (pc' := 25) (j := 0) (sl := 0) (r := 32) (rs := [some 33, none, none]) kc_1 w_337 (Or.inl rfl) (by decide) dX1_init_22 rfl (by omega) (by omega) rfl (by decide) rfl (by omega) ?_
  refine j_iload_n (pc' := 26) dX1_init_25 rfl rfl ?_
  refine n_new (pc' := 29) (L' := histL 7 ++ [(9, 11, [some 0, some 0, some 0, none, none, none, none, none, some 0, none, none])]) (a := 68) (rs := [some 0, some 0, some 0, none, none, none, none, none, some 0, none, none]) kc_9 w_334 w_197 w_5 hty_9 dX1_init_26 rfl (by omega) (Nat.le_of_ble_eq_true rfl) (Nat.le_of_ble_eq_true rfl) (by rw [hP]; rfl) rfl ?_
  refine j_dup (pc' := 30) dX1_init_29 rfl rfl ?_
  refine n_callI (pc' := 33) (L2 := histM 7) (as := []) (rest := [mR 68, mI 7, mR 32]) (d' := 3) (pl_cm (L := histL 7) (i_work (t := 68) (by decide) (pl_len (by rw [hP]; rfl))) rfl rfl) cw_X1_15 w_199 rfl rfl dX1_init_30 rfl (by decide) rfl rfl (by omega) rfl rfl (Nat.le_of_ble_eq_true rfl) (Nat.le_of_ble_eq_true rfl) ?_
  refine n_aast (pc' := 34) (L' := histL 8) (j := 1) (jr := 37) (n := 12) (nn := 11) (rs := [some 34, some 39, some 44, some 49, some 54, some 59, some 64, some 0, some 0, some 0, some 0, some 0]) (rs' := [some 70, some 71, some 72, none, none, none, none, none, some 73, none, none]) dX1_init_33 rfl (by omega) (by omega) (by omega) (by omega) rfl rfl (by decide) rfl (by decide) (by decide) rfl ?_
  refine j_iinc (pc' := 37) (z' := 8) (ls' := [some (mR 31), some (mI 8)]) dX1_init_34 rfl rfl rfl (by decide) rfl ?_
  refine j_goto (tgt := 15) dX1_init_37 rfl ?_
  refine j_iload_n (pc' := 16) dX1_init_15 rfl rfl ?_
  refine j_bipush (pc' := 18) dX1_init_16 rfl rfl ?_
  refine j_icmp_ge (tgt := 40) (pc' := 21) dX1_init_18 rfl rfl (by decide) (by decide) (fun q => absurd q (by decide)) (fun _ => ?_)
  refine j_aload_n (pc' := 22) dX1_init_21 rfl rfl ?_
  refine n_getR (pc' := 25) (j := 0) (sl := 0) (r := 32) (rs := [some 33, none, none]) kc_1 w_337 (Or.inl rfl) (by decide) dX1_init_22 rfl (by omega) (by omega) rfl (by decide) rfl (by omega) ?_
  refine j_iload_n (pc' := 26) dX1_init_25 rfl rfl ?_
  refine n_new (pc' := 29) (L' := histL 8 ++ [(9, 11, [some 0, some 0, some 0, none, none, none, none, none, some 0, none, none])]) (a := 73) (rs := [some 0, some 0, some 0, none, none, none, none, none, some 0, none, none]) kc_9 w_334 w_197 w_5 hty_9 dX1_init_26 rfl (by omega) (Nat.le_of_ble_eq_true rfl) (Nat.le_of_ble_eq_true rfl) (by rw [hP]; rfl) rfl ?_
  refine j_dup (pc' := 30) dX1_init_29 rfl rfl ?_
  refine n_callI (pc' := 33) (L2 := histM 8) (as := []) (rest := [mR 73, mI 8, mR 32]) (d' := 3) (pl_cm (L := histL 8) (i_work (t := 73) (by decide) (pl_len (by rw [hP]; rfl))) rfl rfl) cw_X1_15 w_199 rfl rfl dX1_init_30 rfl (by decide) rfl rfl (by omega) rfl rfl (Nat.le_of_ble_eq_true rfl) (Nat.le_of_ble_eq_true rfl) ?_
  refine n_aast (pc' := 34) (L' := histL 9) (j := 1) (jr := 42) (n := 12) (nn := 11) (rs := [some 34, some 39, some 44, some 49, some 54, some 59, some 64, some 69, some 0, some 0, some 0, some 0]) (rs' := [some 75, some 76, some 77, none, none, none, none, none, some 78, none, none]) dX1_init_33 rfl (by omega) (by omega) (by omega) (by omega) rfl rfl (by decide) rfl (by decide) (by decide) rfl ?_
  refine j_iinc (pc' := 37) (z' := 9) (ls' := [some (mR 31), some (mI 9)]) dX1_init_34 rfl rfl rfl (by decide) rfl ?_
  refine j_goto (tgt := 15) dX1_init_37 rfl ?_
  refine j_iload_n (pc' := 16) dX1_init_15 rfl rfl ?_
  refine j_bipush (pc' := 18) dX1_init_16 rfl rfl ?_
  refine j_icmp_ge (tgt := 40) (pc' := 21) dX1_init_18 rfl rfl (by decide) (by decide) (fun q => absurd q (by decide)) (fun _ => ?_)
  refine j_aload_n (pc' := 22) dX1_init_21 rfl rfl ?_
  refine n_getR (pc' := 25) (j := 0) (sl := 0) (r := 32) (rs := [some 33, none, none]) kc_1 w_337 (Or.inl rfl) (by decide) dX1_init_22 rfl (by omega) (by omega) rfl (by decide) rfl (by omega) ?_
  refine j_iload_n (pc' := 26) dX1_init_25 rfl rfl ?_
  refine n_new (pc' := 29) (L' := histL 9 ++ [(9, 11, [some 0, some 0, some 0, none, none, none, none, none, some 0, none, none])]) (a := 78) (rs := [some 0, some 0, some 0, none, none, none, none, none, some 0, none, none]) kc_9 w_334 w_197 w_5 hty_9 dX1_init_26 rfl (by omega) (Nat.le_of_ble_eq_true rfl) (Nat.le_of_ble_eq_true rfl) (by rw [hP]; rfl) rfl ?_
  refine j_dup (pc' := 30) dX1_init_29 rfl rfl ?_
  refine n_callI (pc' := 33) (L2 := histM 9) (as := []) (rest := [mR 78, mI 9, mR 32]) (d' := 3) (pl_cm (L := histL 9) (i_work (t := 78) (by decide) (pl_len (by rw [hP]; rfl))) rfl rfl) cw_X1_15 w_199 rfl rfl dX1_init_30 rfl (by decide) rfl rfl (by omega) rfl rfl (Nat.le_of_ble_eq_true rfl) (Nat.le_of_ble_eq_true rfl) ?_
  refine n_aast (pc' := 34) (L' := histL 10) (j := 1) (jr := 47) (n := 12) (nn := 11) (rs := [some 34, some 39, some 44, some 49, some 54, some 59, some 64, some 69, some 74, some 0, some 0, some 0]) (rs' := [some 80, some 81, some 82, none, none, none, none, none, some 83, none, none]) dX1_init_33 rfl (by omega) (by omega) (by omega) (by omega) rfl rfl (by decide) rfl (by decide) (by decide) rfl ?_
  refine j_iinc (pc' := 37) (z' := 10) (ls' := [some (mR 31), some (mI 10)]) dX1_init_34 rfl rfl rfl (by decide) rfl ?_
  refine j_goto (tgt := 15) dX1_init_37 rfl ?_
  refine j_iload_n (pc' := 16) dX1_init_15 rfl rfl ?_
  refine j_bipush (pc' := 18) dX1_init_16 rfl rfl ?_
  refine j_icmp_ge (tgt := 40) (pc' := 21) dX1_init_18 rfl rfl (by decide) (by decide) (fun q => absurd q (by decide)) (fun _ => ?_)
  refine j_aload_n (pc' := 22) dX1_init_21 rfl rfl ?_
  refine n_getR (pc' := 25) (j := 0) (sl := 0) (r := 32) (rs := [some 33, none, none]) kc_1 w_337 (Or.inl rfl) (by decide) dX1_init_22 rfl (by omega) (by omega) rfl (by decide) rfl (by omega) ?_
  refine j_iload_n (pc' := 26) dX1_init_25 rfl rfl ?_
  refine n_new (pc' := 29) (L' := histL 10 ++ [(9, 11, [some 0, some 0, some 0, none, none, none, none, none, some 0, none, none])]) (a := 83) (rs := [some 0, some 0, some 0, none, none, none, none, none, some 0, none, none]) kc_9 w_334 w_197 w_5 hty_9 dX1_init_26 rfl (by omega) (Nat.le_of_ble_eq_true rfl) (Nat.le_of_ble_eq_true rfl) (by rw [hP]; rfl) rfl ?_
  refine j_dup (pc' := 30) dX1_init_29 rfl rfl ?_
  refine n_callI (pc' := 33) (L2 := histM 10) (as := []) (rest := [mR 83, mI 10, mR 32]) (d' := 3) (pl_cm (L := histL 10) (i_work (t := 83) (by decide) (pl_len (by rw [hP]; rfl))) rfl rfl) cw_X1_15 w_199 rfl rfl dX1_init_30 rfl (by decide) rfl rfl (by omega) rfl rfl (Nat.le_of_ble_eq_true rfl) (Nat.le_of_ble_eq_true rfl) ?_
  refine n_aast (pc' := 34) (L' := histL 11) (j := 1) (jr := 52) (n := 12) (nn := 11) (rs := [some 34, some 39, some 44, some 49, some 54, some 59, some 64, some 69, some 74, some 79, some 0, some 0]) (rs' := [some 85, some 86, some 87, none, none, none, none, none, some 88, none, none]) dX1_init_33 rfl (by omega) (by omega) (by omega) (by omega) rfl rfl (by decide) rfl (by decide) (by decide) rfl ?_
  refine j_iinc (pc' := 37) (z' := 11) (ls' := [some (mR 31), some (mI 11)]) dX1_init_34 rfl rfl rfl (by decide) rfl ?_
  refine j_goto (tgt := 15) dX1_init_37 rfl ?_
  refine j_iload_n (pc' := 16) dX1_init_15 rfl rfl ?_
  refine j_bipush (pc' := 18) dX1_init_16 rfl rfl ?_
  refine j_icmp_ge (tgt := 40) (pc' := 21) dX1_init_18 rfl rfl (by decide) (by decide) (fun q => absurd q (by decide)) (fun _ => ?_)
  refine j_aload_n (pc' := 22) dX1_init_21 rfl rfl ?_
  refine n_getR (pc' := 25) (j := 0) (sl := 0) (r := 32) (rs := [some 33, none, none]) kc_1 w_337 (Or.inl rfl) (by decide) dX1_init_22 rfl (by omega) (by omega) rfl (by decide) rfl (by omega) ?_
  refine j_iload_n (pc' := 26) dX1_init_25 rfl rfl ?_
  refine n_new (pc' := 29) (L' := histL 11 ++ [(9, 11, [some 0, some 0, some 0, none, none, none, none, none, some 0, none, none])]) (a := 88) (rs := [some 0, some 0, some 0, none, none, none, none, none, some 0, none, none]) kc_9 w_334 w_197 w_5 hty_9 dX1_init_26 rfl (by omega) (Nat.le_of_ble_eq_true rfl) (Nat.le_of_ble_eq_true rfl) (by rw [hP]; rfl) rfl ?_
  refine j_dup (pc' := 30) dX1_init_29 rfl rfl ?_
  refine n_callI (pc' := 33) (L2 := histM 11) (as := []) (rest := [mR 88, mI 11, mR 32]) (d' := 3) (pl_cm (L := histL 11) (i_work (t := 88) (by decide) (pl_len (by rw [hP]; rfl))) rfl rfl) cw_X1_15 w_199 rfl rfl dX1_init_30 rfl (by decide) rfl rfl (by omega) rfl rfl (Nat.le_of_ble_eq_true rfl) (Nat.le_of_ble_eq_true rfl) ?_
  refine n_aast (pc' := 34) (L' := histL 12) (j := 1) (jr := 57) (n := 12) (nn := 11) (rs := [some 34, some 39, some 44, some 49, some 54, some 59, some 64, some 69, some 74, some 79, some 84, some 0]) (rs' := [some 90, some 91, some 92, none, none, none, none, none, some 93, none, none]) dX1_init_33 rfl (by omega) (by omega) (by omega) (by omega) rfl rfl (by decide) rfl (by decide) (by decide) rfl ?_
  refine j_iinc (pc' := 37) (z' := 12) (ls' := [some (mR 31), some (mI 12)]) dX1_init_34 rfl rfl rfl (by decide) rfl ?_
  refine j_goto (tgt := 15) dX1_init_37 rfl ?_
  refine j_iload_n (pc' := 16) dX1_init_15 rfl rfl ?_
  refine j_bipush (pc' := 18) dX1_init_16 rfl rfl ?_
  refine j_icmp_ge (tgt := 40) (pc' := 21) dX1_init_18 rfl rfl (by decide) (by decide) (fun _ => ?_) (fun q => absurd (show (12 : Int) ≤ 12 by decide) q)
  exact j_vret dX1_init_40 rfl (Nat.le_of_ble_eq_true rfl) (Nat.le_of_ble_eq_true rfl) ⟨rfl, rfl⟩
def bk (rs : List (Option Nat)) (m : Nat) : List mC := (10, 16, rs) :: (SK.drop 1).take (m - 1)
set_option maxRecDepth 100000 in
theorem i_board {P : List mC} (hP : P.length = 0) {D : mD} : CM 5 132 9725 M_X11_init [mR 0] (P ++ bk [some 0, some 0, some 0, some 0, some 0, some 0, some 0, some 0, some 0, some 0, some 0, some 0, some 0, some 0, none, none] 1, D, true) (rN (P ++ SK.take 133) (iBoard D)) := by
  refine CM.intro pn_X11 rfl rfl (Nat.le_of_ble_eq_true rfl) (fun Ω => ?_)
  show J Ω M_X11_init 5 132 9725 _ 0 [some (mR 0)] [] _ 0 0
  refine j_aload_n (pc' := 1) dX11_init_0 rfl rfl ?_
  refine j_objInit (pc' := 4) w_35 w_36 w_37 dX11_init_1 rfl (by decide) (hrs_of rfl) ?_
  refine j_aload_n (pc' := 5) dX11_init_4 rfl rfl ?_
  refine n_new (pc' := 8) (L' := bk [some 0, some 0, some 0, some 0, some 0, some 0, some 0, some 0, some 0, some 0, some 0, some 0, some 0, some 0, none, none] 1 ++ [(8, 5, [some 0, none, none, none, none])]) (a := 1) (rs := [some 0, none, none, none, none]) kc_8 w_38 w_39 w_2 hty_8 dX11_init_5 rfl (by omega) (Nat.le_of_ble_eq_true rfl) (Nat.le_of_ble_eq_true rfl) (by rw [hP]; rfl) rfl ?_
  refine j_dup (pc' := 9) dX11_init_8 rfl rfl ?_
  refine n_callI (pc' := 12) (L2 := bk [some 0, some 0, some 0, some 0, some 0, some 0, some 0, some 0, some 0, some 0, some 0, some 0, some 0, some 0, none, none] 3) (as := []) (rest := [mR 1, mR 0]) (d' := 2) (pl_cm (L := bk [some 0, some 0, some 0, some 0, some 0, some 0, some 0, some 0, some 0, some 0, some 0, some 0, some 0, some 0, none, none] 1) (i_tape (pl_len (by rw [hP]; rfl))) rfl rfl) cw_X11_9 w_41 rfl rfl dX11_init_9 rfl (by decide) rfl rfl (by omega) rfl rfl (Nat.le_of_ble_eq_true rfl) (Nat.le_of_ble_eq_true rfl) ?_
  refine n_putR (pc' := 15) (L' := bk [some 2, some 0, some 0, some 0, some 0, some 0, some 0, some 0, some 0, some 0, some 0, some 0, some 0, some 0, none, none] 3) (j := 0) (sl := 0) (r := 1) (rs := [some 0, some 0, some 0, some 0, some 0, some 0, some 0, some 0, some 0, some 0, some 0, some 0, some 0, some 0, none, none]) kc_10 w_393 (by decide) ⟨rfl, rfl, rfl⟩ (Or.inl ⟨_, rfl⟩) dX11_init_12 rfl (by omega) (by omega) rfl (by decide) (Nat.le_of_ble_eq_true rfl) (by omega) rfl ?_
  refine j_aload_n (pc' := 16) dX11_init_15 rfl rfl ?_
  refine n_new (pc' := 19) (L' := bk [some 2, some 0, some 0, some 0, some 0, some 0, some 0, some 0, some 0, some 0, some 0, some 0, some 0, some 0, none, none] 3 ++ [(6, 17, [none, some 0, some 0, some 0, some 0, none, some 0, none, none, none, none, none, some 0, some 0, none, some 0, none])]) (a := 3) (rs := [none, some 0, some 0, some 0, some 0, none, some 0, none, none, none, none, none, some 0, some 0, none, some 0, none]) kc_6 w_65 w_66 w_3 hty_6 dX11_init_16 rfl (by omega) (Nat.le_of_ble_eq_true rfl) (Nat.le_of_ble_eq_true rfl) (by rw [hP]; rfl) rfl ?_
  refine j_dup (pc' := 20) dX11_init_19 rfl rfl ?_
  refine n_callI (pc' := 23) (L2 := bk [some 2, some 0, some 0, some 0, some 0, some 0, some 0, some 0, some 0, some 0, some 0, some 0, some 0, some 0, none, none] 12) (as := []) (rest := [mR 3, mR 0]) (d' := 2) (pl_cm (L := bk [some 2, some 0, some 0, some 0, some 0, some 0, some 0, some 0, some 0, some 0, some 0, some 0, some 0, some 0, none, none] 3) (i_shop (t := 3) (by decide) (pl_len (by rw [hP]; rfl))) rfl rfl) cw_X11_18 w_68 rfl rfl dX11_init_20 rfl (by decide) rfl rfl (by omega) rfl rfl (Nat.le_of_ble_eq_true rfl) (Nat.le_of_ble_eq_true rfl) ?_
  refine n_putR (pc' := 26) (L' := bk [some 2, some 4, some 0, some 0, some 0, some 0, some 0, some 0, some 0, some 0, some 0, some 0, some 0, some 0, none, none] 12) (j := 0) (sl := 1) (r := 3) (rs := [some 2, some 0, some 0, some 0, some 0, some 0, some 0, some 0, some 0, some 0, some 0, some 0, some 0, some 0, none, none]) kc_10 w_394 (by decide) ⟨rfl, rfl, rfl⟩ (Or.inl ⟨_, rfl⟩) dX11_init_23 rfl (by omega) (by omega) rfl (by decide) (Nat.le_of_ble_eq_true rfl) (by omega) rfl ?_
  refine j_aload_n (pc' := 27) dX11_init_26 rfl rfl ?_
  refine n_new (pc' := 30) (L' := bk [some 2, some 4, some 0, some 0, some 0, some 0, some 0, some 0, some 0, some 0, some 0, some 0, some 0, some 0, none, none] 12 ++ [(2, 6, [none, some 0, some 0, some 0, some 0, none])]) (a := 12) (rs := [none, some 0, some 0, some 0, some 0, none]) kc_2 w_165 w_166 w_4 hty_2 dX11_init_27 rfl (by omega) (Nat.le_of_ble_eq_true rfl) (Nat.le_of_ble_eq_true rfl) (by rw [hP]; rfl) rfl ?_
  refine j_dup (pc' := 31) dX11_init_30 rfl rfl ?_
  refine n_callI (pc' := 34) (L2 := bk [some 2, some 4, some 0, some 0, some 0, some 0, some 0, some 0, some 0, some 0, some 0, some 0, some 0, some 0, none, none] 17) (as := []) (rest := [mR 12, mR 0]) (d' := 2) (pl_cm (L := bk [some 2, some 4, some 0, some 0, some 0, some 0, some 0, some 0, some 0, some 0, some 0, some 0, some 0, some 0, none, none] 12) (i_law (t := 12) (by decide) (pl_len (by rw [hP]; rfl))) rfl rfl) cw_X11_25 w_168 rfl rfl dX11_init_31 rfl (by decide) rfl rfl (by omega) rfl rfl (Nat.le_of_ble_eq_true rfl) (Nat.le_of_ble_eq_true rfl) ?_
  refine n_putR (pc' := 37) (L' := bk [some 2, some 4, some 13, some 0, some 0, some 0, some 0, some 0, some 0, some 0, some 0, some 0, some 0, some 0, none, none] 17) (j := 0) (sl := 2) (r := 12) (rs := [some 2, some 4, some 0, some 0, some 0, some 0, some 0, some 0, some 0, some 0, some 0, some 0, some 0, some 0, none, none]) kc_10 w_395 (by decide) ⟨rfl, rfl, rfl⟩ (Or.inl ⟨_, rfl⟩) dX11_init_34 rfl (by omega) (by omega) rfl (by decide) (Nat.le_of_ble_eq_true rfl) (by omega) rfl ?_
  refine j_aload_n (pc' := 38) dX11_init_37 rfl rfl ?_
  refine n_new (pc' := 41) (L' := bk [some 2, some 4, some 13, some 0, some 0, some 0, some 0, some 0, some 0, some 0, some 0, some 0, some 0, some 0, none, none] 17 ++ [(9, 11, [some 0, some 0, some 0, none, none, none, none, none, some 0, none, none])]) (a := 17) (rs := [some 0, some 0, some 0, none, none, none, none, none, some 0, none, none]) kc_9 w_196 w_197 w_5 hty_9 dX11_init_38 rfl (by omega) (Nat.le_of_ble_eq_true rfl) (Nat.le_of_ble_eq_true rfl) (by rw [hP]; rfl) rfl ?_
  refine j_dup (pc' := 42) dX11_init_41 rfl rfl ?_
  refine n_callI (pc' := 45) (L2 := bk [some 2, some 4, some 13, some 0, some 0, some 0, some 0, some 0, some 0, some 0, some 0, some 0, some 0, some 0, none, none] 22) (as := []) (rest := [mR 17, mR 0]) (d' := 3) (pl_cm (L := bk [some 2, some 4, some 13, some 0, some 0, some 0, some 0, some 0, some 0, some 0, some 0, some 0, some 0, some 0, none, none] 17) (i_work (t := 17) (by decide) (pl_len (by rw [hP]; rfl))) rfl rfl) cw_X11_32 w_199 rfl rfl dX11_init_42 rfl (by decide) rfl rfl (by omega) rfl rfl (Nat.le_of_ble_eq_true rfl) (Nat.le_of_ble_eq_true rfl) ?_
  refine n_putR (pc' := 48) (L' := bk [some 2, some 4, some 13, some 18, some 0, some 0, some 0, some 0, some 0, some 0, some 0, some 0, some 0, some 0, none, none] 22) (j := 0) (sl := 3) (r := 17) (rs := [some 2, some 4, some 13, some 0, some 0, some 0, some 0, some 0, some 0, some 0, some 0, some 0, some 0, some 0, none, none]) kc_10 w_396 (by decide) ⟨rfl, rfl, rfl⟩ (Or.inl ⟨_, rfl⟩) dX11_init_45 rfl (by omega) (by omega) rfl (by decide) (Nat.le_of_ble_eq_true rfl) (by omega) rfl ?_
  refine j_aload_n (pc' := 49) dX11_init_48 rfl rfl ?_
  refine n_new (pc' := 52) (L' := bk [some 2, some 4, some 13, some 18, some 0, some 0, some 0, some 0, some 0, some 0, some 0, some 0, some 0, some 0, none, none] 22 ++ [(0, 6, [some 0, some 0, some 0, some 0, some 0, some 0])]) (a := 22) (rs := [some 0, some 0, some 0, some 0, some 0, some 0]) kc_0 w_255 w_256 w_7 hty_0 dX11_init_49 rfl (by omega) (Nat.le_of_ble_eq_true rfl) (Nat.le_of_ble_eq_true rfl) (by rw [hP]; rfl) rfl ?_
  refine j_dup (pc' := 53) dX11_init_52 rfl rfl ?_
  refine j_aload_n (pc' := 54) dX11_init_53 rfl rfl ?_
  refine n_getR (pc' := 57) (j := 0) (sl := 1) (r := 3) (rs := [some 2, some 4, some 13, some 18, some 0, some 0, some 0, some 0, some 0, some 0, some 0, some 0, some 0, some 0, none, none]) kc_10 w_394 (Or.inl rfl) (by decide) dX11_init_54 rfl (by omega) (by omega) rfl (by decide) rfl (by omega) ?_
  refine j_aload_n (pc' := 58) dX11_init_57 rfl rfl ?_
  refine n_getR (pc' := 61) (j := 0) (sl := 2) (r := 12) (rs := [some 2, some 4, some 13, some 18, some 0, some 0, some 0, some 0, some 0, some 0, some 0, some 0, some 0, some 0, none, none]) kc_10 w_395 (Or.inl rfl) (by decide) dX11_init_58 rfl (by omega) (by omega) rfl (by decide) rfl (by omega) ?_
  refine j_aload_n (pc' := 62) dX11_init_61 rfl rfl ?_
  refine n_getR (pc' := 65) (j := 0) (sl := 3) (r := 17) (rs := [some 2, some 4, some 13, some 18, some 0, some 0, some 0, some 0, some 0, some 0, some 0, some 0, some 0, some 0, none, none]) kc_10 w_396 (Or.inl rfl) (by decide) dX11_init_62 rfl (by omega) (by omega) rfl (by decide) rfl (by omega) ?_
  refine n_callI (pc' := 68) (L2 := bk [some 2, some 4, some 13, some 18, some 0, some 0, some 0, some 0, some 0, some 0, some 0, some 0, some 0, some 0, none, none] 26) (as := [mR 3, mR 12, mR 17]) (rest := [mR 22, mR 0]) (d' := 2) (pl_cm (L := bk [some 2, some 4, some 13, some 18, some 0, some 0, some 0, some 0, some 0, some 0, some 0, some 0, some 0, some 0, none, none] 22) (i_gauge (pl_len (by rw [hP]; rfl))) rfl rfl) cw_X11_39 w_258 rfl rfl dX11_init_65 rfl (by decide) rfl rfl (by omega) rfl rfl (Nat.le_of_ble_eq_true rfl) (Nat.le_of_ble_eq_true rfl) ?_
  refine n_putR (pc' := 71) (L' := bk [some 2, some 4, some 13, some 18, some 23, some 0, some 0, some 0, some 0, some 0, some 0, some 0, some 0, some 0, none, none] 26) (j := 0) (sl := 4) (r := 22) (rs := [some 2, some 4, some 13, some 18, some 0, some 0, some 0, some 0, some 0, some 0, some 0, some 0, some 0, some 0, none, none]) kc_10 w_397 (by decide) ⟨rfl, rfl, rfl⟩ (Or.inl ⟨_, rfl⟩) dX11_init_68 rfl (by omega) (by omega) rfl (by decide) (Nat.le_of_ble_eq_true rfl) (by omega) rfl ?_
  refine j_aload_n (pc' := 72) dX11_init_71 rfl rfl ?_
  refine n_new (pc' := 75) (L' := bk [some 2, some 4, some 13, some 18, some 23, some 0, some 0, some 0, some 0, some 0, some 0, some 0, some 0, some 0, none, none] 26 ++ [(4, 6, [some 0, some 0, some 0, some 0, none, none])]) (a := 26) (rs := [some 0, some 0, some 0, some 0, none, none]) kc_4 w_281 w_282 w_8 hty_4 dX11_init_72 rfl (by omega) (Nat.le_of_ble_eq_true rfl) (Nat.le_of_ble_eq_true rfl) (by rw [hP]; rfl) rfl ?_
  refine j_dup (pc' := 76) dX11_init_75 rfl rfl ?_
  refine j_aload_n (pc' := 77) dX11_init_76 rfl rfl ?_
  refine n_getR (pc' := 80) (j := 0) (sl := 1) (r := 3) (rs := [some 2, some 4, some 13, some 18, some 23, some 0, some 0, some 0, some 0, some 0, some 0, some 0, some 0, some 0, none, none]) kc_10 w_394 (Or.inl rfl) (by decide) dX11_init_77 rfl (by omega) (by omega) rfl (by decide) rfl (by omega) ?_
  refine j_aload_n (pc' := 81) dX11_init_80 rfl rfl ?_
  refine n_getR (pc' := 84) (j := 0) (sl := 4) (r := 22) (rs := [some 2, some 4, some 13, some 18, some 23, some 0, some 0, some 0, some 0, some 0, some 0, some 0, some 0, some 0, none, none]) kc_10 w_397 (Or.inl rfl) (by decide) dX11_init_81 rfl (by omega) (by omega) rfl (by decide) rfl (by omega) ?_
  refine n_callI (pc' := 87) (L2 := bk [some 2, some 4, some 13, some 18, some 23, some 0, some 0, some 0, some 0, some 0, some 0, some 0, some 0, some 0, none, none] 29) (as := [mR 3, mR 22]) (rest := [mR 26, mR 0]) (d' := 2) (pl_cm (L := bk [some 2, some 4, some 13, some 18, some 23, some 0, some 0, some 0, some 0, some 0, some 0, some 0, some 0, some 0, none, none] 26) (i_laying (pl_len (by rw [hP]; rfl))) rfl rfl) cw_X11_48 w_284 rfl rfl dX11_init_84 rfl (by decide) rfl rfl (by omega) rfl rfl (Nat.le_of_ble_eq_true rfl) (Nat.le_of_ble_eq_true rfl) ?_
  refine n_putR (pc' := 90) (L' := bk [some 2, some 4, some 13, some 18, some 23, some 27, some 0, some 0, some 0, some 0, some 0, some 0, some 0, some 0, none, none] 29) (j := 0) (sl := 5) (r := 26) (rs := [some 2, some 4, some 13, some 18, some 23, some 0, some 0, some 0, some 0, some 0, some 0, some 0, some 0, some 0, none, none]) kc_10 w_398 (by decide) ⟨rfl, rfl, rfl⟩ (Or.inl ⟨_, rfl⟩) dX11_init_87 rfl (by omega) (by omega) rfl (by decide) (Nat.le_of_ble_eq_true rfl) (by omega) rfl ?_
  refine j_aload_n (pc' := 91) dX11_init_90 rfl rfl ?_
  refine n_new (pc' := 94) (L' := bk [some 2, some 4, some 13, some 18, some 23, some 27, some 0, some 0, some 0, some 0, some 0, some 0, some 0, some 0, none, none] 29 ++ [(5, 5, [some 0, some 0, some 0, some 0, none])]) (a := 29) (rs := [some 0, some 0, some 0, some 0, none]) kc_5 w_306 w_307 w_9 hty_5 dX11_init_91 rfl (by omega) (Nat.le_of_ble_eq_true rfl) (Nat.le_of_ble_eq_true rfl) (by rw [hP]; rfl) rfl ?_
  refine j_dup (pc' := 95) dX11_init_94 rfl rfl ?_
  refine j_aload_n (pc' := 96) dX11_init_95 rfl rfl ?_
  refine n_getR (pc' := 99) (j := 0) (sl := 1) (r := 3) (rs := [some 2, some 4, some 13, some 18, some 23, some 27, some 0, some 0, some 0, some 0, some 0, some 0, some 0, some 0, none, none]) kc_10 w_394 (Or.inl rfl) (by decide) dX11_init_96 rfl (by omega) (by omega) rfl (by decide) rfl (by omega) ?_
  refine j_aload_n (pc' := 100) dX11_init_99 rfl rfl ?_
  refine n_getR (pc' := 103) (j := 0) (sl := 3) (r := 17) (rs := [some 2, some 4, some 13, some 18, some 23, some 27, some 0, some 0, some 0, some 0, some 0, some 0, some 0, some 0, none, none]) kc_10 w_396 (Or.inl rfl) (by decide) dX11_init_100 rfl (by omega) (by omega) rfl (by decide) rfl (by omega) ?_
  refine j_aload_n (pc' := 104) dX11_init_103 rfl rfl ?_
  refine n_getR (pc' := 107) (j := 0) (sl := 4) (r := 22) (rs := [some 2, some 4, some 13, some 18, some 23, some 27, some 0, some 0, some 0, some 0, some 0, some 0, some 0, some 0, none, none]) kc_10 w_397 (Or.inl rfl) (by decide) dX11_init_104 rfl (by omega) (by omega) rfl (by decide) rfl (by omega) ?_
  refine n_callI (pc' := 110) (L2 := bk [some 2, some 4, some 13, some 18, some 23, some 27, some 0, some 0, some 0, some 0, some 0, some 0, some 0, some 0, none, none] 31) (as := [mR 3, mR 17, mR 22]) (rest := [mR 29, mR 0]) (d' := 2) (pl_cm (L := bk [some 2, some 4, some 13, some 18, some 23, some 27, some 0, some 0, some 0, some 0, some 0, some 0, some 0, some 0, none, none] 29) (i_press (pl_len (by rw [hP]; rfl))) rfl rfl) cw_X11_57 w_309 rfl rfl dX11_init_107 rfl (by decide) rfl rfl (by omega) rfl rfl (Nat.le_of_ble_eq_true rfl) (Nat.le_of_ble_eq_true rfl) ?_
  refine n_putR (pc' := 113) (L' := bk [some 2, some 4, some 13, some 18, some 23, some 27, some 30, some 0, some 0, some 0, some 0, some 0, some 0, some 0, none, none] 31) (j := 0) (sl := 6) (r := 29) (rs := [some 2, some 4, some 13, some 18, some 23, some 27, some 0, some 0, some 0, some 0, some 0, some 0, some 0, some 0, none, none]) kc_10 w_399 (by decide) ⟨rfl, rfl, rfl⟩ (Or.inl ⟨_, rfl⟩) dX11_init_110 rfl (by omega) (by omega) rfl (by decide) (Nat.le_of_ble_eq_true rfl) (by omega) rfl ?_
  refine j_aload_n (pc' := 114) dX11_init_113 rfl rfl ?_
  refine n_new (pc' := 117) (L' := bk [some 2, some 4, some 13, some 18, some 23, some 27, some 30, some 0, some 0, some 0, some 0, some 0, some 0, some 0, none, none] 31 ++ [(1, 3, [some 0, none, none])]) (a := 31) (rs := [some 0, none, none]) kc_1 w_328 w_329 w_10 hty_1 dX11_init_114 rfl (by omega) (Nat.le_of_ble_eq_true rfl) (Nat.le_of_ble_eq_true rfl) (by rw [hP]; rfl) rfl ?_
  refine j_dup (pc' := 118) dX11_init_117 rfl rfl ?_
  refine n_callI (pc' := 121) (L2 := bk [some 2, some 4, some 13, some 18, some 23, some 27, some 30, some 0, some 0, some 0, some 0, some 0, some 0, some 0, none, none] 93) (as := []) (rest := [mR 31, mR 0]) (d' := 4) (pl_cm (L := bk [some 2, some 4, some 13, some 18, some 23, some 27, some 30, some 0, some 0, some 0, some 0, some 0, some 0, some 0, none, none] 31) (i_history (pl_len (by rw [hP]; rfl))) rfl rfl) cw_X11_66 w_331 rfl rfl dX11_init_118 rfl (by decide) rfl rfl (by omega) rfl rfl (Nat.le_of_ble_eq_true rfl) (Nat.le_of_ble_eq_true rfl) ?_
  refine n_putR (pc' := 124) (L' := bk [some 2, some 4, some 13, some 18, some 23, some 27, some 30, some 32, some 0, some 0, some 0, some 0, some 0, some 0, none, none] 93) (j := 0) (sl := 7) (r := 31) (rs := [some 2, some 4, some 13, some 18, some 23, some 27, some 30, some 0, some 0, some 0, some 0, some 0, some 0, some 0, none, none]) kc_10 w_400 (by decide) ⟨rfl, rfl, rfl⟩ (Or.inl ⟨_, rfl⟩) dX11_init_121 rfl (by omega) (by omega) rfl (by decide) (Nat.le_of_ble_eq_true rfl) (by omega) rfl ?_
  refine j_aload_n (pc' := 125) dX11_init_124 rfl rfl ?_
  refine n_new (pc' := 128) (L' := bk [some 2, some 4, some 13, some 18, some 23, some 27, some 30, some 32, some 0, some 0, some 0, some 0, some 0, some 0, none, none] 93 ++ [(7, 4, [some 0, none, some 0, none])]) (a := 93) (rs := [some 0, none, some 0, none]) kc_7 w_348 w_349 w_12 hty_7 dX11_init_125 rfl (by omega) (Nat.le_of_ble_eq_true rfl) (Nat.le_of_ble_eq_true rfl) (by rw [hP]; rfl) rfl ?_
  refine j_dup (pc' := 129) dX11_init_128 rfl rfl ?_
  refine j_aload_n (pc' := 130) dX11_init_129 rfl rfl ?_
  refine n_getR (pc' := 133) (j := 0) (sl := 0) (r := 1) (rs := [some 2, some 4, some 13, some 18, some 23, some 27, some 30, some 32, some 0, some 0, some 0, some 0, some 0, some 0, none, none]) kc_10 w_393 (Or.inl rfl) (by decide) dX11_init_130 rfl (by omega) (by omega) rfl (by decide) rfl (by omega) ?_
  refine n_callI (pc' := 136) (L2 := bk [some 2, some 4, some 13, some 18, some 23, some 27, some 30, some 32, some 0, some 0, some 0, some 0, some 0, some 0, none, none] 103) (as := [mR 1]) (rest := [mR 93, mR 0]) (d' := 3) (pl_cm (L := bk [some 2, some 4, some 13, some 18, some 23, some 27, some 30, some 32, some 0, some 0, some 0, some 0, some 0, some 0, none, none] 93) (i_shopReader (pl_len (by rw [hP]; rfl))) rfl rfl) cw_X11_73 w_351 rfl rfl dX11_init_133 rfl (by decide) rfl rfl (by omega) rfl rfl (Nat.le_of_ble_eq_true rfl) (Nat.le_of_ble_eq_true rfl) ?_
  refine n_putR (pc' := 139) (L' := bk [some 2, some 4, some 13, some 18, some 23, some 27, some 30, some 32, some 94, some 0, some 0, some 0, some 0, some 0, none, none] 103) (j := 0) (sl := 8) (r := 93) (rs := [some 2, some 4, some 13, some 18, some 23, some 27, some 30, some 32, some 0, some 0, some 0, some 0, some 0, some 0, none, none]) kc_10 w_401 (by decide) ⟨rfl, rfl, rfl⟩ (Or.inl ⟨_, rfl⟩) dX11_init_136 rfl (by omega) (by omega) rfl (by decide) (Nat.le_of_ble_eq_true rfl) (by omega) rfl ?_
  refine j_aload_n (pc' := 140) dX11_init_139 rfl rfl ?_
  refine n_new (pc' := 143) (L' := bk [some 2, some 4, some 13, some 18, some 23, some 27, some 30, some 32, some 94, some 0, some 0, some 0, some 0, some 0, none, none] 103 ++ [(3, 3, [some 0, none, some 0])]) (a := 103) (rs := [some 0, none, some 0]) kc_3 w_378 w_379 w_13 hty_3 dX11_init_140 rfl (by omega) (Nat.le_of_ble_eq_true rfl) (Nat.le_of_ble_eq_true rfl) (by rw [hP]; rfl) rfl ?_
  refine j_dup (pc' := 144) dX11_init_143 rfl rfl ?_
  refine j_aload_n (pc' := 145) dX11_init_144 rfl rfl ?_
  refine n_getR (pc' := 148) (j := 0) (sl := 0) (r := 1) (rs := [some 2, some 4, some 13, some 18, some 23, some 27, some 30, some 32, some 94, some 0, some 0, some 0, some 0, some 0, none, none]) kc_10 w_393 (Or.inl rfl) (by decide) dX11_init_145 rfl (by omega) (by omega) rfl (by decide) rfl (by omega) ?_
  refine n_callI (pc' := 151) (L2 := bk [some 2, some 4, some 13, some 18, some 23, some 27, some 30, some 32, some 94, some 0, some 0, some 0, some 0, some 0, none, none] 109) (as := [mR 1]) (rest := [mR 103, mR 0]) (d' := 3) (pl_cm (L := bk [some 2, some 4, some 13, some 18, some 23, some 27, some 30, some 32, some 94, some 0, some 0, some 0, some 0, some 0, none, none] 103) (i_lawReader (pl_len (by rw [hP]; rfl))) rfl rfl) cw_X11_82 w_381 rfl rfl dX11_init_148 rfl (by decide) rfl rfl (by omega) rfl rfl (Nat.le_of_ble_eq_true rfl) (Nat.le_of_ble_eq_true rfl) ?_
  refine n_putR (pc' := 154) (L' := bk [some 2, some 4, some 13, some 18, some 23, some 27, some 30, some 32, some 94, some 104, some 0, some 0, some 0, some 0, none, none] 109) (j := 0) (sl := 9) (r := 103) (rs := [some 2, some 4, some 13, some 18, some 23, some 27, some 30, some 32, some 94, some 0, some 0, some 0, some 0, some 0, none, none]) kc_10 w_402 (by decide) ⟨rfl, rfl, rfl⟩ (Or.inl ⟨_, rfl⟩) dX11_init_151 rfl (by omega) (by omega) rfl (by decide) (Nat.le_of_ble_eq_true rfl) (by omega) rfl ?_
  refine j_aload_n (pc' := 155) dX11_init_154 rfl rfl ?_
  refine n_new (pc' := 158) (L' := bk [some 2, some 4, some 13, some 18, some 23, some 27, some 30, some 32, some 94, some 104, some 0, some 0, some 0, some 0, none, none] 109 ++ [(9, 11, [some 0, some 0, some 0, none, none, none, none, none, some 0, none, none])]) (a := 109) (rs := [some 0, some 0, some 0, none, none, none, none, none, some 0, none, none]) kc_9 w_196 w_197 w_5 hty_9 dX11_init_155 rfl (by omega) (Nat.le_of_ble_eq_true rfl) (Nat.le_of_ble_eq_true rfl) (by rw [hP]; rfl) rfl ?_
  refine j_dup (pc' := 159) dX11_init_158 rfl rfl ?_
  refine n_callI (pc' := 162) (L2 := bk [some 2, some 4, some 13, some 18, some 23, some 27, some 30, some 32, some 94, some 104, some 0, some 0, some 0, some 0, none, none] 114) (as := []) (rest := [mR 109, mR 0]) (d' := 3) (pl_cm (L := bk [some 2, some 4, some 13, some 18, some 23, some 27, some 30, some 32, some 94, some 104, some 0, some 0, some 0, some 0, none, none] 109) (i_work (t := 109) (by decide) (pl_len (by rw [hP]; rfl))) rfl rfl) cw_X11_32 w_199 rfl rfl dX11_init_159 rfl (by decide) rfl rfl (by omega) rfl rfl (Nat.le_of_ble_eq_true rfl) (Nat.le_of_ble_eq_true rfl) ?_
  refine n_putR (pc' := 165) (L' := bk [some 2, some 4, some 13, some 18, some 23, some 27, some 30, some 32, some 94, some 104, some 110, some 0, some 0, some 0, none, none] 114) (j := 0) (sl := 10) (r := 109) (rs := [some 2, some 4, some 13, some 18, some 23, some 27, some 30, some 32, some 94, some 104, some 0, some 0, some 0, some 0, none, none]) kc_10 w_403 (by decide) ⟨rfl, rfl, rfl⟩ (Or.inl ⟨_, rfl⟩) dX11_init_162 rfl (by omega) (by omega) rfl (by decide) (Nat.le_of_ble_eq_true rfl) (by omega) rfl ?_
  refine j_aload_n (pc' := 166) dX11_init_165 rfl rfl ?_
  refine n_new (pc' := 169) (L' := bk [some 2, some 4, some 13, some 18, some 23, some 27, some 30, some 32, some 94, some 104, some 110, some 0, some 0, some 0, none, none] 114 ++ [(6, 17, [none, some 0, some 0, some 0, some 0, none, some 0, none, none, none, none, none, some 0, some 0, none, some 0, none])]) (a := 114) (rs := [none, some 0, some 0, some 0, some 0, none, some 0, none, none, none, none, none, some 0, some 0, none, some 0, none]) kc_6 w_65 w_66 w_3 hty_6 dX11_init_166 rfl (by omega) (Nat.le_of_ble_eq_true rfl) (Nat.le_of_ble_eq_true rfl) (by rw [hP]; rfl) rfl ?_
  refine j_dup (pc' := 170) dX11_init_169 rfl rfl ?_
  refine n_callI (pc' := 173) (L2 := bk [some 2, some 4, some 13, some 18, some 23, some 27, some 30, some 32, some 94, some 104, some 110, some 0, some 0, some 0, none, none] 123) (as := []) (rest := [mR 114, mR 0]) (d' := 2) (pl_cm (L := bk [some 2, some 4, some 13, some 18, some 23, some 27, some 30, some 32, some 94, some 104, some 110, some 0, some 0, some 0, none, none] 114) (i_shop (t := 114) (by decide) (pl_len (by rw [hP]; rfl))) rfl rfl) cw_X11_18 w_68 rfl rfl dX11_init_170 rfl (by decide) rfl rfl (by omega) rfl rfl (Nat.le_of_ble_eq_true rfl) (Nat.le_of_ble_eq_true rfl) ?_
  refine n_putR (pc' := 176) (L' := bk [some 2, some 4, some 13, some 18, some 23, some 27, some 30, some 32, some 94, some 104, some 110, some 115, some 0, some 0, none, none] 123) (j := 0) (sl := 11) (r := 114) (rs := [some 2, some 4, some 13, some 18, some 23, some 27, some 30, some 32, some 94, some 104, some 110, some 0, some 0, some 0, none, none]) kc_10 w_404 (by decide) ⟨rfl, rfl, rfl⟩ (Or.inl ⟨_, rfl⟩) dX11_init_173 rfl (by omega) (by omega) rfl (by decide) (Nat.le_of_ble_eq_true rfl) (by omega) rfl ?_
  refine j_aload_n (pc' := 177) dX11_init_176 rfl rfl ?_
  refine n_new (pc' := 180) (L' := bk [some 2, some 4, some 13, some 18, some 23, some 27, some 30, some 32, some 94, some 104, some 110, some 115, some 0, some 0, none, none] 123 ++ [(2, 6, [none, some 0, some 0, some 0, some 0, none])]) (a := 123) (rs := [none, some 0, some 0, some 0, some 0, none]) kc_2 w_165 w_166 w_4 hty_2 dX11_init_177 rfl (by omega) (Nat.le_of_ble_eq_true rfl) (Nat.le_of_ble_eq_true rfl) (by rw [hP]; rfl) rfl ?_
  refine j_dup (pc' := 181) dX11_init_180 rfl rfl ?_
  refine n_callI (pc' := 184) (L2 := bk [some 2, some 4, some 13, some 18, some 23, some 27, some 30, some 32, some 94, some 104, some 110, some 115, some 0, some 0, none, none] 128) (as := []) (rest := [mR 123, mR 0]) (d' := 2) (pl_cm (L := bk [some 2, some 4, some 13, some 18, some 23, some 27, some 30, some 32, some 94, some 104, some 110, some 115, some 0, some 0, none, none] 123) (i_law (t := 123) (by decide) (pl_len (by rw [hP]; rfl))) rfl rfl) cw_X11_25 w_168 rfl rfl dX11_init_181 rfl (by decide) rfl rfl (by omega) rfl rfl (Nat.le_of_ble_eq_true rfl) (Nat.le_of_ble_eq_true rfl) ?_
  refine n_putR (pc' := 187) (L' := bk [some 2, some 4, some 13, some 18, some 23, some 27, some 30, some 32, some 94, some 104, some 110, some 115, some 124, some 0, none, none] 128) (j := 0) (sl := 12) (r := 123) (rs := [some 2, some 4, some 13, some 18, some 23, some 27, some 30, some 32, some 94, some 104, some 110, some 115, some 0, some 0, none, none]) kc_10 w_405 (by decide) ⟨rfl, rfl, rfl⟩ (Or.inl ⟨_, rfl⟩) dX11_init_184 rfl (by omega) (by omega) rfl (by decide) (Nat.le_of_ble_eq_true rfl) (by omega) rfl ?_
  refine j_aload_n (pc' := 188) dX11_init_187 rfl rfl ?_
  refine n_new (pc' := 191) (L' := bk [some 2, some 4, some 13, some 18, some 23, some 27, some 30, some 32, some 94, some 104, some 110, some 115, some 124, some 0, none, none] 128 ++ [(9, 11, [some 0, some 0, some 0, none, none, none, none, none, some 0, none, none])]) (a := 128) (rs := [some 0, some 0, some 0, none, none, none, none, none, some 0, none, none]) kc_9 w_196 w_197 w_5 hty_9 dX11_init_188 rfl (by omega) (Nat.le_of_ble_eq_true rfl) (Nat.le_of_ble_eq_true rfl) (by rw [hP]; rfl) rfl ?_
  refine j_dup (pc' := 192) dX11_init_191 rfl rfl ?_
  refine n_callI (pc' := 195) (L2 := bk [some 2, some 4, some 13, some 18, some 23, some 27, some 30, some 32, some 94, some 104, some 110, some 115, some 124, some 0, none, none] 133) (as := []) (rest := [mR 128, mR 0]) (d' := 3) (pl_cm (L := bk [some 2, some 4, some 13, some 18, some 23, some 27, some 30, some 32, some 94, some 104, some 110, some 115, some 124, some 0, none, none] 128) (i_work (t := 128) (by decide) (pl_len (by rw [hP]; rfl))) rfl rfl) cw_X11_32 w_199 rfl rfl dX11_init_192 rfl (by decide) rfl rfl (by omega) rfl rfl (Nat.le_of_ble_eq_true rfl) (Nat.le_of_ble_eq_true rfl) ?_
  refine n_putR (pc' := 198) (L' := bk [some 2, some 4, some 13, some 18, some 23, some 27, some 30, some 32, some 94, some 104, some 110, some 115, some 124, some 129, none, none] 133) (j := 0) (sl := 13) (r := 128) (rs := [some 2, some 4, some 13, some 18, some 23, some 27, some 30, some 32, some 94, some 104, some 110, some 115, some 124, some 0, none, none]) kc_10 w_406 (by decide) ⟨rfl, rfl, rfl⟩ (Or.inl ⟨_, rfl⟩) dX11_init_195 rfl (by omega) (by omega) rfl (by decide) (Nat.le_of_ble_eq_true rfl) (by omega) rfl ?_
  refine j_aload_n (pc' := 199) dX11_init_198 rfl rfl ?_
  refine j_iconst (pc' := 200) dX11_init_199 rfl ?_
  refine n_putI (pc' := 203) (j := 0) (sl := 14) (i' := 14) (rs := [some 2, some 4, some 13, some 18, some 23, some 27, some 30, some 32, some 94, some 104, some 110, some 115, some 124, some 129, none, none]) kc_10 w_407 (by decide) (Or.inl rfl) (Or.inr ⟨rfl, Or.inl rfl⟩) dX11_init_200 rfl (by omega) (by omega) rfl (by decide) rfl rfl ?_
  refine j_aload_n (pc' := 204) dX11_init_203 rfl rfl ?_
  refine j_iconst (pc' := 205) dX11_init_204 rfl ?_
  refine n_putI (pc' := 208) (j := 0) (sl := 15) (i' := 15) (rs := [some 2, some 4, some 13, some 18, some 23, some 27, some 30, some 32, some 94, some 104, some 110, some 115, some 124, some 129, none, none]) kc_10 w_408 (by decide) (Or.inl rfl) (Or.inl rfl) dX11_init_205 rfl (by omega) (by omega) rfl (by decide) rfl rfl ?_
  exact j_vret dX11_init_208 rfl (Nat.le_of_ble_eq_true rfl) (Nat.le_of_ble_eq_true rfl) ⟨rfl, rfl⟩
def mk_ (rs : List (Option Nat)) (m : Nat) : List mC := (11, 28, rs) :: (SK.drop 134).take m
def iModelA (D : mD) : mD := pD (pD (pD (pD (pD (pD (nw 147 (nw 146 (nw 145 (nw 144 (nw 143 (nw 142 (nw 141 (nw 140 (pD (nw 139 (nw 138 (nw 137 (nw 136 (nw 135 (nw 134 D)))))) 133 14 (-1)))))))))) 134 2 60) 134 3 2) 134 4 12) 134 6 50) 134 12 (-1)) 134 14 1
theorem i_model {P : List mC} (hP : P.length = 133) {D : mD} : CM 2 14 76210 M_X12_init [mR 133] (P ++ mk_ [none, some 0, some 0, some 0, some 0, some 0, none, none, some 0, none, none, none, none, none, none, some 0, none, some 0, none, none, none, none, some 0, some 0, some 0, some 0, some 0, some 0] 0, D, true) (rN (P ++ (SK.drop 133).take 15) (iModelA D)) := by
  refine CM.intro pn_X12 rfl rfl (Nat.le_of_ble_eq_true rfl) (fun Ω => ?_)
  show J Ω M_X12_init 2 14 76210 _ 0 [some (mR 133)] [] _ 0 0
  refine j_aload_n (pc' := 1) dX12_init_0 rfl rfl ?_
  refine j_objInit (pc' := 4) w_1475 w_36 w_37 dX12_init_1 rfl (by decide) (hrs_of rfl) ?_
  refine j_aload_n (pc' := 5) dX12_init_4 rfl rfl ?_
  refine j_sipush (pc' := 8) dX12_init_5 rfl rfl ?_
  refine n_newa (pc' := 10) (L' := mk_ [none, some 0, some 0, some 0, some 0, some 0, none, none, some 0, none, none, none, none, none, none, some 0, none, some 0, none, none, none, none, some 0, some 0, some 0, some 0, some 0, some 0] 1) (a := 134) (N := 2173) (kd := 20) (Or.inl ⟨rfl, rfl⟩) w_64 dX12_init_8 rfl rfl (Nat.le_of_ble_eq_true rfl) (by omega) (Nat.le_of_ble_eq_true rfl) (Nat.le_of_ble_eq_true rfl) (by rw [hP]; rfl) rfl ?_
  refine n_putR (pc' := 13) (L' := mk_ [none, some 135, some 0, some 0, some 0, some 0, none, none, some 0, none, none, none, none, none, none, some 0, none, some 0, none, none, none, none, some 0, some 0, some 0, some 0, some 0, some 0] 1) (j := 0) (sl := 1) (r := 134) (rs := [none, some 0, some 0, some 0, some 0, some 0, none, none, some 0, none, none, none, none, none, none, some 0, none, some 0, none, none, none, none, some 0, some 0, some 0, some 0, some 0, some 0]) kc_11 w_1478 (by decide) ⟨rfl, rfl, rfl⟩ (Or.inr ⟨_, rfl⟩) dX12_init_10 rfl (by omega) (by omega) rfl (by decide) (Nat.le_of_ble_eq_true rfl) (by omega) rfl ?_
  refine j_aload_n (pc' := 14) dX12_init_13 rfl rfl ?_
  refine j_sipush (pc' := 17) dX12_init_14 rfl rfl ?_
  refine n_newa (pc' := 19) (L' := mk_ [none, some 135, some 0, some 0, some 0, some 0, none, none, some 0, none, none, none, none, none, none, some 0, none, some 0, none, none, none, none, some 0, some 0, some 0, some 0, some 0, some 0] 2) (a := 135) (N := 1324) (kd := 20) (Or.inl ⟨rfl, rfl⟩) w_64 dX12_init_17 rfl rfl (Nat.le_of_ble_eq_true rfl) (by omega) (Nat.le_of_ble_eq_true rfl) (Nat.le_of_ble_eq_true rfl) (by rw [hP]; rfl) rfl ?_
  refine n_putR (pc' := 22) (L' := mk_ [none, some 135, some 136, some 0, some 0, some 0, none, none, some 0, none, none, none, none, none, none, some 0, none, some 0, none, none, none, none, some 0, some 0, some 0, some 0, some 0, some 0] 2) (j := 0) (sl := 2) (r := 135) (rs := [none, some 135, some 0, some 0, some 0, some 0, none, none, some 0, none, none, none, none, none, none, some 0, none, some 0, none, none, none, none, some 0, some 0, some 0, some 0, some 0, some 0]) kc_11 w_1479 (by decide) ⟨rfl, rfl, rfl⟩ (Or.inr ⟨_, rfl⟩) dX12_init_19 rfl (by omega) (by omega) rfl (by decide) (Nat.le_of_ble_eq_true rfl) (by omega) rfl ?_
  refine j_aload_n (pc' := 23) dX12_init_22 rfl rfl ?_
  refine j_sipush (pc' := 26) dX12_init_23 rfl rfl ?_
  refine n_newa (pc' := 28) (L' := mk_ [none, some 135, some 136, some 0, some 0, some 0, none, none, some 0, none, none, none, none, none, none, some 0, none, some 0, none, none, none, none, some 0, some 0, some 0, some 0, some 0, some 0] 3) (a := 136) (N := 1324) (kd := 20) (Or.inl ⟨rfl, rfl⟩) w_64 dX12_init_26 rfl rfl (Nat.le_of_ble_eq_true rfl) (by omega) (Nat.le_of_ble_eq_true rfl) (Nat.le_of_ble_eq_true rfl) (by rw [hP]; rfl) rfl ?_
  refine n_putR (pc' := 31) (L' := mk_ [none, some 135, some 136, some 137, some 0, some 0, none, none, some 0, none, none, none, none, none, none, some 0, none, some 0, none, none, none, none, some 0, some 0, some 0, some 0, some 0, some 0] 3) (j := 0) (sl := 3) (r := 136) (rs := [none, some 135, some 136, some 0, some 0, some 0, none, none, some 0, none, none, none, none, none, none, some 0, none, some 0, none, none, none, none, some 0, some 0, some 0, some 0, some 0, some 0]) kc_11 w_1480 (by decide) ⟨rfl, rfl, rfl⟩ (Or.inr ⟨_, rfl⟩) dX12_init_28 rfl (by omega) (by omega) rfl (by decide) (Nat.le_of_ble_eq_true rfl) (by omega) rfl ?_
  refine j_aload_n (pc' := 32) dX12_init_31 rfl rfl ?_
  refine j_sipush (pc' := 35) dX12_init_32 rfl rfl ?_
  refine n_newa (pc' := 37) (L' := mk_ [none, some 135, some 136, some 137, some 0, some 0, none, none, some 0, none, none, none, none, none, none, some 0, none, some 0, none, none, none, none, some 0, some 0, some 0, some 0, some 0, some 0] 4) (a := 137) (N := 475) (kd := 20) (Or.inl ⟨rfl, rfl⟩) w_64 dX12_init_35 rfl rfl (Nat.le_of_ble_eq_true rfl) (by omega) (Nat.le_of_ble_eq_true rfl) (Nat.le_of_ble_eq_true rfl) (by rw [hP]; rfl) rfl ?_
  refine n_putR (pc' := 40) (L' := mk_ [none, some 135, some 136, some 137, some 138, some 0, none, none, some 0, none, none, none, none, none, none, some 0, none, some 0, none, none, none, none, some 0, some 0, some 0, some 0, some 0, some 0] 4) (j := 0) (sl := 4) (r := 137) (rs := [none, some 135, some 136, some 137, some 0, some 0, none, none, some 0, none, none, none, none, none, none, some 0, none, some 0, none, none, none, none, some 0, some 0, some 0, some 0, some 0, some 0]) kc_11 w_1481 (by decide) ⟨rfl, rfl, rfl⟩ (Or.inr ⟨_, rfl⟩) dX12_init_37 rfl (by omega) (by omega) rfl (by decide) (Nat.le_of_ble_eq_true rfl) (by omega) rfl ?_
  refine j_aload_n (pc' := 41) dX12_init_40 rfl rfl ?_
  refine j_sipush (pc' := 44) dX12_init_41 rfl rfl ?_
  refine n_newa (pc' := 46) (L' := mk_ [none, some 135, some 136, some 137, some 138, some 0, none, none, some 0, none, none, none, none, none, none, some 0, none, some 0, none, none, none, none, some 0, some 0, some 0, some 0, some 0, some 0] 5) (a := 138) (N := 5700) (kd := 20) (Or.inl ⟨rfl, rfl⟩) w_64 dX12_init_44 rfl rfl (Nat.le_of_ble_eq_true rfl) (by omega) (Nat.le_of_ble_eq_true rfl) (Nat.le_of_ble_eq_true rfl) (by rw [hP]; rfl) rfl ?_
  refine n_putR (pc' := 49) (L' := mk_ [none, some 135, some 136, some 137, some 138, some 139, none, none, some 0, none, none, none, none, none, none, some 0, none, some 0, none, none, none, none, some 0, some 0, some 0, some 0, some 0, some 0] 5) (j := 0) (sl := 5) (r := 138) (rs := [none, some 135, some 136, some 137, some 138, some 0, none, none, some 0, none, none, none, none, none, none, some 0, none, some 0, none, none, none, none, some 0, some 0, some 0, some 0, some 0, some 0]) kc_11 w_1482 (by decide) ⟨rfl, rfl, rfl⟩ (Or.inr ⟨_, rfl⟩) dX12_init_46 rfl (by omega) (by omega) rfl (by decide) (Nat.le_of_ble_eq_true rfl) (by omega) rfl ?_
  refine j_aload_n (pc' := 50) dX12_init_49 rfl rfl ?_
  refine j_sipush (pc' := 53) dX12_init_50 rfl rfl ?_
  refine n_newa (pc' := 55) (L' := mk_ [none, some 135, some 136, some 137, some 138, some 139, none, none, some 0, none, none, none, none, none, none, some 0, none, some 0, none, none, none, none, some 0, some 0, some 0, some 0, some 0, some 0] 6) (a := 139) (N := 400) (kd := 21) (Or.inr (Or.inl ⟨rfl, rfl⟩)) w_1000 dX12_init_53 rfl rfl (Nat.le_of_ble_eq_true rfl) (by omega) (Nat.le_of_ble_eq_true rfl) (Nat.le_of_ble_eq_true rfl) (by rw [hP]; rfl) rfl ?_
  refine n_putR (pc' := 58) (L' := mk_ [none, some 135, some 136, some 137, some 138, some 139, none, none, some 140, none, none, none, none, none, none, some 0, none, some 0, none, none, none, none, some 0, some 0, some 0, some 0, some 0, some 0] 6) (j := 0) (sl := 8) (r := 139) (rs := [none, some 135, some 136, some 137, some 138, some 139, none, none, some 0, none, none, none, none, none, none, some 0, none, some 0, none, none, none, none, some 0, some 0, some 0, some 0, some 0, some 0]) kc_11 w_1485 (by decide) ⟨rfl, rfl, rfl⟩ (Or.inr ⟨_, rfl⟩) dX12_init_55 rfl (by omega) (by omega) rfl (by decide) (Nat.le_of_ble_eq_true rfl) (by omega) rfl ?_
  refine j_aload_n (pc' := 59) dX12_init_58 rfl rfl ?_
  refine j_iconst (pc' := 60) dX12_init_59 rfl ?_
  refine n_putI (pc' := 63) (j := 0) (sl := 14) (i' := 14) (rs := [none, some 135, some 136, some 137, some 138, some 139, none, none, some 140, none, none, none, none, none, none, some 0, none, some 0, none, none, none, none, some 0, some 0, some 0, some 0, some 0, some 0]) kc_11 w_1491 (by decide) (Or.inl rfl) (Or.inl rfl) dX12_init_60 rfl (by omega) (by omega) rfl (by decide) rfl rfl ?_
  refine j_aload_n (pc' := 64) dX12_init_63 rfl rfl ?_
  refine j_iconst (pc' := 65) dX12_init_64 rfl ?_
  refine n_newa (pc' := 67) (L' := mk_ [none, some 135, some 136, some 137, some 138, some 139, none, none, some 140, none, none, none, none, none, none, some 0, none, some 0, none, none, none, none, some 0, some 0, some 0, some 0, some 0, some 0] 7) (a := 140) (N := 5) (kd := 20) (Or.inl ⟨rfl, rfl⟩) w_64 dX12_init_65 rfl rfl (Nat.le_of_ble_eq_true rfl) (by omega) (Nat.le_of_ble_eq_true rfl) (Nat.le_of_ble_eq_true rfl) (by rw [hP]; rfl) rfl ?_
  refine n_putR (pc' := 70) (L' := mk_ [none, some 135, some 136, some 137, some 138, some 139, none, none, some 140, none, none, none, none, none, none, some 141, none, some 0, none, none, none, none, some 0, some 0, some 0, some 0, some 0, some 0] 7) (j := 0) (sl := 15) (r := 140) (rs := [none, some 135, some 136, some 137, some 138, some 139, none, none, some 140, none, none, none, none, none, none, some 0, none, some 0, none, none, none, none, some 0, some 0, some 0, some 0, some 0, some 0]) kc_11 w_1492 (by decide) ⟨rfl, rfl, rfl⟩ (Or.inr ⟨_, rfl⟩) dX12_init_67 rfl (by omega) (by omega) rfl (by decide) (Nat.le_of_ble_eq_true rfl) (by omega) rfl ?_
  refine j_aload_n (pc' := 71) dX12_init_70 rfl rfl ?_
  refine j_sipush (pc' := 74) dX12_init_71 rfl rfl ?_
  refine n_newa (pc' := 76) (L' := mk_ [none, some 135, some 136, some 137, some 138, some 139, none, none, some 140, none, none, none, none, none, none, some 141, none, some 0, none, none, none, none, some 0, some 0, some 0, some 0, some 0, some 0] 8) (a := 141) (N := 400) (kd := 20) (Or.inl ⟨rfl, rfl⟩) w_64 dX12_init_74 rfl rfl (Nat.le_of_ble_eq_true rfl) (by omega) (Nat.le_of_ble_eq_true rfl) (Nat.le_of_ble_eq_true rfl) (by rw [hP]; rfl) rfl ?_
  refine n_putR (pc' := 79) (L' := mk_ [none, some 135, some 136, some 137, some 138, some 139, none, none, some 140, none, none, none, none, none, none, some 141, none, some 142, none, none, none, none, some 0, some 0, some 0, some 0, some 0, some 0] 8) (j := 0) (sl := 17) (r := 141) (rs := [none, some 135, some 136, some 137, some 138, some 139, none, none, some 140, none, none, none, none, none, none, some 141, none, some 0, none, none, none, none, some 0, some 0, some 0, some 0, some 0, some 0]) kc_11 w_1494 (by decide) ⟨rfl, rfl, rfl⟩ (Or.inr ⟨_, rfl⟩) dX12_init_76 rfl (by omega) (by omega) rfl (by decide) (Nat.le_of_ble_eq_true rfl) (by omega) rfl ?_
  refine j_aload_n (pc' := 80) dX12_init_79 rfl rfl ?_
  refine j_sipush (pc' := 83) dX12_init_80 rfl rfl ?_
  refine n_newa (pc' := 85) (L' := mk_ [none, some 135, some 136, some 137, some 138, some 139, none, none, some 140, none, none, none, none, none, none, some 141, none, some 142, none, none, none, none, some 0, some 0, some 0, some 0, some 0, some 0] 9) (a := 142) (N := 434) (kd := 20) (Or.inl ⟨rfl, rfl⟩) w_64 dX12_init_83 rfl rfl (Nat.le_of_ble_eq_true rfl) (by omega) (Nat.le_of_ble_eq_true rfl) (Nat.le_of_ble_eq_true rfl) (by rw [hP]; rfl) rfl ?_
  refine n_putR (pc' := 88) (L' := mk_ [none, some 135, some 136, some 137, some 138, some 139, none, none, some 140, none, none, none, none, none, none, some 141, none, some 142, none, none, none, none, some 143, some 0, some 0, some 0, some 0, some 0] 9) (j := 0) (sl := 22) (r := 142) (rs := [none, some 135, some 136, some 137, some 138, some 139, none, none, some 140, none, none, none, none, none, none, some 141, none, some 142, none, none, none, none, some 0, some 0, some 0, some 0, some 0, some 0]) kc_11 w_1499 (by decide) ⟨rfl, rfl, rfl⟩ (Or.inr ⟨_, rfl⟩) dX12_init_85 rfl (by omega) (by omega) rfl (by decide) (Nat.le_of_ble_eq_true rfl) (by omega) rfl ?_
  refine j_aload_n (pc' := 89) dX12_init_88 rfl rfl ?_
  refine j_sipush (pc' := 92) dX12_init_89 rfl rfl ?_
  refine n_newa (pc' := 94) (L' := mk_ [none, some 135, some 136, some 137, some 138, some 139, none, none, some 140, none, none, none, none, none, none, some 141, none, some 142, none, none, none, none, some 143, some 0, some 0, some 0, some 0, some 0] 10) (a := 143) (N := 1862) (kd := 20) (Or.inl ⟨rfl, rfl⟩) w_64 dX12_init_92 rfl rfl (Nat.le_of_ble_eq_true rfl) (by omega) (Nat.le_of_ble_eq_true rfl) (Nat.le_of_ble_eq_true rfl) (by rw [hP]; rfl) rfl ?_
  refine n_putR (pc' := 97) (L' := mk_ [none, some 135, some 136, some 137, some 138, some 139, none, none, some 140, none, none, none, none, none, none, some 141, none, some 142, none, none, none, none, some 143, some 144, some 0, some 0, some 0, some 0] 10) (j := 0) (sl := 23) (r := 143) (rs := [none, some 135, some 136, some 137, some 138, some 139, none, none, some 140, none, none, none, none, none, none, some 141, none, some 142, none, none, none, none, some 143, some 0, some 0, some 0, some 0, some 0]) kc_11 w_1500 (by decide) ⟨rfl, rfl, rfl⟩ (Or.inr ⟨_, rfl⟩) dX12_init_94 rfl (by omega) (by omega) rfl (by decide) (Nat.le_of_ble_eq_true rfl) (by omega) rfl ?_
  refine j_aload_n (pc' := 98) dX12_init_97 rfl rfl ?_
  refine j_bipush (pc' := 100) dX12_init_98 rfl rfl ?_
  refine n_newa (pc' := 102) (L' := mk_ [none, some 135, some 136, some 137, some 138, some 139, none, none, some 140, none, none, none, none, none, none, some 141, none, some 142, none, none, none, none, some 143, some 144, some 0, some 0, some 0, some 0] 11) (a := 144) (N := 14) (kd := 20) (Or.inl ⟨rfl, rfl⟩) w_64 dX12_init_100 rfl rfl (Nat.le_of_ble_eq_true rfl) (by omega) (Nat.le_of_ble_eq_true rfl) (Nat.le_of_ble_eq_true rfl) (by rw [hP]; rfl) rfl ?_
  refine n_putR (pc' := 105) (L' := mk_ [none, some 135, some 136, some 137, some 138, some 139, none, none, some 140, none, none, none, none, none, none, some 141, none, some 142, none, none, none, none, some 143, some 144, some 145, some 0, some 0, some 0] 11) (j := 0) (sl := 24) (r := 144) (rs := [none, some 135, some 136, some 137, some 138, some 139, none, none, some 140, none, none, none, none, none, none, some 141, none, some 142, none, none, none, none, some 143, some 144, some 0, some 0, some 0, some 0]) kc_11 w_1501 (by decide) ⟨rfl, rfl, rfl⟩ (Or.inr ⟨_, rfl⟩) dX12_init_102 rfl (by omega) (by omega) rfl (by decide) (Nat.le_of_ble_eq_true rfl) (by omega) rfl ?_
  refine j_aload_n (pc' := 106) dX12_init_105 rfl rfl ?_
  refine j_ldcI (pc' := 108) (n := 61440) w_1476 dX12_init_106 rfl ?_
  refine n_newa (pc' := 110) (L' := mk_ [none, some 135, some 136, some 137, some 138, some 139, none, none, some 140, none, none, none, none, none, none, some 141, none, some 142, none, none, none, none, some 143, some 144, some 145, some 0, some 0, some 0] 12) (a := 145) (N := 61440) (kd := 20) (Or.inl ⟨rfl, rfl⟩) w_64 dX12_init_108 rfl rfl (Nat.le_of_ble_eq_true rfl) (by omega) (Nat.le_of_ble_eq_true rfl) (Nat.le_of_ble_eq_true rfl) (by rw [hP]; rfl) rfl ?_
  refine n_putR (pc' := 113) (L' := mk_ [none, some 135, some 136, some 137, some 138, some 139, none, none, some 140, none, none, none, none, none, none, some 141, none, some 142, none, none, none, none, some 143, some 144, some 145, some 146, some 0, some 0] 12) (j := 0) (sl := 25) (r := 145) (rs := [none, some 135, some 136, some 137, some 138, some 139, none, none, some 140, none, none, none, none, none, none, some 141, none, some 142, none, none, none, none, some 143, some 144, some 145, some 0, some 0, some 0]) kc_11 w_1502 (by decide) ⟨rfl, rfl, rfl⟩ (Or.inr ⟨_, rfl⟩) dX12_init_110 rfl (by omega) (by omega) rfl (by decide) (Nat.le_of_ble_eq_true rfl) (by omega) rfl ?_
  refine j_aload_n (pc' := 114) dX12_init_113 rfl rfl ?_
  refine j_bipush (pc' := 116) dX12_init_114 rfl rfl ?_
  refine n_newa (pc' := 118) (L' := mk_ [none, some 135, some 136, some 137, some 138, some 139, none, none, some 140, none, none, none, none, none, none, some 141, none, some 142, none, none, none, none, some 143, some 144, some 145, some 146, some 0, some 0] 13) (a := 146) (N := 14) (kd := 20) (Or.inl ⟨rfl, rfl⟩) w_64 dX12_init_116 rfl rfl (Nat.le_of_ble_eq_true rfl) (by omega) (Nat.le_of_ble_eq_true rfl) (Nat.le_of_ble_eq_true rfl) (by rw [hP]; rfl) rfl ?_
  refine n_putR (pc' := 121) (L' := mk_ [none, some 135, some 136, some 137, some 138, some 139, none, none, some 140, none, none, none, none, none, none, some 141, none, some 142, none, none, none, none, some 143, some 144, some 145, some 146, some 147, some 0] 13) (j := 0) (sl := 26) (r := 146) (rs := [none, some 135, some 136, some 137, some 138, some 139, none, none, some 140, none, none, none, none, none, none, some 141, none, some 142, none, none, none, none, some 143, some 144, some 145, some 146, some 0, some 0]) kc_11 w_1503 (by decide) ⟨rfl, rfl, rfl⟩ (Or.inr ⟨_, rfl⟩) dX12_init_118 rfl (by omega) (by omega) rfl (by decide) (Nat.le_of_ble_eq_true rfl) (by omega) rfl ?_
  refine j_aload_n (pc' := 122) dX12_init_121 rfl rfl ?_
  refine j_sipush (pc' := 125) dX12_init_122 rfl rfl ?_
  refine n_newa (pc' := 127) (L' := mk_ [none, some 135, some 136, some 137, some 138, some 139, none, none, some 140, none, none, none, none, none, none, some 141, none, some 142, none, none, none, none, some 143, some 144, some 145, some 146, some 147, some 0] 14) (a := 147) (N := 645) (kd := 20) (Or.inl ⟨rfl, rfl⟩) w_64 dX12_init_125 rfl rfl (Nat.le_of_ble_eq_true rfl) (by omega) (Nat.le_of_ble_eq_true rfl) (Nat.le_of_ble_eq_true rfl) (by rw [hP]; rfl) rfl ?_
  refine n_putR (pc' := 130) (L' := mk_ [none, some 135, some 136, some 137, some 138, some 139, none, none, some 140, none, none, none, none, none, none, some 141, none, some 142, none, none, none, none, some 143, some 144, some 145, some 146, some 147, some 148] 14) (j := 0) (sl := 27) (r := 147) (rs := [none, some 135, some 136, some 137, some 138, some 139, none, none, some 140, none, none, none, none, none, none, some 141, none, some 142, none, none, none, none, some 143, some 144, some 145, some 146, some 147, some 0]) kc_11 w_1504 (by decide) ⟨rfl, rfl, rfl⟩ (Or.inr ⟨_, rfl⟩) dX12_init_127 rfl (by omega) (by omega) rfl (by decide) (Nat.le_of_ble_eq_true rfl) (by omega) rfl ?_
  refine j_aload_n (pc' := 131) dX12_init_130 rfl rfl ?_
  refine n_getR (pc' := 134) (j := 0) (sl := 1) (r := 134) (rs := [none, some 135, some 136, some 137, some 138, some 139, none, none, some 140, none, none, none, none, none, none, some 141, none, some 142, none, none, none, none, some 143, some 144, some 145, some 146, some 147, some 148]) kc_11 w_1478 (Or.inl rfl) (by decide) dX12_init_131 rfl (by omega) (by omega) rfl (by decide) rfl (by omega) ?_
  refine j_iconst (pc' := 135) dX12_init_134 rfl ?_
  refine j_bipush (pc' := 137) dX12_init_135 rfl rfl ?_
  refine n_iast (pc' := 138) (j := 1) (n := 2173) dX12_init_137 rfl (by omega) (by omega) rfl (by decide) (by decide) (by decide) ?_
  refine j_aload_n (pc' := 139) dX12_init_138 rfl rfl ?_
  refine n_getR (pc' := 142) (j := 0) (sl := 1) (r := 134) (rs := [none, some 135, some 136, some 137, some 138, some 139, none, none, some 140, none, none, none, none, none, none, some 141, none, some 142, none, none, none, none, some 143, some 144, some 145, some 146, some 147, some 148]) kc_11 w_1478 (Or.inl rfl) (by decide) dX12_init_139 rfl (by omega) (by omega) rfl (by decide) rfl (by omega) ?_
  refine j_iconst (pc' := 143) dX12_init_142 rfl ?_
  refine j_iconst (pc' := 144) dX12_init_143 rfl ?_
  refine n_iast (pc' := 145) (j := 1) (n := 2173) dX12_init_144 rfl (by omega) (by omega) rfl (by decide) (by decide) (by decide) ?_
  refine j_aload_n (pc' := 146) dX12_init_145 rfl rfl ?_
  refine n_getR (pc' := 149) (j := 0) (sl := 1) (r := 134) (rs := [none, some 135, some 136, some 137, some 138, some 139, none, none, some 140, none, none, none, none, none, none, some 141, none, some 142, none, none, none, none, some 143, some 144, some 145, some 146, some 147, some 148]) kc_11 w_1478 (Or.inl rfl) (by decide) dX12_init_146 rfl (by omega) (by omega) rfl (by decide) rfl (by omega) ?_
  refine j_iconst (pc' := 150) dX12_init_149 rfl ?_
  refine j_bipush (pc' := 152) dX12_init_150 rfl rfl ?_
  refine n_iast (pc' := 153) (j := 1) (n := 2173) dX12_init_152 rfl (by omega) (by omega) rfl (by decide) (by decide) (by decide) ?_
  refine j_aload_n (pc' := 154) dX12_init_153 rfl rfl ?_
  refine n_getR (pc' := 157) (j := 0) (sl := 1) (r := 134) (rs := [none, some 135, some 136, some 137, some 138, some 139, none, none, some 140, none, none, none, none, none, none, some 141, none, some 142, none, none, none, none, some 143, some 144, some 145, some 146, some 147, some 148]) kc_11 w_1478 (Or.inl rfl) (by decide) dX12_init_154 rfl (by omega) (by omega) rfl (by decide) rfl (by omega) ?_
  refine j_bipush (pc' := 159) dX12_init_157 rfl rfl ?_
  refine j_bipush (pc' := 161) dX12_init_159 rfl rfl ?_
  refine n_iast (pc' := 162) (j := 1) (n := 2173) dX12_init_161 rfl (by omega) (by omega) rfl (by decide) (by decide) (by decide) ?_
  refine j_aload_n (pc' := 163) dX12_init_162 rfl rfl ?_
  refine n_getR (pc' := 166) (j := 0) (sl := 1) (r := 134) (rs := [none, some 135, some 136, some 137, some 138, some 139, none, none, some 140, none, none, none, none, none, none, some 141, none, some 142, none, none, none, none, some 143, some 144, some 145, some 146, some 147, some 148]) kc_11 w_1478 (Or.inl rfl) (by decide) dX12_init_163 rfl (by omega) (by omega) rfl (by decide) rfl (by omega) ?_
  refine j_bipush (pc' := 168) dX12_init_166 rfl rfl ?_
  refine j_iconst (pc' := 169) dX12_init_168 rfl ?_
  refine n_iast (pc' := 170) (j := 1) (n := 2173) dX12_init_169 rfl (by omega) (by omega) rfl (by decide) (by decide) (by decide) ?_
  refine j_aload_n (pc' := 171) dX12_init_170 rfl rfl ?_
  refine n_getR (pc' := 174) (j := 0) (sl := 1) (r := 134) (rs := [none, some 135, some 136, some 137, some 138, some 139, none, none, some 140, none, none, none, none, none, none, some 141, none, some 142, none, none, none, none, some 143, some 144, some 145, some 146, some 147, some 148]) kc_11 w_1478 (Or.inl rfl) (by decide) dX12_init_171 rfl (by omega) (by omega) rfl (by decide) rfl (by omega) ?_
  refine j_bipush (pc' := 176) dX12_init_174 rfl rfl ?_
  refine j_iconst (pc' := 177) dX12_init_176 rfl ?_
  refine n_iast (pc' := 178) (j := 1) (n := 2173) dX12_init_177 rfl (by omega) (by omega) rfl (by decide) (by decide) (by decide) ?_
  exact j_vret dX12_init_178 rfl (Nat.le_of_ble_eq_true rfl) (Nat.le_of_ble_eq_true rfl) ⟨rfl, rfl⟩
