/-! THE STEPS over the skeleton SK, as the certificates use them -/
section MK0
variable {Ω : mO} {M M' : mM} {d d' c k c' k' : Nat} {Z : mZ} {pc pc' : Nat} {ls ls' : List (Option mV)} {st rest : List mV} {D D1 : mD} {c0 k0 ce ke : Nat}
def rO (o : Int ⊕ Nat) (D : mD) : mZ := fun q h => (match o with | .inl v => q = .inl (some (mI v)) | .inr i => q = .inr i) ∧ h = (SK, D, false)
def rOV (o : Int ⊕ Nat) (D : mD) : mZ := fun q h => (match o with | .inl _ => q = .inl none | .inr i => q = .inr i) ∧ h = (SK, D, false)
theorem rI_of {v : Int} {r : Int × mD} (h : some (v, D) = some r) : rI r.1 r.2 (.inl (some (mI v))) (SK, D, false) := by cases h; exact ⟨rfl, rfl⟩
theorem rV_of {v : Int} {r : Int × mD} (h : some (v, D) = some r) : rV r.2 (.inl none) (SK, D, false) := by cases h; exact ⟨rfl, rfl⟩
theorem rIX_of {v : Int} {r : (Int ⊕ Nat) × mD} (h : some (Sum.inl v, D) = some r) : rO r.1 r.2 (.inl (some (mI v))) (SK, D, false) := by cases h; exact ⟨rfl, rfl⟩
theorem rVX_of {v : Int} {r : (Int ⊕ Nat) × mD} (h : some (Sum.inl v, D) = some r) : rOV r.1 r.2 (.inl none) (SK, D, false) := by cases h; exact ⟨rfl, rfl⟩
theorem rX_of {i : Nat} {r : (Int ⊕ Nat) × mD} (h : some (Sum.inr i, D) = some r) : rO r.1 r.2 (.inr i) (SK, D, false) := by cases h; exact ⟨rfl, rfl⟩
theorem rXV_of {i : Nat} {r : (Int ⊕ Nat) × mD} (h : some (Sum.inr i, D) = some r) : rOV r.1 r.2 (.inr i) (SK, D, false) := by cases h; exact ⟨rfl, rfl⟩
theorem j_wk {h : mH} (kk : J Ω M d c k Z pc ls' st h c0 k0) (hw : lle ls' ls) : J Ω M d c k Z pc ls st h c0 k0 := j_weak hw kk
theorem j_widen {h : mH} (h1 : c0 ≤ ce) (h2 : k0 ≤ ke) (kk : J Ω M d c k Z pc ls st h ce ke) : J Ω M d c k Z pc ls st h c0 k0 := by
  intro p e s m args below meth cd H locs la X w hS hl
  exact W.widen h1 h2 (kk p e s m args below meth cd H locs la X w hS hl)
theorem cv_wr (z : Int) : cv Ω (mI (wr z)) = cv Ω (mI z) := by
  show Value.int (Int32.ofInt (wr z)) = Value.int (Int32.ofInt z)
  unfold wr
  rw [it]
theorem k_wr {z : Int} {h : mH} (kk : J Ω M d c k Z pc ls (mI (wr z) :: st) h c0 k0) : J Ω M d c k Z pc ls (mI z :: st) h c0 k0 := by
  intro p e s m args below meth cd H locs la X w hS hl
  have q := kk p e s m args below meth cd H locs la X w hS hl
  rw [List.map_cons, cv_wr] at q
  exact q
theorem k_getI {a i sl ci n : Nat} {rs : List (Option Nat)} {C : String} {T : u_T} {N : Nat} {ty : Nat → FieldType} {z : Int} (K : Kc ci C T N ty) (hw : Cond.fieldLink M.1.cls i (T sl).1 (T sl).2.1 (T sl).2.2.1 ∈ WSg) (hs : sl < N)
    (hd : decode M.2.1 pc = .ok (.getfield i, 3)) (hn : pc + 3 = pc') (ha : a < 1000000) (hk : SK[a]? = some (ci, n, rs)) (hsn : sl < n) (hr : rs.getD sl none = none) (hz : D a (sl : Int) = z)
    (kk : J Ω M d c k Z pc' ls (mI z :: st) (SK, D, false) c0 k0) : J Ω M d c k Z pc ls (mR a :: st) (SK, D, false) c0 k0 := j_getI K hw hs hd hn ha hk hsn hr hz kk
theorem k_getR {a i sl ci n r : Nat} {rs : List (Option Nat)} {C ref : String} {T : u_T} {N : Nat} {ty : Nat → FieldType} (K : Kc ci C T N ty) (hw : Cond.fieldLink M.1.cls i ref (T sl).2.1 (T sl).2.2.1 ∈ WSg) (hsm : ref = (T sl).1 ∨ Cond.sameField ref (T sl).1 (T sl).2.1 (T sl).2.2.1 ∈ WSg) (hs : sl < N)
    (hd : decode M.2.1 pc = .ok (.getfield i, 3)) (hn : pc + 3 = pc') (ha : a < 1000000) (hk : SK[a]? = some (ci, n, rs)) (hsn : sl < n) (hr : rs.getD sl none = some (r + 1)) (hr2 : r < 1000000)
    (kk : J Ω M d c k Z pc' ls (mR r :: st) (SK, D, false) c0 k0) : J Ω M d c k Z pc ls (mR a :: st) (SK, D, false) c0 k0 := j_getR K hw hsm hs hd hn ha hk hsn hr hr2 kk
theorem k_putI {a i sl ci n : Nat} {i' : Int} {rs : List (Option Nat)} {C : String} {T : u_T} {N : Nat} {ty : Nat → FieldType} {z : Int} (K : Kc ci C T N ty) (hw : Cond.fieldLink M.1.cls i (T sl).1 (T sl).2.1 (T sl).2.2.1 ∈ WSg) (hs : sl < N) (hty : ty sl = .int ∨ ty sl = .boolean ∧ (z = 0 ∨ z = 1))
    (hd : decode M.2.1 pc = .ok (.putfield i, 3)) (hn : pc + 3 = pc') (ha : a < 1000000) (hk : SK[a]? = some (ci, n, rs)) (hsn : sl < n) (hr : (T sl).2.2.2 = false ∧ rs.getD sl none = none) (hi : (sl : Int) = i')
    (kk : J Ω M d c k Z pc' ls st (SK, pD D a i' z, false) c0 k0) : J Ω M d c k Z pc ls (mI z :: mR a :: st) (SK, D, false) c0 k0 := by
  subst hi
  exact j_putI K hw hs (Or.inl hr.1) hty hd hn ha hk hsn hr.2 kk
theorem k_iald {a n : Nat} {rs : List (Option Nat)} {i z : Int} (hd : decode M.2.1 pc = .ok (.iaload, 1)) (hn : pc + 1 = pc') (ha : a < 1000000) (hk : SK[a]? = some (20, n, rs)) (hm : n < 2147483648) (h0 : 0 ≤ i) (h1 : i < n) (hz : D a i = z)
    (kk : J Ω M d c k Z pc' ls (mI z :: st) (SK, D, false) c0 k0) : J Ω M d c k Z pc ls (mI i :: mR a :: st) (SK, D, false) c0 k0 := j_iald hd hn ha hk hm h0 h1 hz kk
theorem k_bald {a n : Nat} {rs : List (Option Nat)} {i z : Int} (hd : decode M.2.1 pc = .ok (.baload, 1)) (hn : pc + 1 = pc') (ha : a < 1000000) (hk : SK[a]? = some (21, n, rs)) (hm : n < 2147483648) (h0 : 0 ≤ i) (h1 : i < n) (hz : D a i = z)
    (kk : J Ω M d c k Z pc' ls (mI z :: st) (SK, D, false) c0 k0) : J Ω M d c k Z pc ls (mI i :: mR a :: st) (SK, D, false) c0 k0 := j_bald hd hn ha hk hm h0 h1 hz kk
theorem k_aald {a n r : Nat} {rs : List (Option Nat)} {i : Int} (hd : decode M.2.1 pc = .ok (.aaload, 1)) (hn : pc + 1 = pc') (ha : a < 1000000) (hk : SK[a]? = some (23, n, rs)) (hm : n < 2147483648) (h0 : 0 ≤ i) (h1 : i < n) (hr : rs.getD i.toNat none = some (r + 1)) (hr2 : r < 1000000)
    (kk : J Ω M d c k Z pc' ls (mR r :: st) (SK, D, false) c0 k0) : J Ω M d c k Z pc ls (mI i :: mR a :: st) (SK, D, false) c0 k0 := j_aald hd hn ha hk hm h0 h1 hr hr2 kk
theorem k_iast {a n : Nat} {rs : List (Option Nat)} {i z : Int} (hd : decode M.2.1 pc = .ok (.iastore, 1)) (hn : pc + 1 = pc') (ha : a < 1000000) (hk : SK[a]? = some (20, n, rs)) (hm : n < 2147483648) (h0 : 0 ≤ i) (h1 : i < n)
    (kk : J Ω M d c k Z pc' ls st (SK, pD D a i z, false) c0 k0) : J Ω M d c k Z pc ls (mI z :: mI i :: mR a :: st) (SK, D, false) c0 k0 := j_iast hd hn ha hk hm h0 h1 kk
theorem k_bast {a n : Nat} {rs : List (Option Nat)} {i z : Int} (hd : decode M.2.1 pc = .ok (.bastore, 1)) (hn : pc + 1 = pc') (ha : a < 1000000) (hk : SK[a]? = some (21, n, rs)) (hm : n < 2147483648) (h0 : 0 ≤ i) (h1 : i < n)
    (kk : J Ω M d c k Z pc' ls st (SK, pD D a i (bNb z), false) c0 k0) : J Ω M d c k Z pc ls (mI z :: mI i :: mR a :: st) (SK, D, false) c0 k0 := j_bast hd hn ha hk hm h0 h1 kk
/-- words left on the stack -/
theorem hrs_of (h : (rest.all c1 && Nat.ble rest.length 8) = true) : ((rest.map (cv Ω)).map fun v => v.category).sum ≤ 8 := by
  rw [Bool.and_eq_true] at h
  have h2 : rest.length ≤ 8 := Nat.le_of_ble_eq_true h.2
  have h3 : ∀ (l : List mV), l.all c1 = true → ((l.map (cv Ω)).map fun v => v.category).sum = l.length := by
    intro l
    induction l with
    | nil => intro _; rfl
    | cons v l ih =>
      intro hl
      rw [List.all_cons, Bool.and_eq_true] at hl
      simp only [List.map_cons, List.sum_cons, List.length_cons, cv_cat hl.1, ih hl.2]
      omega
  rw [h3 rest h.1]
  exact h2
/-- the words of a call of a method that a class above declares -/
def Cu (own C : String) (M' : mM) (i n : Nat) : Prop := ∃ (ow : String) (x : MethodName), Cond.methodLink own i x ∈ WSg ∧ Cond.sameMethod x.cls ow x.name x.desc ∈ WSg ∧ (⟨ow, x.name, x.desc⟩ : MethodName) ∈ mDec ∧ Cond.selects C x M'.1 ∈ WSg ∧ Cond.instanceMethod M'.1 ∈ WSg ∧ Cond.initialized M'.1.cls ∈ WSg ∧ mWord M' ∈ WSg ∧ (ow ≠ "java/lang/invoke/MethodHandle" ∧ ow ≠ "java/lang/invoke/VarHandle") ∧ (parseMethodDescriptor x.desc).map (fun q => q.parameters.length) = some n ∧ M'.2.2.2.2 = [] ∧ M'.2.2.1 ≤ 45
theorem k_cV {i n a ci nn : Nat} {rs : List (Option Nat)} {C : String} {T : u_T} {N : Nat} {ty : Nat → FieldType} {v : Int} (as rest : List mV) (hM : CM d' 0 0 M' (mR a :: as) (SK, D, false) (rI v D1)) (w : Cw M.1.cls M' i n) (K : Kc ci C T N ty) (hi : Cond.instanceMethod M'.1 ∈ WSg) (hs : Cond.selects C M'.1 M'.1 ∈ WSg)
    (hd : decode M.2.1 pc = .ok (.invokevirtual i, 3)) (hn : pc + 3 = pc') (hdd : d' + 1 ≤ d) (hlen : as.length = n) (ht : M.2.2.2.2 = []) (ha : a < 1000000) (hk : SK[a]? = some (ci, nn, rs)) (hst : as.reverse ++ mR a :: rest = st) (hrs : (rest.all c1 && Nat.ble rest.length 8) = true) (hcc : c0 ≤ c) (hkk : k0 ≤ k)
    (kk : J Ω M d c k Z pc' ls (mI v :: rest) (SK, D1, false) c0 k0) : J Ω M d c k Z pc ls st (SK, D, false) c0 k0 :=
  j_callV hM w K hi hs hd hn hdd hlen ht ha hk hst.symm (hrs_of hrs) hcc hkk (fun v' h' hz => by obtain ⟨e1, e2⟩ := hz; cases e1; cases e2; exact kk) (fun i h' hz => by cases hz.1)
theorem k_cVv {i n a ci nn : Nat} {rs : List (Option Nat)} {C : String} {T : u_T} {N : Nat} {ty : Nat → FieldType} (as rest : List mV) (hM : CM d' 0 0 M' (mR a :: as) (SK, D, false) (rV D1)) (w : Cw M.1.cls M' i n) (K : Kc ci C T N ty) (hi : Cond.instanceMethod M'.1 ∈ WSg) (hs : Cond.selects C M'.1 M'.1 ∈ WSg)
    (hd : decode M.2.1 pc = .ok (.invokevirtual i, 3)) (hn : pc + 3 = pc') (hdd : d' + 1 ≤ d) (hlen : as.length = n) (ht : M.2.2.2.2 = []) (ha : a < 1000000) (hk : SK[a]? = some (ci, nn, rs)) (hst : as.reverse ++ mR a :: rest = st) (hrs : (rest.all c1 && Nat.ble rest.length 8) = true) (hcc : c0 ≤ c) (hkk : k0 ≤ k)
    (kk : J Ω M d c k Z pc' ls (rest) (SK, D1, false) c0 k0) : J Ω M d c k Z pc ls st (SK, D, false) c0 k0 :=
  j_callV hM w K hi hs hd hn hdd hlen ht ha hk hst.symm (hrs_of hrs) hcc hkk (fun v' h' hz => by obtain ⟨e1, e2⟩ := hz; cases e1; cases e2; exact kk) (fun i h' hz => by cases hz.1)
theorem k_cVX {i n a ci nn : Nat} {rs : List (Option Nat)} {C : String} {T : u_T} {N : Nat} {ty : Nat → FieldType} {v : Int} (as rest : List mV) (hM : CM d' c' k' M' (mR a :: as) (SK, D, false) (rO (.inl v) D1)) (w : Cw M.1.cls M' i n) (K : Kc ci C T N ty) (hi : Cond.instanceMethod M'.1 ∈ WSg) (hs : Cond.selects C M'.1 M'.1 ∈ WSg)
    (hd : decode M.2.1 pc = .ok (.invokevirtual i, 3)) (hn : pc + 3 = pc') (hdd : d' + 1 ≤ d) (hlen : as.length = n) (ht : M.2.2.2.2 = []) (ha : a < 1000000) (hk : SK[a]? = some (ci, nn, rs)) (hst : as.reverse ++ mR a :: rest = st) (hrs : (rest.all c1 && Nat.ble rest.length 8) = true) (e1 : c0 + c' = ce) (e2 : k0 + k' = ke) (hcc : ce ≤ c) (hkk : ke ≤ k)
    (kk : J Ω M d c k Z pc' ls (mI v :: rest) (SK, D1, false) ce ke) : J Ω M d c k Z pc ls st (SK, D, false) c0 k0 := by
  subst e1; subst e2
  exact j_callV hM w K hi hs hd hn hdd hlen ht ha hk hst.symm (hrs_of hrs) hcc hkk (fun v' h' hz => by obtain ⟨e1, e2⟩ := hz; cases e1; cases e2; exact kk) (fun i h' hz => by cases hz.1)
theorem k_cVXv {i n a ci nn : Nat} {rs : List (Option Nat)} {C : String} {T : u_T} {N : Nat} {ty : Nat → FieldType} {v : Int} (as rest : List mV) (hM : CM d' c' k' M' (mR a :: as) (SK, D, false) (rOV (.inl v) D1)) (w : Cw M.1.cls M' i n) (K : Kc ci C T N ty) (hi : Cond.instanceMethod M'.1 ∈ WSg) (hs : Cond.selects C M'.1 M'.1 ∈ WSg)
    (hd : decode M.2.1 pc = .ok (.invokevirtual i, 3)) (hn : pc + 3 = pc') (hdd : d' + 1 ≤ d) (hlen : as.length = n) (ht : M.2.2.2.2 = []) (ha : a < 1000000) (hk : SK[a]? = some (ci, nn, rs)) (hst : as.reverse ++ mR a :: rest = st) (hrs : (rest.all c1 && Nat.ble rest.length 8) = true) (e1 : c0 + c' = ce) (e2 : k0 + k' = ke) (hcc : ce ≤ c) (hkk : ke ≤ k)
    (kk : J Ω M d c k Z pc' ls (rest) (SK, D1, false) ce ke) : J Ω M d c k Z pc ls st (SK, D, false) c0 k0 := by
  subst e1; subst e2
  exact j_callV hM w K hi hs hd hn hdd hlen ht ha hk hst.symm (hrs_of hrs) hcc hkk (fun v' h' hz => by obtain ⟨e1, e2⟩ := hz; cases e1; cases e2; exact kk) (fun i h' hz => by cases hz.1)
theorem k_cVXt {i n a ci nn : Nat} {rs : List (Option Nat)} {C : String} {T : u_T} {N : Nat} {ty : Nat → FieldType} {x : Nat} (as rest : List mV) (hM : CM d' c' k' M' (mR a :: as) (SK, D, false) (rO (.inr x) D1)) (w : Cw M.1.cls M' i n) (K : Kc ci C T N ty) (hi : Cond.instanceMethod M'.1 ∈ WSg) (hs : Cond.selects C M'.1 M'.1 ∈ WSg)
    (hd : decode M.2.1 pc = .ok (.invokevirtual i, 3)) (hdd : d' + 1 ≤ d) (hlen : as.length = n) (ht : M.2.2.2.2 = []) (ha : a < 1000000) (hk : SK[a]? = some (ci, nn, rs)) (hst : as.reverse ++ mR a :: rest = st) (hrs : (rest.all c1 && Nat.ble rest.length 8) = true) (hcc : c0 + c' ≤ c) (hkk : k0 + k' ≤ k) (hz : Z (.inr x) (SK, D1, false)) : J Ω M d c k Z pc ls st (SK, D, false) c0 k0 :=
  j_callV hM w K hi hs hd rfl hdd hlen ht ha hk hst.symm (hrs_of hrs) hcc hkk (fun v' h' hz => by cases hz.1) (fun i h' hz2 => by obtain ⟨e1, e2⟩ := hz2; cases e1; cases e2; exact hz)
theorem k_cVXtV {i n a ci nn : Nat} {rs : List (Option Nat)} {C : String} {T : u_T} {N : Nat} {ty : Nat → FieldType} {x : Nat} (as rest : List mV) (hM : CM d' c' k' M' (mR a :: as) (SK, D, false) (rOV (.inr x) D1)) (w : Cw M.1.cls M' i n) (K : Kc ci C T N ty) (hi : Cond.instanceMethod M'.1 ∈ WSg) (hs : Cond.selects C M'.1 M'.1 ∈ WSg)
    (hd : decode M.2.1 pc = .ok (.invokevirtual i, 3)) (hdd : d' + 1 ≤ d) (hlen : as.length = n) (ht : M.2.2.2.2 = []) (ha : a < 1000000) (hk : SK[a]? = some (ci, nn, rs)) (hst : as.reverse ++ mR a :: rest = st) (hrs : (rest.all c1 && Nat.ble rest.length 8) = true) (hcc : c0 + c' ≤ c) (hkk : k0 + k' ≤ k) (hz : Z (.inr x) (SK, D1, false)) : J Ω M d c k Z pc ls st (SK, D, false) c0 k0 :=
  j_callV hM w K hi hs hd rfl hdd hlen ht ha hk hst.symm (hrs_of hrs) hcc hkk (fun v' h' hz => by cases hz.1) (fun i h' hz2 => by obtain ⟨e1, e2⟩ := hz2; cases e1; cases e2; exact hz)
theorem k_cS {i n : Nat} {v : Int} (as rest : List mV) (hM : CM d' 0 0 M' (as) (SK, D, false) (rI v D1)) (w : Cw M.1.cls M' i n) (hi : Cond.static M'.1 ∈ WSg)
    (hd : decode M.2.1 pc = .ok (.invokestatic i, 3)) (hn : pc + 3 = pc') (hdd : d' + 1 ≤ d) (hlen : as.length = n) (ht : M.2.2.2.2 = []) (hst : as.reverse ++ rest = st) (hrs : (rest.all c1 && Nat.ble rest.length 8) = true) (hcc : c0 ≤ c) (hkk : k0 ≤ k)
    (kk : J Ω M d c k Z pc' ls (mI v :: rest) (SK, D1, false) c0 k0) : J Ω M d c k Z pc ls st (SK, D, false) c0 k0 :=
  j_callS hM w hi hd hn hdd hlen ht hst.symm (hrs_of hrs) hcc hkk (fun v' h' hz => by obtain ⟨e1, e2⟩ := hz; cases e1; cases e2; exact kk) (fun i h' hz => by cases hz.1)
theorem k_cSv {i n : Nat} (as rest : List mV) (hM : CM d' 0 0 M' (as) (SK, D, false) (rV D1)) (w : Cw M.1.cls M' i n) (hi : Cond.static M'.1 ∈ WSg)
    (hd : decode M.2.1 pc = .ok (.invokestatic i, 3)) (hn : pc + 3 = pc') (hdd : d' + 1 ≤ d) (hlen : as.length = n) (ht : M.2.2.2.2 = []) (hst : as.reverse ++ rest = st) (hrs : (rest.all c1 && Nat.ble rest.length 8) = true) (hcc : c0 ≤ c) (hkk : k0 ≤ k)
    (kk : J Ω M d c k Z pc' ls (rest) (SK, D1, false) c0 k0) : J Ω M d c k Z pc ls st (SK, D, false) c0 k0 :=
  j_callS hM w hi hd hn hdd hlen ht hst.symm (hrs_of hrs) hcc hkk (fun v' h' hz => by obtain ⟨e1, e2⟩ := hz; cases e1; cases e2; exact kk) (fun i h' hz => by cases hz.1)
theorem k_cU {i n a ci nn : Nat} {rs : List (Option Nat)} {C : String} {T : u_T} {N : Nat} {ty : Nat → FieldType} {v : Int} (as rest : List mV) (hM : CM d' 0 0 M' (mR a :: as) (SK, D, false) (rI v D1)) (w : Cu M.1.cls C M' i n) (K : Kc ci C T N ty)
    (hd : decode M.2.1 pc = .ok (.invokevirtual i, 3)) (hn : pc + 3 = pc') (hdd : d' + 1 ≤ d) (hlen : as.length = n) (ht : M.2.2.2.2 = []) (ha : a < 1000000) (hk : SK[a]? = some (ci, nn, rs)) (hst : as.reverse ++ mR a :: rest = st) (hrs : (rest.all c1 && Nat.ble rest.length 8) = true) (hcc : c0 ≤ c) (hkk : k0 ≤ k)
    (kk : J Ω M d c k Z pc' ls (mI v :: rest) (SK, D1, false) c0 k0) : J Ω M d c k Z pc ls st (SK, D, false) c0 k0 :=
  by
  obtain ⟨ow, x, w⟩ := w
  exact j_callU hM w.1 w.2.1 w.2.2.1 w.2.2.2.1 w.2.2.2.2.1 w.2.2.2.2.2.1 w.2.2.2.2.2.2.1 w.2.2.2.2.2.2.2.1 w.2.2.2.2.2.2.2.2.1 w.2.2.2.2.2.2.2.2.2.1 w.2.2.2.2.2.2.2.2.2.2 K hd hn hdd hlen ht ha hk hst.symm (hrs_of hrs) hcc hkk (fun v' h' hz => by obtain ⟨e1, e2⟩ := hz; cases e1; cases e2; exact kk) (fun i h' hz => by cases hz.1)
theorem k_copy {i a b na nb : Nat} {ra rb : List (Option Nat)} {n : Int} (hw1 : Cond.methodLink M.1.cls i arraycopyName ∈ WSg) (hw2 : Cond.native arraycopyName ∈ WSg) (hw3 : Cond.static arraycopyName ∈ WSg) (hw4 : Cond.initialized "java/lang/System" ∈ WSg)
    (hd : decode M.2.1 pc = .ok (.invokestatic i, 3)) (hn : pc + 3 = pc') (hdd : 1 ≤ d) (ha : a < 1000000) (hb : b < 1000000) (hka : SK[a]? = some (20, na, ra)) (hkb : SK[b]? = some (20, nb, rb)) (hna : na < 2147483648) (hnb : nb < 2147483648) (h3 : 0 ≤ n) (h4 : n ≤ na) (h5 : n ≤ nb) (hrs : (rest.all c1 && Nat.ble rest.length 8) = true)
    (kk : J Ω M d c k Z pc' ls rest (SK, cpD D a b n, false) c0 k0) : J Ω M d c k Z pc ls (mI n :: mI 0 :: mR b :: mI 0 :: mR a :: rest) (SK, D, false) c0 k0 :=
  j_copy hw1 hw2 hw3 hw4 hd hn hdd ha hb hka hkb hna hnb (Int.le_refl 0) (Int.le_refl 0) h3 (by omega) (by omega) (hrs_of hrs) kk
/-- receivers and parameters of a kind -/
def IsArr (a : Nat) : Prop := a < 900 ∧ SK[a]? = some (20, 13, [])
theorem arr_18 : IsArr 18 := ⟨by decide, rfl⟩
theorem arr_110 : IsArr 110 := ⟨by decide, rfl⟩
theorem arr_lt {a : Nat} (h : IsArr a) : a < 1000000 := Nat.lt_of_lt_of_le h.1 (by decide)
theorem shop_lt {t : Nat} (h : IsShop t) : t < 1000000 := Nat.lt_of_lt_of_le h.1 (by decide)
theorem shopA_0 {t : Nat} (h : IsShop t) : SK[t]? = some (6, 17, [none, some (t + 2), some (t + 3), some (t + 4), some (t + 5), none, some (t + 6), none, none, none, none, none, some (t + 7), some (t + 8), none, some (t + 9), none]) := h.2.1
theorem shopA_1 {t : Nat} (h : IsShop t) : SK[t + 1]? = some (20, 12, []) := h.2.2.1
theorem shopL_1 {t : Nat} (h : IsShop t) : t + 1 < 1000000 := Nat.lt_of_lt_of_le (Nat.add_lt_add_right h.1 1) (by decide)
theorem shopA_2 {t : Nat} (h : IsShop t) : SK[t + 2]? = some (20, 12, []) := h.2.2.2.1
theorem shopL_2 {t : Nat} (h : IsShop t) : t + 2 < 1000000 := Nat.lt_of_lt_of_le (Nat.add_lt_add_right h.1 2) (by decide)
theorem shopA_3 {t : Nat} (h : IsShop t) : SK[t + 3]? = some (20, 60, []) := h.2.2.2.2.1
theorem shopL_3 {t : Nat} (h : IsShop t) : t + 3 < 1000000 := Nat.lt_of_lt_of_le (Nat.add_lt_add_right h.1 3) (by decide)
theorem shopA_4 {t : Nat} (h : IsShop t) : SK[t + 4]? = some (20, 60, []) := h.2.2.2.2.2.1
theorem shopL_4 {t : Nat} (h : IsShop t) : t + 4 < 1000000 := Nat.lt_of_lt_of_le (Nat.add_lt_add_right h.1 4) (by decide)
theorem shopA_5 {t : Nat} (h : IsShop t) : SK[t + 5]? = some (20, 14, []) := h.2.2.2.2.2.2.1
theorem shopL_5 {t : Nat} (h : IsShop t) : t + 5 < 1000000 := Nat.lt_of_lt_of_le (Nat.add_lt_add_right h.1 5) (by decide)
theorem shopA_6 {t : Nat} (h : IsShop t) : SK[t + 6]? = some (20, 6, []) := h.2.2.2.2.2.2.2.1
theorem shopL_6 {t : Nat} (h : IsShop t) : t + 6 < 1000000 := Nat.lt_of_lt_of_le (Nat.add_lt_add_right h.1 6) (by decide)
theorem shopA_7 {t : Nat} (h : IsShop t) : SK[t + 7]? = some (20, 6, []) := h.2.2.2.2.2.2.2.2.1
theorem shopL_7 {t : Nat} (h : IsShop t) : t + 7 < 1000000 := Nat.lt_of_lt_of_le (Nat.add_lt_add_right h.1 7) (by decide)
theorem shopA_8 {t : Nat} (h : IsShop t) : SK[t + 8]? = some (20, 8, []) := h.2.2.2.2.2.2.2.2.2
theorem shopL_8 {t : Nat} (h : IsShop t) : t + 8 < 1000000 := Nat.lt_of_lt_of_le (Nat.add_lt_add_right h.1 8) (by decide)
theorem law_lt {t : Nat} (h : IsLaw t) : t < 1000000 := Nat.lt_of_lt_of_le h.1 (by decide)
theorem lawA_0 {t : Nat} (h : IsLaw t) : SK[t]? = some (2, 6, [none, some (t + 2), some (t + 3), some (t + 4), some (t + 5), none]) := h.2.1
theorem lawA_1 {t : Nat} (h : IsLaw t) : SK[t + 1]? = some (20, 12, []) := h.2.2.1
theorem lawL_1 {t : Nat} (h : IsLaw t) : t + 1 < 1000000 := Nat.lt_of_lt_of_le (Nat.add_lt_add_right h.1 1) (by decide)
theorem lawA_2 {t : Nat} (h : IsLaw t) : SK[t + 2]? = some (20, 12, []) := h.2.2.2.1
theorem lawL_2 {t : Nat} (h : IsLaw t) : t + 2 < 1000000 := Nat.lt_of_lt_of_le (Nat.add_lt_add_right h.1 2) (by decide)
theorem lawA_3 {t : Nat} (h : IsLaw t) : SK[t + 3]? = some (20, 12, []) := h.2.2.2.2.1
theorem lawL_3 {t : Nat} (h : IsLaw t) : t + 3 < 1000000 := Nat.lt_of_lt_of_le (Nat.add_lt_add_right h.1 3) (by decide)
theorem lawA_4 {t : Nat} (h : IsLaw t) : SK[t + 4]? = some (20, 400, []) := h.2.2.2.2.2
theorem lawL_4 {t : Nat} (h : IsLaw t) : t + 4 < 1000000 := Nat.lt_of_lt_of_le (Nat.add_lt_add_right h.1 4) (by decide)
theorem work_lt {t : Nat} (h : IsWork t) : t < 1000000 := Nat.lt_of_lt_of_le h.1 (by decide)
theorem workA_0 {t : Nat} (h : IsWork t) : SK[t]? = some (9, 11, [some (t + 2), some (t + 3), some (t + 4), none, none, none, none, none, some (t + 5), none, none]) := h.2.1
theorem workA_1 {t : Nat} (h : IsWork t) : SK[t + 1]? = some (20, 13, []) := h.2.2.1
theorem workL_1 {t : Nat} (h : IsWork t) : t + 1 < 1000000 := Nat.lt_of_lt_of_le (Nat.add_lt_add_right h.1 1) (by decide)
theorem workA_2 {t : Nat} (h : IsWork t) : SK[t + 2]? = some (20, 14, []) := h.2.2.2.1
theorem workL_2 {t : Nat} (h : IsWork t) : t + 2 < 1000000 := Nat.lt_of_lt_of_le (Nat.add_lt_add_right h.1 2) (by decide)
theorem workA_3 {t : Nat} (h : IsWork t) : SK[t + 3]? = some (20, 14, []) := h.2.2.2.2.1
theorem workL_3 {t : Nat} (h : IsWork t) : t + 3 < 1000000 := Nat.lt_of_lt_of_le (Nat.add_lt_add_right h.1 3) (by decide)
theorem workA_4 {t : Nat} (h : IsWork t) : SK[t + 4]? = some (20, 240, []) := h.2.2.2.2.2
theorem workL_4 {t : Nat} (h : IsWork t) : t + 4 < 1000000 := Nat.lt_of_lt_of_le (Nat.add_lt_add_right h.1 4) (by decide)
theorem work_ahead {i : Int} (h0 : 0 ≤ i) (h1 : i < 12) : IsWork (33 + 5 * i.toNat) := by
  obtain ⟨j, rfl⟩ := Int.eq_ofNat_of_zero_le h0
  have hj : j < 12 := by omega
  show IsWork (33 + 5 * j)
  match j, hj with
  | 0, _ => exact work_33
  | 1, _ => exact work_38
  | 2, _ => exact work_43
  | 3, _ => exact work_48
  | 4, _ => exact work_53
  | 5, _ => exact work_58
  | 6, _ => exact work_63
  | 7, _ => exact work_68
  | 8, _ => exact work_73
  | 9, _ => exact work_78
  | 10, _ => exact work_83
  | 11, _ => exact work_88
  | n + 12, h => exact absurd h (by omega)
theorem ahead_ref {i : Int} (h0 : 0 ≤ i) (h1 : i < 12) : [some 34, some 39, some 44, some 49, some 54, some 59, some 64, some 69, some 74, some 79, some 84, some 89].getD i.toNat none = some (33 + 5 * i.toNat + 1) := by
  obtain ⟨j, rfl⟩ := Int.eq_ofNat_of_zero_le h0
  have hj : j < 12 := by omega
  show _ = some (33 + 5 * j + 1)
  match j, hj with
  | 0, _ => rfl
  | 1, _ => rfl
  | 2, _ => rfl
  | 3, _ => rfl
  | 4, _ => rfl
  | 5, _ => rfl
  | 6, _ => rfl
  | 7, _ => rfl
  | 8, _ => rfl
  | 9, _ => rfl
  | 10, _ => rfl
  | 11, _ => rfl
  | n + 12, h => exact absurd h (by omega)
end MK0
theorem pn_X0 : plainName RX0 = true := by decide +kernel
theorem pn_X1 : plainName RX1 = true := by decide +kernel
theorem pn_X2 : plainName RX2 = true := by decide +kernel
theorem pn_X3 : plainName RX3 = true := by decide +kernel
theorem pn_X4 : plainName RX4 = true := by decide +kernel
theorem pn_X5 : plainName RX5 = true := by decide +kernel
theorem pn_X6 : plainName RX6 = true := by decide +kernel
theorem pn_X7 : plainName RX7 = true := by decide +kernel
theorem pn_X8 : plainName RX8 = true := by decide +kernel
theorem pn_X9 : plainName RX9 = true := by decide +kernel
theorem pn_X10 : plainName RX10 = true := by decide +kernel
theorem pn_X11 : plainName RX11 = true := by decide +kernel
theorem pn_X12 : plainName RX12 = true := by decide +kernel
