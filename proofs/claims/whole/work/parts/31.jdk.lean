/-! THE JDK's own methods: Math, Integer, Arrays, String -/
section MK1
variable {Ω : mO} {M M' : mM} {d d' c k c' k' : Nat} {Z : mZ} {pc pc' : Nat} {ls ls' : List (Option mV)} {st rest : List mV} {D D1 : mD} {c0 k0 ce ke : Nat} {h : mH}
theorem nR_le {c0 c : Nat} : c0 ≤ c → c0 ≤ c := id
/-- a body of a class some of whose methods the machine runs itself, where this one is none of them -/
theorem vx_ofWF {l : Launch} {y : MethodName} {ws ws' : List Cond} {rm : Room} {Pc : Array Value → State → Prop} {Qc : Array Value → State → Outcome → State → Prop} {XC : String → State → State → Prop} {mc ms : Nat} {free : Addr → Prop} {cc : ByteArray} {maxL : Nat} {ret : Option FieldType}
    (hy : plainFor y = true) (hw : ws = Cond.code y cc maxL ret :: ws')
    (body : ∀ p e s m args below meth c s₁, BodyLoose p l y (headSpec ws rm) cc maxL ret e s m args below meth c s₁ → c.maxLocals = maxL → (∀ x ∈ c.exceptionTable.toList, False) → Pc args s →
      W p l e (headSpec ws rm).room s m args below meth c s.heap [] 0 0 (vx_MQ below Qc XC args s mc ms free) (entryFrame m args maxL)) : vx_Met l y ws rm Pc Qc XC mc ms free := by
  refine Free.MetFree.of_bodySF (code := cc) (maxLocals := maxL) (ret := ret) hy ?_ ?_
  · intro args s m h hn
    obtain ⟨meth, c, h1, h2, h3, h4, h5, h6, -, -⟩ := Cond.code_spec hn (atoms_spec (ws := ws) h _ (by rw [hw]; exact List.mem_cons_self))
    exact ⟨meth, c, h1, h2, h3, h4, h5, h6⟩
  · intro p e s m args below meth c s₁ B hml hP _
    have hh0 : s₁.heap = s.heap := by rw [B.state]; rfl
    have ht : ∀ x ∈ c.exceptionTable.toList, False := by
      obtain ⟨meth9, c9, h1, h2, -, -, -, -, h7, -⟩ := Cond.code_spec B.named (atoms_spec (ws := ws) B.pre _ (by rw [hw]; exact List.mem_cons_self))
      cases Option.some.inj (h1.symm.trans B.method)
      cases Option.some.inj (h2.symm.trans (Stand.of_body B).code)
      intro x hx
      rw [Array.isEmpty_iff.mp h7] at hx
      cases hx
    obtain ⟨t, a1, o, b1, b2, b3⟩ := body p e s m args below meth c s₁ B hml ht hP s₁ hh0 (Stand.of_body B)
    exact ⟨t, o, a1, b1, b2, b3⟩
theorem CM.introF {as : List mV} {h : mH} (hp : plainFor M.1 = true) (ht : M.2.2.2.2 = []) (h1 : as.all c1 = true) (hn : as.length ≤ M.2.2.1) (hJ : ∀ Ω : mO, J Ω M d c k Z 0 (els M.2.2.1 as) [] h 0 0) : CM d c k M as h Z := by
  intro Ω hst
  refine vx_ofWF (cc := M.2.1) (maxL := M.2.2.1) (ret := M.2.2.2.1) (ws' := WSg) hp (by unfold mWs mWord; rw [ht]) ?_
  intro p e s m args below meth cd s₁ B hml htb hv
  obtain ⟨rfl, hW, hX⟩ := hv
  have hts := atoms_spec (ws := mWs M) B.pre
  have hnm : meth.name = M.1.name := (name_of_methodNamed B.named B.method).1
  have hS : va_S (oA Ω) s.heap s.heap [] := va_S.rf
  have hl := els_has (Ω := Ω) (n := M.2.2.1) h1 hn
  rw [lg_entry_eq]
  refine hJ Ω p e s m _ below meth cd s.heap [] _ ⟨B.exec, B.bytes, hml, B.returns, B.notSynchronized, findClass_of_methodNamed B.named, fun w hw => hts w (List.mem_cons_of_mem _ hw), hnm, ?_, hst, Nat.le_trans (Nat.le_add_right _ _) hW.2.2.1, hX⟩ hW hS hl
  rw [ht]
  have : cd.exceptionTable.toList = [] := List.eq_nil_iff_forall_not_mem.mpr htb
  rw [this]
  rfl
theorem mMax : Lib.Math.max.name = yJ9_max_7cf53 ∧ Lib.Math.max.code = cJ9_max_7cf53 := by decide +kernel
theorem mMin : Lib.Math.min.name = yJ9_min_7cf53 ∧ Lib.Math.min.code = cJ9_min_7cf53 := by decide +kernel
theorem mAbs : Lib.Math.abs.name = yJ9_abs_0f7a4 ∧ Lib.Math.abs.code = cJ9_abs_0f7a4 := by decide +kernel
theorem k_max {i : Nat} {a b : Int} (w : Cw M.1.cls M_J9_max_7cf53 i 2) (hst : Cond.static yJ9_max_7cf53 ∈ WSg) (hd : decode M.2.1 pc = .ok (.invokestatic i, 3)) (hn : pc + 3 = pc') (hdd : 1 ≤ d) (ha : nR a) (hb : nR b) (hrs : (rest.all c1 && Nat.ble rest.length 8) = true) (hcc : c0 ≤ c) (hkk : k0 ≤ k)
    (kk : J Ω M d c k Z pc' ls (mI (max a b) :: rest) h c0 k0) : J Ω M d c k Z pc ls (mI b :: mI a :: rest) h c0 k0 := by
  intro p e s m args below meth cd H locs la X w0 hS hl
  subst hn
  have q := kk p e s m args below meth cd H locs la X w0 hS hl
  have hroom := hrs_of (Ω := Ω) hrs
  have e1 : Int32.ofInt (max a b) = if Int32.ofInt a < Int32.ofInt b then Int32.ofInt b else Int32.ofInt a := by
    by_cases z : a < b
    · rw [if_pos ((ti_lt ha hb).mpr z), Int.max_eq_right (by omega)]
    · rw [if_neg (fun y => z ((ti_lt ha hb).mp y)), Int.max_eq_left (by omega)]
  rw [List.map_cons, show cv Ω (mI (max a b)) = .int (Int32.ofInt (max a b)) from rfl, e1] at q
  refine va_mmax X.1 X.2.1 (by rw [X.2.2.1]; exact hl.1.symm) X.2.2.2.2.2.1 (by rw [mMax.1]; exact X.2.2.2.2.2.2.1 _ w.1) (by rw [mMax.1]; exact X.2.2.2.2.2.2.1 _ hst) (X.2.2.2.2.2.2.1 _ w.2.2.1) (by rw [mMax.1, mMax.2]; exact X.2.2.2.2.2.2.1 _ w.2.1) hdd ?_ hcc hkk hd q
  show _ + 13 ≤ 64 * d
  omega
theorem k_min {i : Nat} {a b : Int} (w : Cw M.1.cls M_J9_min_7cf53 i 2) (hst : Cond.static yJ9_min_7cf53 ∈ WSg) (hd : decode M.2.1 pc = .ok (.invokestatic i, 3)) (hn : pc + 3 = pc') (hdd : 1 ≤ d) (ha : nR a) (hb : nR b) (hrs : (rest.all c1 && Nat.ble rest.length 8) = true) (hcc : c0 ≤ c) (hkk : k0 ≤ k)
    (kk : J Ω M d c k Z pc' ls (mI (min a b) :: rest) h c0 k0) : J Ω M d c k Z pc ls (mI b :: mI a :: rest) h c0 k0 := by
  intro p e s m args below meth cd H locs la X w0 hS hl
  subst hn
  have q := kk p e s m args below meth cd H locs la X w0 hS hl
  have hroom := hrs_of (Ω := Ω) hrs
  have e1 : Int32.ofInt (min a b) = if Int32.ofInt b < Int32.ofInt a then Int32.ofInt b else Int32.ofInt a := by
    by_cases z : b < a
    · rw [if_pos ((ti_lt hb ha).mpr z), Int.min_eq_right (by omega)]
    · rw [if_neg (fun y => z ((ti_lt hb ha).mp y)), Int.min_eq_left (by omega)]
  rw [List.map_cons, show cv Ω (mI (min a b)) = .int (Int32.ofInt (min a b)) from rfl, e1] at q
  refine va_mmin X.1 X.2.1 (by rw [X.2.2.1]; exact hl.1.symm) X.2.2.2.2.2.1 (by rw [mMin.1]; exact X.2.2.2.2.2.2.1 _ w.1) (by rw [mMin.1]; exact X.2.2.2.2.2.2.1 _ hst) (X.2.2.2.2.2.2.1 _ w.2.2.1) (by rw [mMin.1, mMin.2]; exact X.2.2.2.2.2.2.1 _ w.2.1) hdd ?_ hcc hkk hd q
  show _ + 13 ≤ 64 * d
  omega
theorem k_abs {i : Nat} {a : Int} (w : Cw M.1.cls M_J9_abs_0f7a4 i 1) (hst : Cond.static yJ9_abs_0f7a4 ∈ WSg) (hd : decode M.2.1 pc = .ok (.invokestatic i, 3)) (hn : pc + 3 = pc') (hdd : 1 ≤ d) (ha : nR a) (hrs : (rest.all c1 && Nat.ble rest.length 8) = true) (hcc : c0 ≤ c) (hkk : k0 ≤ k)
    (kk : J Ω M d c k Z pc' ls (mI (Int.natAbs a : Int) :: rest) h c0 k0) : J Ω M d c k Z pc ls (mI a :: rest) h c0 k0 := by
  intro p e s m args below meth cd H locs la X w0 hS hl
  subst hn
  have q := kk p e s m args below meth cd H locs la X w0 hS hl
  have hroom := hrs_of (Ω := Ω) hrs
  have e1 : Int32.ofInt (Int.natAbs a : Int) = if 0 ≤ Int32.ofInt a then Int32.ofInt a else 0 - Int32.ofInt a := by
    by_cases z : 0 ≤ a
    · rw [if_pos (show (0 : Int32) ≤ Int32.ofInt a from (ti_le Z0 ha).mpr z)]; congr 1; omega
    · rw [if_neg (show ¬ (0 : Int32) ≤ Int32.ofInt a from fun y => z ((ti_le Z0 ha).mp y)), show (0 : Int32) - Int32.ofInt a = Int32.ofInt (0 - a) from (Int32.ofInt_sub 0 a).symm]; congr 1; omega
  rw [List.map_cons, show cv Ω (mI (Int.natAbs a : Int)) = .int (Int32.ofInt (Int.natAbs a : Int)) from rfl, e1] at q
  refine va_mabs X.1 X.2.1 (by rw [X.2.2.1]; exact hl.1.symm) X.2.2.2.2.2.1 (by rw [mAbs.1]; exact X.2.2.2.2.2.2.1 _ w.1) (by rw [mAbs.1]; exact X.2.2.2.2.2.2.1 _ hst) (X.2.2.2.2.2.2.1 _ w.2.2.1) (by rw [mAbs.1, mAbs.2]; exact X.2.2.2.2.2.2.1 _ w.2.1) hdd ?_ hcc hkk hd q
  show _ + 13 ≤ 64 * d
  omega
theorem xor_neg {a b : Int} (ha : nR a) (hb : 0 < b) (hb2 : nR b) : 0 ≤ bXor a b ↔ 0 ≤ a := by
  have e1 : ∀ x : Int32, (0 ≤ x.toInt ↔ x.toBitVec.msb = false) := by
    intro x
    rw [show x.toInt = x.toBitVec.toInt from rfl, BitVec.msb_eq_toInt]
    simp
  unfold bXor
  rw [e1]
  have h2 := e1 (Int32.ofInt a)
  have h3 := e1 (Int32.ofInt b)
  rw [ti ha] at h2
  rw [ti hb2] at h3
  rw [show (Int32.ofInt a ^^^ Int32.ofInt b).toBitVec = (Int32.ofInt a).toBitVec ^^^ (Int32.ofInt b).toBitVec from rfl, BitVec.msb_xor, h2, h3.mp (by omega)]
  simp
theorem k_fmod {d : Nat} (_ : 1 ≤ d) {a b : Int} {D : mD} (ha : nR a) (hb : nR b) (h1 : 0 < b) : CM d 0 0 M_J9_floorMod_7cf53 [mI a, mI b] (SK, D, false) (rI (a % b) D) := by
  have hr : nR (a.tmod b) := by
    have q1 := Int.tmod_lt_of_pos a h1
    have q2 := Int.lt_tmod_of_pos a h1
    constructor <;> omega
  have em : a % b = if 0 ≤ a ∨ a.tmod b = 0 then a.tmod b else a.tmod b + b := by
    rw [Int.emod_eq_tmod]
    by_cases q : 0 ≤ a
    · rw [if_pos (Or.inl q), if_pos (Or.inl q)]; omega
    · by_cases q2 : a.tmod b = 0
      · have q3 : b ∣ a := Int.dvd_of_tmod_eq_zero q2
        rw [if_pos (Or.inr q3), if_pos (Or.inr q2)]; omega
      · have q3 : ¬ b ∣ a := fun z => q2 (Int.tmod_eq_zero_of_dvd z)
        rw [if_neg (fun z => z.elim q q3), if_neg (fun z => z.elim q q2)]; omega
  refine CM.introF (by decide +kernel) rfl rfl (Nat.le_of_ble_eq_true rfl) (fun Ω => ?_)
  refine j_iload_n (pc' := 1) dJ9_floorMod_7cf53_0 rfl rfl (j_iload_n (pc' := 2) dJ9_floorMod_7cf53_1 rfl rfl (j_iremT (pc' := 3) dJ9_floorMod_7cf53_2 rfl ha hb (by omega) ?_))
  refine j_istore_n (pc' := 4) (ls' := [some (mI a), some (mI b), some (mI (a.tmod b))]) dJ9_floorMod_7cf53_3 rfl (by decide) rfl (j_iload_n (pc' := 5) dJ9_floorMod_7cf53_4 rfl rfl (j_iload_n (pc' := 6) dJ9_floorMod_7cf53_5 rfl rfl (j_ixor (pc' := 7) dJ9_floorMod_7cf53_6 rfl ?_)))
  refine j_if_ge (tgt := 18) (pc' := 10) dJ9_floorMod_7cf53_7 rfl rfl (itR _) (fun q => ?_) (fun q => ?_)
  · refine j_iload_n (pc' := 19) dJ9_floorMod_7cf53_18 rfl rfl (j_iret dJ9_floorMod_7cf53_19 rfl (Nat.le_refl _) (Nat.le_refl _) ⟨?_, rfl⟩)
    rw [em, if_pos (Or.inl ((xor_neg ha h1 hb).mp q))]
  · refine j_iload_n (pc' := 11) dJ9_floorMod_7cf53_10 rfl rfl (j_if_eq (tgt := 18) (pc' := 14) dJ9_floorMod_7cf53_11 rfl rfl hr (fun q2 => ?_) (fun q2 => ?_))
    · refine j_iload_n (pc' := 19) dJ9_floorMod_7cf53_18 rfl rfl (j_iret dJ9_floorMod_7cf53_19 rfl (Nat.le_refl _) (Nat.le_refl _) ⟨?_, rfl⟩)
      rw [em, if_pos (Or.inr q2)]
    · refine j_iload_n (pc' := 15) dJ9_floorMod_7cf53_14 rfl rfl (j_iload_n (pc' := 16) dJ9_floorMod_7cf53_15 rfl rfl (j_iadd (pc' := 17) dJ9_floorMod_7cf53_16 rfl (j_iret dJ9_floorMod_7cf53_17 rfl (Nat.le_refl _) (Nat.le_refl _) ⟨?_, rfl⟩)))
      rw [em, if_neg (fun z => z.elim (fun z => q ((xor_neg ha h1 hb).mpr z)) q2)]
theorem k_bc {d : Nat} (_ : 1 ≤ d) {a : Int} {D : mD} : CM d 0 0 M_J6_bitCount_0f7a4 [mI a] (SK, D, false) (rI (bC a) D) := by
  show CM d 0 0 M_J6_bitCount_0f7a4 [mI a] (SK, D, false) (rI (bAnd (bC5 (bC4 (bC3 (bC2 (bC1 a))))) 63) D)
  refine CM.intro (by decide +kernel) rfl rfl (Nat.le_of_ble_eq_true rfl) (fun Ω => ?_)
  refine j_iload_n (pc' := 1) dJ6_bitCount_0f7a4_0 rfl rfl (j_iload_n (pc' := 2) dJ6_bitCount_0f7a4_1 rfl rfl (j_iconst (pc' := 3) dJ6_bitCount_0f7a4_2 rfl (j_iushr (pc' := 4) dJ6_bitCount_0f7a4_3 rfl ?_)))
  refine j_ldcwI (pc' := 7) (n := 1431655765) w_690 dJ6_bitCount_0f7a4_4 rfl (j_iand (pc' := 8) dJ6_bitCount_0f7a4_7 rfl (j_isub (pc' := 9) dJ6_bitCount_0f7a4_8 rfl (j_istore_n (pc' := 10) (ls' := [some (mI (bC1 a))]) dJ6_bitCount_0f7a4_9 rfl (by decide) rfl ?_)))
  generalize bC1 a = a1
  refine j_iload_n (pc' := 11) dJ6_bitCount_0f7a4_10 rfl rfl (j_ldcwI (pc' := 14) (n := 858993459) w_691 dJ6_bitCount_0f7a4_11 rfl (j_iand (pc' := 15) dJ6_bitCount_0f7a4_14 rfl ?_))
  refine j_iload_n (pc' := 16) dJ6_bitCount_0f7a4_15 rfl rfl (j_iconst (pc' := 17) dJ6_bitCount_0f7a4_16 rfl (j_iushr (pc' := 18) dJ6_bitCount_0f7a4_17 rfl (j_ldcwI (pc' := 21) (n := 858993459) w_691 dJ6_bitCount_0f7a4_18 rfl (j_iand (pc' := 22) dJ6_bitCount_0f7a4_21 rfl ?_))))
  refine j_iadd (pc' := 23) dJ6_bitCount_0f7a4_22 rfl (j_istore_n (pc' := 24) (ls' := [some (mI (bC2 a1))]) dJ6_bitCount_0f7a4_23 rfl (by decide) rfl ?_)
  generalize bC2 a1 = a2
  refine j_iload_n (pc' := 25) dJ6_bitCount_0f7a4_24 rfl rfl (j_iload_n (pc' := 26) dJ6_bitCount_0f7a4_25 rfl rfl (j_iconst (pc' := 27) dJ6_bitCount_0f7a4_26 rfl (j_iushr (pc' := 28) dJ6_bitCount_0f7a4_27 rfl (j_iadd (pc' := 29) dJ6_bitCount_0f7a4_28 rfl ?_))))
  refine j_ldcwI (pc' := 32) (n := 252645135) w_692 dJ6_bitCount_0f7a4_29 rfl (j_iand (pc' := 33) dJ6_bitCount_0f7a4_32 rfl (j_istore_n (pc' := 34) (ls' := [some (mI (bC3 a2))]) dJ6_bitCount_0f7a4_33 rfl (by decide) rfl ?_))
  generalize bC3 a2 = a3
  refine j_iload_n (pc' := 35) dJ6_bitCount_0f7a4_34 rfl rfl (j_iload_n (pc' := 36) dJ6_bitCount_0f7a4_35 rfl rfl (j_bipush (pc' := 38) dJ6_bitCount_0f7a4_36 rfl rfl (j_iushr (pc' := 39) dJ6_bitCount_0f7a4_38 rfl (j_iadd (pc' := 40) dJ6_bitCount_0f7a4_39 rfl (j_istore_n (pc' := 41) (ls' := [some (mI (bC4 a3))]) dJ6_bitCount_0f7a4_40 rfl (by decide) rfl ?_)))))
  generalize bC4 a3 = a4
  refine j_iload_n (pc' := 42) dJ6_bitCount_0f7a4_41 rfl rfl (j_iload_n (pc' := 43) dJ6_bitCount_0f7a4_42 rfl rfl (j_bipush (pc' := 45) dJ6_bitCount_0f7a4_43 rfl rfl (j_iushr (pc' := 46) dJ6_bitCount_0f7a4_45 rfl (j_iadd (pc' := 47) dJ6_bitCount_0f7a4_46 rfl (j_istore_n (pc' := 48) (ls' := [some (mI (bC5 a4))]) dJ6_bitCount_0f7a4_47 rfl (by decide) rfl ?_)))))
  generalize bC5 a4 = a5
  exact j_iload_n (pc' := 49) dJ6_bitCount_0f7a4_48 rfl rfl (j_bipush (pc' := 51) dJ6_bitCount_0f7a4_49 rfl rfl (j_iand (pc' := 52) dJ6_bitCount_0f7a4_51 rfl (j_iret dJ6_bitCount_0f7a4_52 rfl (Nat.le_refl _) (Nat.le_refl _) ⟨rfl, rfl⟩)))
theorem j_alen {a n : Nat} {rs : List (Option Nat)} (hd : decode M.2.1 pc = .ok (.arraylength, 1)) (hn : pc + 1 = pc') (ha : a < 1000000) (hk : SK[a]? = some (20, n, rs))
    (kk : J Ω M d c k Z pc' ls (mI (n : Int) :: st) (SK, D, false) c0 k0) : J Ω M d c k Z pc ls (mR a :: st) (SK, D, false) c0 k0 := by
  intro p e s m args below meth cd H locs la X w hS hl
  subst hn
  have q := kk p e s m args below meth cd H locs la X w hS hl
  have he : (cw Ω (SK, D, false))[a]? = some (oB Ω + a, .inl (oI Ω, n, .inl (fun j : Nat => Int32.ofInt (D a (j : Int))))) := by rw [cw_at (h := (SK, D, false)) hk]; rfl
  rw [List.map_cons, show cv Ω (mR a) = .ref (oB Ω + a) by show Value.ref _ = _; rw [ca_lo ha]]
  exact va_alen X.1 X.2.1 w.2.1 w.1 a 0 he rfl (v := Int32.ofInt (n : Int)) (by rw [Int32.ofInt_eq_ofNat]) hd q
theorem sA_same (D : mD) (a : Nat) : sA D a (D a) = D := by
  funext b
  unfold sA
  by_cases e : b = a
  · rw [if_pos e, e]
  · rw [if_neg e]
theorem k_fill {d : Nat} (_ : 1 ≤ d) {a N : Nat} {rs : List (Option Nat)} {n v : Int} {D : mD} (ha : a < 1000000) (hk : SK[a]? = some (20, N, rs)) (hm : N < 1000000) (hn : (N : Int) = n) : CM d 0 0 M_J7_fill_53178 [mR a, mI v] (SK, D, false) (rV (fillD D a n v)) := by
  subst hn
  have loop : ∀ (Ω : mO) (m i : Nat) (D : mD) (Z : mZ), i + m = N → Z (.inl none) (SK, sA D a (fun j => if (i : Int) ≤ j ∧ j < N then v else D a j), false) → J Ω M_J7_fill_53178 d 0 0 Z 5 [some (mR a), some (mI v), some (mI (i : Int)), some (mI (N : Int))] [] (SK, D, false) 0 0 := by
    intro Ω m
    induction m with
    | zero =>
      intro i D Z hi hz
      refine j_iload_n (pc' := 6) dJ7_fill_53178_5 rfl rfl (j_iload_n (pc' := 7) dJ7_fill_53178_6 rfl rfl (j_icmp_ge (tgt := 20) (pc' := 10) dJ7_fill_53178_7 rfl rfl ⟨by omega, by omega⟩ ⟨by omega, by omega⟩ (fun q => ?_) (fun q => absurd q (by omega))))
      refine j_vret dJ7_fill_53178_20 rfl (Nat.le_refl _) (Nat.le_refl _) ?_
      have e : (fun j => if (i : Int) ≤ j ∧ j < N then v else D a j) = D a := by
        funext j
        rw [if_neg (by omega)]
      rw [e, sA_same] at hz
      exact hz
    | succ m ih =>
      intro i D Z hi hz
      refine j_iload_n (pc' := 6) dJ7_fill_53178_5 rfl rfl (j_iload_n (pc' := 7) dJ7_fill_53178_6 rfl rfl (j_icmp_ge (tgt := 20) (pc' := 10) dJ7_fill_53178_7 rfl rfl ⟨by omega, by omega⟩ ⟨by omega, by omega⟩ (fun q => absurd q (by omega)) (fun q => ?_)))
      refine j_aload_n (pc' := 11) dJ7_fill_53178_10 rfl rfl (j_iload_n (pc' := 12) dJ7_fill_53178_11 rfl rfl (j_iload_n (pc' := 13) dJ7_fill_53178_12 rfl rfl (k_iast (pc' := 14) dJ7_fill_53178_13 rfl ha hk (by omega) (by omega) (by omega) ?_)))
      refine j_iinc (pc' := 17) (z' := ((i + 1 : Nat) : Int)) (ls' := [some (mR a), some (mI v), some (mI ((i + 1 : Nat) : Int)), some (mI (N : Int))]) dJ7_fill_53178_14 rfl rfl (by omega) (by decide) rfl (j_goto (tgt := 5) dJ7_fill_53178_17 rfl ?_)
      refine ih (i + 1) _ Z (by omega) ?_
      have e : sA (pD D a (i : Int) v) a (fun j => if ((i + 1 : Nat) : Int) ≤ j ∧ j < N then v else (pD D a (i : Int) v) a j) = sA D a (fun j => if (i : Int) ≤ j ∧ j < N then v else D a j) := by
        funext b j
        unfold pD sA sI
        by_cases eb : b = a
        · subst eb
          simp only [if_true]
          by_cases e1 : j = (i : Int)
          · subst e1
            rw [if_neg (by omega), if_pos rfl, if_pos (by omega)]
          · by_cases e2 : (i : Int) ≤ j ∧ j < N
            · rw [if_pos (by omega), if_pos e2]
            · rw [if_neg (by omega), if_neg e1, if_neg e2]
        · simp [eb]
      rw [e]
      exact hz
  refine CM.intro (by decide +kernel) rfl rfl (Nat.le_of_ble_eq_true rfl) (fun Ω => ?_)
  refine j_iconst (pc' := 1) dJ7_fill_53178_0 rfl (j_istore_n (pc' := 2) (ls' := [some (mR a), some (mI v), some (mI 0), none]) dJ7_fill_53178_1 rfl (by decide) rfl (j_aload_n (pc' := 3) dJ7_fill_53178_2 rfl rfl (j_alen (pc' := 4) dJ7_fill_53178_3 rfl ha hk ?_)))
  refine j_istore_n (pc' := 5) (ls' := [some (mR a), some (mI v), some (mI 0), some (mI (N : Int))]) dJ7_fill_53178_4 rfl (by decide) rfl ?_
  exact loop Ω N 0 D _ (by omega) ⟨rfl, rfl⟩
end MK1
