section MJ8
variable {Ω : mO} {M M' : mM} {d d' c k c' k' : Nat} {Z Z' : mZ} {pc pc' : Nat} {ls : List (Option mV)} {st rest : List mV} {sk : List mC} {D : mD} {g : Bool} {c0 k0 : Nat} {h : mH}
abbrev xnm : List String := ["java/lang/RuntimeException", "java/lang/Exception"]
/-- the words of a throw: the class's entry, the constructor's; what of them is not for every state -/
def Tw (own : String) (ik ic i : Nat) : Prop := Cond.classLink own ik (xn i) ∈ WSg ∧ Cond.initialized (xn i) ∈ WSg ∧ (∀ w ∈ vx_atS own ic (xn i) xnm, w ∈ WSg ∨ (∃ q ∈ mDec, w = .declares q) ∨ ∃ q ∈ mCas, w = .castable q.1 q.2) ∧ Bundle.fit (xn i) = true
theorem j_throw {ik ic is si i : Nat} {text : String} (T : Tw M.1.cls ik ic i) (hs : mStr[si]? = some (M.1.cls, is, text)) (d0 : decode M.2.1 pc = .ok (.new ik, 3)) (d3 : decode M.2.1 (pc + 3) = .ok (.dup, 1)) (d4 : decode M.2.1 (pc + 4) = .ok (.ldc is, 2)) (d6 : decode M.2.1 (pc + 6) = .ok (.invokespecial ic, 3)) (d9 : decode M.2.1 (pc + 9) = .ok (.athrow, 1))
    (ht : M.2.2.2.2 = []) (hdd : 6 ≤ d) (hst : st = []) (hc : c0 + 1 ≤ c) (hk : k0 + 6 ≤ k) (hz : Z (.inr i) (sk, D, false)) : J Ω M d c k Z pc ls st (sk, D, false) c0 k0 := by
  intro p e s m args below meth cd H locs la X w hS hl
  subst hst
  obtain ⟨t1, t2, t3, t4⟩ := T
  have hX := X.2.2.2.2.2.2.2.2.2.2.2
  have hwd : ∀ w ∈ vx_atS M.1.cls ic (xn i) xnm, w.before args s = true := by
    intro w hw
    rcases t3 w hw with h1 | ⟨q, hq, rfl⟩ | ⟨q, hq, rfl⟩
    · exact X.2.2.2.2.2.2.1 _ h1
    · exact (hX.2.2.1.2.2.1 q hq).use rfl
    · exact (hX.2.2.1.2.2.2.1 q hq).use rfl
  refine vx_throwS (A := oA Ω) (names := xnm) (cls := xn i) (text := text) (sa := oS Ω si) X.1 X.2.1 X.2.2.2.2.2.2.2.2.2.1 X.2.2.2.2.2.1 t4 (by decide +kernel) (X.2.2.2.2.2.2.1 _ t1) (X.2.2.2.2.2.2.1 _ t2) (hX.2.2.2.1 si _ hs) hwd ?_ hX.1 hX.2.1 hS (by rw [X.2.2.1]; exact hl.1) d0 d3 d4 d6 d9 (by rw [X.2.2.2.2.2.2.2.2.1, ht]; intro x hx; exact absurd hx List.not_mem_nil) (by show 2 + 3 < d; omega) ?_ hc hk X.2.2.2.2.1 ?_ hS.2.2 hc hk
  · intro w hw
    rcases List.mem_cons.mp hw with rfl | hw
    · exact Bool.or_eq_true_iff.mpr (Or.inr (WSg_good t1))
    · rcases List.mem_cons.mp hw with rfl | hw
      · exact Bool.or_eq_true_iff.mpr (Or.inr (WSg_good t2))
      · rcases t3 w hw with h1 | ⟨q, hq, rfl⟩ | ⟨q, hq, rfl⟩
        · exact Bool.or_eq_true_iff.mpr (Or.inr (WSg_good h1))
        · rfl
        · rfl
  · show 0 + (13 * (2 + 1) + 43) ≤ 64 * d
    omega
  · intro t hal hz1 hsame
    refine ⟨i, (sk, D, false), rfl, hz, ?_, ?_⟩
    · refine ⟨w.1.kept (fun k q hq => hsame q.1 ((w.1 k q hq).lt)), w.2.1.moved hal, Nat.le_trans w.2.2.1 hz1, fun hg => by cases hg⟩
    · refine ⟨Nat.le_trans hS.1 hz1, fun q h1 h2 => ?_⟩
      rw [hsame q (Nat.lt_of_lt_of_le h1 hS.1)]
      exact hS.2.1 q h1 h2
theorem j_throwW {ik ic is si i : Nat} {text : String} (T : Tw M.1.cls ik ic i) (hs : mStr[si]? = some (M.1.cls, is, text)) (d0 : decode M.2.1 pc = .ok (.new ik, 3)) (d3 : decode M.2.1 (pc + 3) = .ok (.dup, 1)) (d4 : decode M.2.1 (pc + 4) = .ok (.ldc_w is, 3)) (d6 : decode M.2.1 (pc + 7) = .ok (.invokespecial ic, 3)) (d9 : decode M.2.1 (pc + 10) = .ok (.athrow, 1))
    (ht : M.2.2.2.2 = []) (hdd : 6 ≤ d) (hst : st = []) (hc : c0 + 1 ≤ c) (hk : k0 + 6 ≤ k) (hz : Z (.inr i) (sk, D, false)) : J Ω M d c k Z pc ls st (sk, D, false) c0 k0 := by
  intro p e s m args below meth cd H locs la X w hS hl
  subst hst
  obtain ⟨t1, t2, t3, t4⟩ := T
  have hX := X.2.2.2.2.2.2.2.2.2.2.2
  have hwd : ∀ w ∈ vx_atS M.1.cls ic (xn i) xnm, w.before args s = true := by
    intro w hw
    rcases t3 w hw with h1 | ⟨q, hq, rfl⟩ | ⟨q, hq, rfl⟩
    · exact X.2.2.2.2.2.2.1 _ h1
    · exact (hX.2.2.1.2.2.1 q hq).use rfl
    · exact (hX.2.2.1.2.2.2.1 q hq).use rfl
  refine vx_throwSW (A := oA Ω) (names := xnm) (cls := xn i) (text := text) (sa := oS Ω si) X.1 X.2.1 X.2.2.2.2.2.2.2.2.2.1 X.2.2.2.2.2.1 t4 (by decide +kernel) (X.2.2.2.2.2.2.1 _ t1) (X.2.2.2.2.2.2.1 _ t2) (hX.2.2.2.1 si _ hs) hwd ?_ hX.1 hX.2.1 hS (by rw [X.2.2.1]; exact hl.1) d0 d3 d4 d6 d9 (by rw [X.2.2.2.2.2.2.2.2.1, ht]; intro x hx; exact absurd hx List.not_mem_nil) (by show 2 + 3 < d; omega) ?_ hc hk X.2.2.2.2.1 ?_ hS.2.2 hc hk
  · intro w hw
    rcases List.mem_cons.mp hw with rfl | hw
    · exact Bool.or_eq_true_iff.mpr (Or.inr (WSg_good t1))
    · rcases List.mem_cons.mp hw with rfl | hw
      · exact Bool.or_eq_true_iff.mpr (Or.inr (WSg_good t2))
      · rcases t3 w hw with h1 | ⟨q, hq, rfl⟩ | ⟨q, hq, rfl⟩
        · exact Bool.or_eq_true_iff.mpr (Or.inr (WSg_good h1))
        · rfl
        · rfl
  · show 0 + (13 * (2 + 1) + 43) ≤ 64 * d
    omega
  · intro t hal hz1 hsame
    refine ⟨i, (sk, D, false), rfl, hz, ?_, ?_⟩
    · refine ⟨w.1.kept (fun k q hq => hsame q.1 ((w.1 k q hq).lt)), w.2.1.moved hal, Nat.le_trans w.2.2.1 hz1, fun hg => by cases hg⟩
    · refine ⟨Nat.le_trans hS.1 hz1, fun q h1 h2 => ?_⟩
      rw [hsame q (Nat.lt_of_lt_of_le h1 hS.1)]
      exact hS.2.1 q h1 h2
/-- a text -/
theorem j_ldcS {is si : Nat} {text : String} (hs : mStr[si]? = some (M.1.cls, is, text)) (hd : decode M.2.1 pc = .ok (.ldc is, 2)) (hn : pc + 2 = pc') (kk : J Ω M d c k Z pc' ls (mR (1000000 + si) :: st) h c0 k0) : J Ω M d c k Z pc ls st h c0 k0 := by
  intro p e s m args below meth cd H locs la X w hS hl
  subst hn
  have q := kk p e s m args below meth cd H locs la X w hS hl
  rw [List.map_cons, show cv Ω (mR (1000000 + si)) = .ref (oS Ω si) by show Value.ref _ = _; unfold ca; rw [if_neg (by omega), Nat.add_sub_cancel_left]] at q
  exact va_ldcS X.1 X.2.1 X.2.2.2.2.2.1 (X.2.2.2.2.2.2.2.2.2.2.2.2.2.2.1 si _ hs) hd q
theorem mz_ldcwS {p : Program} {l : Launch} {e : Env} {R : Room} {s : State} {m : MethodId} {args : Array Value} {below : List Frame} {meth : Method} {c : Code} {H : Heap} {locs : List Loc} {cells slots : Nat} {Q : State → Prop} {cc : ByteArray} {pc : Nat} {ls : Array Slot} {rest : List Value} (hexec : p.tables.exec = Jvm.exec) (hb : c.code = cc) {own tx : String} {index q : Nat} (hown : s.vm.findClass own = some m.cls) (hZ : vk_R own index tx q s) (hdg : decode cc pc = .ok (.ldc_w index, 3))
    (k : W p l e R s m args below meth c H locs cells slots Q (F0 m (pc + 3) ls (.ref q :: rest))) : W p l e R s m args below meth c H locs cells slots Q (F0 m pc ls rest) := by
  intro T hT X
  obtain ⟨t, a1, b1⟩ := k T hT X
  refine ⟨t, ?_, b1⟩
  have hconst : (Cond.stringRef own index tx).before args s = true := hZ.1
  have hev : (Term.string own index).eval args s none [] s = some (.ref q) := hZ.2
  obtain ⟨k1, cf, i, a', hk, hcf, hcp, -, hr, hev'⟩ := Cond.stringRef_spec hown hconst
  cases hev.symm.trans hev'
  obtain ⟨k', hk', he⟩ := X.warmed.alike.2.2 _ _ hk
  have hr' : k'.resolved[index]? = some (some (.string q)) := by
    rcases X.warmed.entry hk hk' index with h | ⟨h, -⟩
    · rw [h]; exact hr
    · rw [hr] at h; cases h
  jvm_step X.here [hexec, hb, hdg, ldc_w.wp_string (e := e) (s := T) (f := F0 m pc ls rest) X.here.top hk' (by rw [he]; exact hcf) hcp hr']
  exact a1
theorem j_ldcwS {is si : Nat} {text : String} (hs : mStr[si]? = some (M.1.cls, is, text)) (hd : decode M.2.1 pc = .ok (.ldc_w is, 3)) (hn : pc + 3 = pc') (kk : J Ω M d c k Z pc' ls (mR (1000000 + si) :: st) h c0 k0) : J Ω M d c k Z pc ls st h c0 k0 := by
  intro p e s m args below meth cd H locs la X w hS hl
  subst hn
  have q := kk p e s m args below meth cd H locs la X w hS hl
  rw [List.map_cons, show cv Ω (mR (1000000 + si)) = .ref (oS Ω si) by show Value.ref _ = _; unfold ca; rw [if_neg (by omega), Nat.add_sub_cancel_left]] at q
  exact mz_ldcwS X.1 X.2.1 X.2.2.2.2.2.1 (X.2.2.2.2.2.2.2.2.2.2.2.2.2.2.1 si _ hs) hd q
/-- System.arraycopy of one int row into another -/
theorem j_copy {i a b na nb : Nat} {ra rb : List (Option Nat)} {sp dp n : Int} (hw1 : Cond.methodLink M.1.cls i arraycopyName ∈ WSg) (hw2 : Cond.native arraycopyName ∈ WSg) (hw3 : Cond.static arraycopyName ∈ WSg) (hw4 : Cond.initialized "java/lang/System" ∈ WSg)
    (hd : decode M.2.1 pc = .ok (.invokestatic i, 3)) (hn : pc + 3 = pc') (hdd : 1 ≤ d) (ha : a < 1000000) (hb : b < 1000000) (hka : sk[a]? = some (20, na, ra)) (hkb : sk[b]? = some (20, nb, rb)) (hna : na < 2147483648) (hnb : nb < 2147483648) (h1 : 0 ≤ sp) (h2 : 0 ≤ dp) (h3 : 0 ≤ n) (h4 : sp + n ≤ na) (h5 : dp + n ≤ nb) (hst : ((rest.map (cv Ω)).map fun v => v.category).sum ≤ 8)
    (kk : J Ω M d c k Z pc' ls rest (sk, sA D b (cpI (D a) (D b) sp dp n), false) c0 k0) : J Ω M d c k Z pc ls (mI n :: mI dp :: mR b :: mI sp :: mR a :: rest) (sk, D, false) c0 k0 := by
  intro p e s m args below meth cd H locs la X w hS hl
  subst hn
  have hea : (cw Ω (sk, D, false))[a]? = some (oB Ω + a, .inl (oI Ω, na, .inl (fun j : Nat => Int32.ofInt (D a (j : Int))))) := by rw [cw_at (h := (sk, D, false)) hka]; rfl
  have heb : (cw Ω (sk, D, false))[b]? = some (oB Ω + b, .inl (oI Ω, nb, .inl (fun j : Nat => Int32.ofInt (D b (j : Int))))) := by rw [cw_at (h := (sk, D, false)) hkb]; rfl
  simp only [List.map_cons]
  rw [show cv Ω (mR a) = .ref (oB Ω + a) by show Value.ref _ = _; rw [ca_lo ha], show cv Ω (mR b) = .ref (oB Ω + b) by show Value.ref _ = _; rw [ca_lo hb]]
  have rs : nR sp := ⟨by omega, by omega⟩
  have rd : nR dp := ⟨by omega, by omega⟩
  have rn : nR n := ⟨by omega, by omega⟩
  refine va_copyi X.1 X.2.1 (by rw [X.2.2.1]; exact hl.1.symm) X.2.2.2.2.2.1 (X.2.2.2.2.2.2.1 _ hw1) (X.2.2.2.2.2.2.1 _ hw2) (X.2.2.2.2.2.2.1 _ hw3) (X.2.2.2.2.2.2.1 _ hw4) w.2.1 w.1 (cw_D Ω _) hS a b 0 0 hea heb rfl rfl rfl (by rw [show (0 : Int32) = Int32.ofInt 0 from rfl, ti_lt rs Z0]; omega) (by rw [show (0 : Int32) = Int32.ofInt 0 from rfl, ti_lt rd Z0]; omega) (by rw [show (0 : Int32) = Int32.ofInt 0 from rfl, ti_lt rn Z0]; omega) (by rw [ti_cl rs, ti_cl rn]; omega) (by rw [ti_cl rd, ti_cl rn]; omega) (fun _ _ => rfl) hdd ?_ hd (fun H1 locs1 hP1 hD1 hS1 => ?_)
  · have e : nativeFrameWords "java/lang/System" "arraycopy" 5 + 11 ≤ 56 := by decide +kernel
    show _ ≤ 64 * d
    omega
  · refine kk p e s m args below meth cd H1 locs1 la X ?_ hS1 hl
    have hW := w.setF (cc' := (20, nb, rb)) (f := cpI (D a) (D b) sp dp n) hkb (by
      rw [show ce Ω (20, nb, rb) (cpI (D a) (D b) sp dp n) = .inl (oI Ω, nb, .inl (fun j : Nat => Int32.ofInt (cpI (D a) (D b) sp dp n (j : Int)))) from rfl]
      have e : (fun j : Nat => Int32.ofInt (cpI (D a) (D b) sp dp n (j : Int))) = va_cpy (fun j : Nat => Int32.ofInt (D a (j : Int))) (fun j : Nat => Int32.ofInt (D b (j : Int))) (Int32.ofInt sp).toNatClampNeg (Int32.ofInt dp).toNatClampNeg (Int32.ofInt n).toNatClampNeg := by
        funext j
        rw [ti_cl rs, ti_cl rd, ti_cl rn]
        unfold cpI va_cpy
        by_cases hj : dp ≤ (j : Int) ∧ (j : Int) < dp + n
        · have hj' : dp.toNat ≤ j ∧ j < dp.toNat + n.toNat := by omega
          rw [if_pos hj, if_pos hj']
          congr 2
          omega
        · have hj' : ¬ (dp.toNat ≤ j ∧ j < dp.toNat + n.toNat) := by omega
          rw [if_neg hj, if_neg hj']
      rw [e]
      exact hP1)
    rw [set_self hkb] at hW
    exact hW
/-- an object is made -/
theorem j_new {i ci : Nat} {rs : List (Option Nat)} {C : String} {T : u_T} {N : Nat} {ty : Nat → FieldType} (K : Kc ci C T N ty) (hw : Cond.classLink M.1.cls i C ∈ WSg) (hw2 : Cond.instantiable C N ∈ WSg) (hw3 : Cond.initialized C ∈ WSg) (hty : ∀ j, j < N → defaultValue (ty j) = cs Ω (rs.getD j none) 0)
    (hd : decode M.2.1 pc = .ok (.new i, 3)) (hn : pc + 3 = pc') (hl1 : sk.length < 1000000) (hc : c0 + 1 ≤ c) (hk : k0 + N ≤ k)
    (kk : J Ω M d c k Z pc' ls (mR sk.length :: st) (sk ++ [(ci, N, rs)], sA D sk.length (fun _ => 0), true) (c0 + 1) (k0 + N)) : J Ω M d c k Z pc ls st (sk, D, true) c0 k0 := by
  intro p e s m args below meth cd H locs la X w hS hl
  subst hn
  have hKn := w.2.1.1 ci _ K.1
  have hsz : H.size = oB Ω + sk.length := w.2.2.2 rfl
  refine W.newcK X.1 X.2.1 X.2.2.2.2.2.1 (X.2.2.2.2.2.2.1 _ hw) (X.2.2.2.2.2.2.1 _ hw2) (X.2.2.2.2.2.2.1 _ hw3) rfl hd hc hk hKn.2.1 hsz fun H1 kC hkC e1 z1 o1 => ?_
  have hkp : ∀ (k : Nat) (x : Nat × va_E), (cw Ω (sk, D, true))[k]? = some x → H1[x.1]? = H[x.1]? := fun k x hx => o1 x.1 (by have := (w.1 k x hx).lt; omega)
  have q := kk p e s m args below meth cd H1 locs la X ?_ ?_ hl
  · rw [List.map_cons, show cv Ω (mR sk.length) = .ref (oB Ω + sk.length) by show Value.ref _ = _; rw [ca_lo hl1]] at q
    exact q
  · refine ⟨?_, w.2.1, ?_, fun _ => ?_⟩
    · show va_P _ _ (cw Ω (sk ++ [(ci, N, rs)], sA D sk.length (fun _ => 0), true)) H1
      rw [cw_push (g := true)]
      refine (w.1.kept hkp).app (fun k x hx => ?_)
      have hz : k < 1 := (List.getElem?_eq_some_iff.mp hx).1
      rw [show k = 0 by omega] at hx
      cases hx
      rw [ce_obj _ K.2.2.2.2]
      refine ⟨_, K.1, (u_born ty X.2.2.2.2.2.2.1 K.2.1 hKn hkC e1 K.2.2.1).to (fun j hj => ?_)⟩
      show defaultValue (ty j) = vp_V (cf Ω rs N (fun _ => 0)) j
      unfold vp_V
      rw [List.getD_eq_getElem?_getD, cf_at hj, hty j hj]
      rfl
    · show oB Ω + (sk ++ [(ci, N, rs)]).length ≤ H1.size
      rw [List.length_append, z1]; simp; omega
    · show H1.size = oB Ω + (sk ++ [(ci, N, rs)]).length
      rw [List.length_append, z1]; simp; omega
  · exact ⟨Nat.le_trans hS.1 (by omega), fun x h1 h2 => (o1 x (by have := hS.1; omega)).trans (hS.2.1 x h1 h2), hS.2.2⟩
/-- a row is made: of ints, bytes, longs -/
theorem j_newa {at_ : ArrayType} {kd N : Nat} {n : Int} (hkd : (kd = 20 ∧ at_ = .int) ∨ (kd = 21 ∧ at_ = .byte) ∨ (kd = 22 ∧ at_ = .long)) (hw : Cond.arrayClass (newarray.typeOf at_) ∈ WSg) (hd : decode M.2.1 pc = .ok (.newarray at_, 2)) (hn : pc + 2 = pc') (hN : n = (N : Int)) (hb : N ≤ 60000000) (hl1 : sk.length < 1000000) (hc : c0 + 1 ≤ c) (hk : k0 + N ≤ k)
    (kk : J Ω M d c k Z pc' ls (mR sk.length :: st) (sk ++ [(kd, N, [])], sA D sk.length (fun _ => 0), true) (c0 + 1) (k0 + N)) : J Ω M d c k Z pc ls (mI n :: st) (sk, D, true) c0 k0 := by
  intro p e s m args below meth cd H locs la X w hS hl
  subst hn
  have hsz : H.size = oB Ω + sk.length := w.2.2.2 rfl
  have hr : nR n := ⟨by omega, by omega⟩
  refine va_newaK X.1 X.2.1 (X.2.2.2.2.2.2.1 _ hw) rfl hd (n := Int32.ofInt n) (N := N) rfl (by rw [show (0 : Int32) = Int32.ofInt 0 from rfl, ti_lt hr Z0]; omega) (by rw [ti_cl hr]; omega) ?_ hc hk hsz fun H1 cA e1 z1 o1 hAr hNm => ?_
  · rcases hkd with ⟨-, rfl⟩ | ⟨-, rfl⟩ | ⟨-, rfl⟩
    · show N * 4 ≤ 536870912; omega
    · show N * 1 ≤ 536870912; omega
    · show N * 8 ≤ 536870912; omega
  have hkp : ∀ (k : Nat) (x : Nat × va_E), (cw Ω (sk, D, true))[k]? = some x → H1[x.1]? = H[x.1]? := fun k x hx => o1 x.1 (by have := (w.1 k x hx).lt; omega)
  have q := kk p e s m args below meth cd H1 locs la X ?_ ?_ hl
  · rw [List.map_cons, show cv Ω (mR sk.length) = .ref (oB Ω + sk.length) by show Value.ref _ = _; rw [ca_lo hl1]] at q
    exact q
  · refine ⟨?_, w.2.1, ?_, fun _ => ?_⟩
    · show va_P _ _ (cw Ω (sk ++ [(kd, N, [])], sA D sk.length (fun _ => 0), true)) H1
      rw [cw_push (g := true)]
      refine (w.1.kept hkp).app (fun k x hx => ?_)
      have hz : k < 1 := (List.getElem?_eq_some_iff.mp hx).1
      rw [show k = 0 by omega] at hx
      cases hx
      rcases hkd with ⟨rfl, rfl⟩ | ⟨rfl, rfl⟩ | ⟨rfl, rfl⟩
      · have hcA : oI Ω = cA := Option.some.inj ((show s.vm.findClass ("[" ++ FieldType.int.toString) = some (oI Ω) from (w.2.1.2 0 _ rfl).2).symm.trans hNm)
        show H1[oB Ω + sk.length]? = some (vp_cell (oI Ω) (N, .inl (fun _ => Int32.ofInt 0)))
        rw [hcA]; exact e1
      · have hcA : oY Ω = cA := Option.some.inj ((show s.vm.findClass ("[" ++ FieldType.byte.toString) = some (oY Ω) from (w.2.1.2 1 _ rfl).2).symm.trans hNm)
        show H1[oB Ω + sk.length]? = some (vp_cell (oY Ω) (N, .inl (fun _ => Int32.ofInt 0)))
        rw [hcA]; exact e1
      · have hcA : oJ Ω = cA := Option.some.inj ((show s.vm.findClass ("[" ++ FieldType.long.toString) = some (oJ Ω) from (w.2.1.2 2 _ rfl).2).symm.trans hNm)
        show H1[oB Ω + sk.length]? = some (vp_cell (oJ Ω) (N, .inr (.inl (fun _ => Int64.ofInt 0))))
        rw [hcA]; exact e1
    · show oB Ω + (sk ++ [(kd, N, [])]).length ≤ H1.size
      rw [List.length_append, z1]; simp; omega
    · show H1.size = oB Ω + (sk ++ [(kd, N, [])]).length
      rw [List.length_append, z1]; simp; omega
  · exact ⟨Nat.le_trans hS.1 (by omega), fun x h1 h2 => (o1 x (by have := hS.1; omega)).trans (hS.2.1 x h1 h2), hS.2.2⟩
end MJ8
