section MJ9
variable {Ω : mO} {M M' : mM} {d d' c k c' k' : Nat} {Z Z' : mZ} {pc pc' : Nat} {ls : List (Option mV)} {st rest : List mV} {sk : List mC} {D : mD} {g : Bool} {c0 k0 : Nat} {h : mH}
theorem j_anewa {i N : Nat} {n : Int} (hw : Cond.classLink M.1.cls i "SignBoard$Work" ∈ WSg) (hd : decode M.2.1 pc = .ok (.anewarray i, 3)) (hn : pc + 3 = pc') (hN : n = (N : Int)) (hb : N ≤ 60000000) (hl1 : sk.length < 1000000) (hc : c0 + 1 ≤ c) (hk : k0 + N ≤ k)
    (kk : J Ω M d c k Z pc' ls (mR sk.length :: st) (sk ++ [(23, N, List.replicate N (some 0))], sA D sk.length (fun _ => 0), true) (c0 + 1) (k0 + N)) : J Ω M d c k Z pc ls (mI n :: st) (sk, D, true) c0 k0 := by
  intro p e s m args below meth cd H locs la X w hS hl
  subst hn
  have hsz : H.size = oB Ω + sk.length := w.2.2.2 rfl
  have hr : nR n := ⟨by omega, by omega⟩
  have hNc : (Int32.ofInt n).toNatClampNeg = N := by rw [ti_cl hr]; omega
  refine W.anew X.1 X.2.1 X.2.2.2.2.2.1 (X.2.2.2.2.2.2.1 _ hw) (va_AO.use X.2.2.2.2.2.2.2.2.2.2.2.2.2.1.2.1) rfl hd (n := Int32.ofInt n) rfl (by rw [show (0 : Int32) = Int32.ofInt 0 from rfl, ti_lt hr Z0]; omega) (by rw [hNc]; omega) hc (by rw [hNc]; exact hk) fun cA kA comp f1 f2 f3 f4 => ?_
  rw [hNc]
  generalize hH1 : H.push ({ cls := cA, slots := Array.replicate N .null, vm := .none } : Cell) = H1
  have z1 : H1.size = H.size + 1 := by rw [← hH1, Array.size_push]
  have e1 : H1[oB Ω + sk.length]? = some (arrV cA N (fun _ => .null)) := by rw [← hsz, ← hH1, Array.getElem?_push_size, ← arrV_new]
  have o1 : ∀ q : Nat, q < H.size → H1[q]? = H[q]? := fun q hq => by rw [← hH1, Array.getElem?_push, if_neg (Nat.ne_of_lt hq)]
  have hkp : ∀ (k : Nat) (x : Nat × va_E), (cw Ω (sk, D, true))[k]? = some x → H1[x.1]? = H[x.1]? := fun k x hx => o1 x.1 (by have := (w.1 k x hx).lt; omega)
  have q := kk p e s m args below meth cd H1 locs la X ?_ ?_ hl
  · rw [List.map_cons, show cv Ω (mR sk.length) = .ref (oB Ω + sk.length) by show Value.ref _ = _; rw [ca_lo hl1]] at q
    rw [hsz]
    exact q
  · refine ⟨?_, w.2.1, ?_, fun _ => ?_⟩
    · show va_P _ _ (cw Ω (sk ++ [(23, N, List.replicate N (some 0))], sA D sk.length (fun _ => 0), true)) H1
      rw [cw_push (g := true)]
      refine (w.1.kept hkp).app (fun k x hx => ?_)
      have hz : k < 1 := (List.getElem?_eq_some_iff.mp hx).1
      rw [show k = 0 by omega] at hx
      cases hx
      have hcA : oW Ω = cA := by
        obtain ⟨kA', comp', -, -, -, h4⟩ := (show va_RA s (oW Ω) (.object "SignBoard$Work") from (w.2.1.2 3 _ rfl).2)
        exact Option.some.inj (h4.symm.trans f1)
      show H1[oB Ω + sk.length]? = some (vp_cell (oW Ω) (N, .inr (.inr (.inr (.inr (cq Ω (List.replicate N (some 0))))))))
      rw [hcA, vp_cell_q, e1]
      congr 2
      funext j
      show Value.null = va_rf (cq Ω (List.replicate N (some 0)) j)
      unfold cq
      rw [List.getD_eq_getElem?_getD, List.getElem?_replicate]
      split <;> rename_i h
      · split at h <;> cases h
      · rfl
    · show oB Ω + (sk ++ [(23, N, List.replicate N (some 0))]).length ≤ H1.size
      rw [List.length_append, z1]; simp; omega
    · show H1.size = oB Ω + (sk ++ [(23, N, List.replicate N (some 0))]).length
      rw [List.length_append, z1]; simp; omega
  · exact ⟨Nat.le_trans hS.1 (by omega), fun x h1 h2 => (o1 x (by have := hS.1; omega)).trans (hS.2.1 x h1 h2), hS.2.2⟩
theorem cq_set {rs : List (Option Nat)} {i r : Nat} (hi : i < rs.length) : cq Ω (rs.set i (some (r + 1))) = va_up (cq Ω rs) i (some (oB Ω + r)) := by
  funext j
  unfold cq va_up
  rw [List.getD_eq_getElem?_getD, List.getElem?_set]
  by_cases e : i = j
  · subst e
    simp [hi]
  · have e' : ¬ j = i := fun q => e q.symm
    rw [if_neg e, if_neg e', ← List.getD_eq_getElem?_getD]
theorem j_aast {a n r nn : Nat} {rs rs' : List (Option Nat)} {i : Int} (hd : decode M.2.1 pc = .ok (.aastore, 1)) (hn : pc + 1 = pc') (ha : a < 1000000) (hk : sk[a]? = some (23, n, rs)) (hr : sk[r]? = some (9, nn, rs')) (hr2 : r < 1000000) (hm : n < 2147483648) (hrl : rs.length = n) (h0 : 0 ≤ i) (h1 : i < n)
    (kk : J Ω M d c k Z pc' ls st (sk.set a (23, n, rs.set i.toNat (some (r + 1))), sA D a (D a), true) c0 k0) : J Ω M d c k Z pc ls (mR r :: mI i :: mR a :: st) (sk, D, true) c0 k0 := by
  intro p e s m args below meth cd H locs la X w hS hl
  subst hn
  have he : (cw Ω (sk, D, true))[a]? = some (oB Ω + a, .inl (oW Ω, n, .inr (.inr (.inr (.inr (cq Ω rs)))))) := by rw [cw_at (h := (sk, D, true)) hk]; rfl
  have hv : (cw Ω (sk, D, true))[r]? = some (oB Ω + r, .inr (9, cf Ω rs' nn (D r))) := by rw [cw_at (h := (sk, D, true)) hr, ce_obj _ (show (9 : Nat) < 20 by decide)]
  rw [List.map_cons, List.map_cons, List.map_cons, show cv Ω (mR a) = .ref (oB Ω + a) by show Value.ref _ = _; rw [ca_lo ha], show cv Ω (mR r) = .ref (oB Ω + r) by show Value.ref _ = _; rw [ca_lo hr2]]
  have hlt : (Int32.ofInt i).toNatClampNeg < n := by rw [ti_cl ⟨by omega, by omega⟩]; omega
  have h0' : ¬ Int32.ofInt i < 0 := by rw [show (0 : Int32) = Int32.ofInt 0 from rfl, ti_lt ⟨by omega, by omega⟩ Z0]; omega
  obtain ⟨r', hr', cellV, g1, g2, g3, -⟩ := w.1 r _ hv
  have hcls := (w.2.1.1 9 (RX10, TX10, 11) rfl).2
  obtain ⟨kA, comp, k1, k2, k3, -⟩ := (show va_RA s (oW Ω) (.object "SignBoard$Work") from (w.2.1.2 3 _ rfl).2)
  have hcomp : comp = (oG Ω).1 9 := Option.some.inj (k3.symm.trans hcls.1)
  subst hcomp
  obtain ⟨kC, hkC, -⟩ := hcls.2
  refine W.aast X.1 X.2.1 (w.1 a _ he) (fun q h => by cases h) (fun h => by cases h) k1 k2 rfl hkC ⟨h0', by show _ < (arrV _ _ _).slots.size; rw [arrV_size]; exact hlt⟩ g1 (fun q h => by rw [g3] at h; cases h) (by rw [g2]; exact hkC) (by rw [g2]; exact va_assign hcls) rfl rfl hd fun H1 e1 z oq => ?_
  refine kk p e s m args below meth cd H1 _ la X ?_ (hS.put z oq ((cw_D Ω _).2 a _ he)) hl
  refine w.set (cc' := (23, n, rs.set i.toNat (some (r + 1)))) (f := D a) hk z (w.1.set (cw_D Ω _) he ?_ oq)
  show H1[oB Ω + a]? = some (vp_cell (oW Ω) (n, .inr (.inr (.inr (.inr (cq Ω (rs.set i.toNat (some (r + 1)))))))))
  rw [e1, cq_set (by omega)]
  rw [vp_cell_q, vp_cell_q, arrV_store]
  congr 2
  funext q
  rw [ti_cl ⟨by omega, by omega⟩]
  by_cases hq : q = i.toNat
  · subst hq
    simp [updV, va_up, va_rf]
  · simp [updV, va_up, hq]
/-- a call of a method that a class above declares (C the object's class, ow the declarer, x the name at the call) -/
theorem j_callU {i n a ci : Nat} {rs : List (Option Nat)} {C ow : String} {x : MethodName} {T : u_T} {N nn : Nat} {ty : Nat → FieldType} {as : List mV} (hM : CM d' c' k' M' (mR a :: as) (sk, D, g) Z') (w1 : Cond.methodLink M.1.cls i x ∈ WSg) (w2 : Cond.sameMethod x.cls ow x.name x.desc ∈ WSg) (w3 : (⟨ow, x.name, x.desc⟩ : MethodName) ∈ mDec) (w4 : Cond.selects C x M'.1 ∈ WSg) (w5 : Cond.instanceMethod M'.1 ∈ WSg) (w6 : Cond.initialized M'.1.cls ∈ WSg) (w7 : mWord M' ∈ WSg) (w8 : ow ≠ "java/lang/invoke/MethodHandle" ∧ ow ≠ "java/lang/invoke/VarHandle") (w9 : (parseMethodDescriptor x.desc).map (fun q => q.parameters.length) = some n) (w10 : M'.2.2.2.2 = []) (w11 : M'.2.2.1 ≤ 45) (K : Kc ci C T N ty)
    (hd : decode M.2.1 pc = .ok (.invokevirtual i, 3)) (hn : pc + 3 = pc') (hdd : d' + 1 ≤ d) (hlen : as.length = n) (ht : M.2.2.2.2 = []) (ha : a < 1000000) (hk : sk[a]? = some (ci, nn, rs)) (hst : st = as.reverse ++ mR a :: rest) (hrs : ((rest.map (cv Ω)).map fun v => v.category).sum ≤ 8) (hcc : c0 + c' ≤ c) (hkk : k0 + k' ≤ k)
    (kk : ∀ v h', Z' (.inl v) h' → J Ω M d c k Z pc' ls (v.toList ++ rest) h' (c0 + c') (k0 + k')) (kx : ∀ i h', Z' (.inr i) h' → Z (.inr i) h') : J Ω M d c k Z pc ls st (sk, D, g) c0 k0 := by
  intro p e s m args below meth cd H locs la X w0 hS hl
  subst hn; subst hst
  have he : (cw Ω (sk, D, g))[a]? = some (oB Ω + a, .inr (ci, cf Ω rs nn (D a))) := by rw [cw_at (h := (sk, D, g)) hk, ce_obj _ K.2.2.2.2]
  have hca : cv Ω (mR a) = .ref (oB Ω + a) := by show Value.ref _ = _; rw [ca_lo ha]
  have hX := X.2.2.2.2.2.2.2.2.2.2.2
  have hts := X.2.2.2.2.2.2.1
  have hpre := mPc_at (as := mR a :: as) w0 hX hS
  rw [List.map_cons, hca] at hpre
  have ew : mWord M' = Cond.code M'.1 M'.2.1 M'.2.2.1 M'.2.2.2.1 := by unfold mWord; rw [w10]
  have cu : va_CU (rm d c k) s args M.1.cls C ow i x M'.1 M'.2.1 M'.2.2.1 M'.2.2.2.1 (mWs M') (rm d' c' k') c' k' n := by
    refine ⟨⟨rfl, rfl, hdd, ?_, ?_, ?_⟩, ?_, hts _ w6, w8, fun sig hs => ?_, hts _ w1, hts _ w2, va_Decl.abs (hX.2.2.1.2.2.1 _ w3), hts _ w4, hts _ w5⟩
    · show 8 + (M'.2.2.1 + 11) + 64 * d' ≤ 64 * d
      omega
    · intro w hw a' U hW
      rcases List.mem_cons.mp hw with rfl | hw
      · exact word_at hW (good_of_word (WSg_good w7)) (hts _ w7)
      · exact word_at hW (good_of_word (WSg_good hw)) (hts _ hw)
    · rw [← ew]; exact List.mem_cons_self
    · rw [← ew]; exact hts _ w7
    · rw [hs] at w9
      exact (Option.some.inj w9).symm
  refine j_after X hS hl ht hcc hkk (vx_runU (As := as.map (cv Ω)) (rest := rest.map (cv Ω)) (b := oB Ω + a) (C := C) (nL := M.2.2.1) ⟨X.1, X.2.1, X.2.2.1, X.2.2.2.2.2.1, hts⟩ (hM Ω X.2.2.2.2.2.2.2.2.2.1) cu ⟨mPc_blind, va_recv w0.2.1 w0.1 K.1 he, hpre⟩ rfl (by rw [List.length_map]; exact hlen) hl.1 ?_ (lv_room hrs) hd ⟨hcc, hkk⟩) kk kx
  show ((as.reverse ++ mR a :: rest).map (cv Ω)) = _
  rw [List.map_append, List.map_reverse, List.map_cons, hca]
end MJ9
