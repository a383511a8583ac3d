/-! CATCHING: a call of a method of the class, its exceptions caught here -/
section MJ7d
variable {Ω : mO} {M M' : mM} {d d' c k c' k' : Nat} {Z Z' : mZ} {pc pc' : Nat} {ls : List (Option mV)} {st rest : List mV} {sk : List mC} {D : mD} {g : Bool} {c0 k0 : Nat} {h : mH}
theorem j_callVT {i n a ci : Nat} {rs : List (Option Nat)} {C : String} {T : u_T} {N nn : Nat} {ty : Nat → FieldType} {as : List mV} (hM : CM d' c' k' M' (mR a :: as) (sk, D, g) Z') (w : Cw M.1.cls M' i n) (K : Kc ci C T N ty) (hi : Cond.instanceMethod M'.1 ∈ WSg) (hs : Cond.selects C M'.1 M'.1 ∈ WSg)
    (hd : decode M.2.1 pc = .ok (.invokevirtual i, 3)) (hn : pc + 3 = pc') (hdd : d' + 1 ≤ d) (hlen : as.length = n) (ha : a < 1000000) (hk : sk[a]? = some (ci, nn, rs)) (hst : st = as.reverse ++ mR a :: rest) (hrs : ((rest.map (cv Ω)).map fun v => v.category).sum ≤ 8) (hcc : c0 + c' ≤ c) (hkk : k0 + k' ≤ k)
    (kk : ∀ v h', Z' (.inl v) h' → J Ω M d c k Z pc' ls (v.toList ++ rest) h' (c0 + c') (k0 + k')) (kx : ∀ i h', Z' (.inr i) h' → ∃ hp sl, Ct M pc i hp sl ∧ J Ω M d c k Z (hp + 1) (ls.set (sl : Nat) none) [] h' (c0 + c') (k0 + k')) : J Ω M d c k Z pc ls st (sk, D, g) c0 k0 := by
  intro p e s m args below meth cd H locs la X w0 hS hl
  subst hn; subst hst
  have he : (cw Ω (sk, D, g))[a]? = some (oB Ω + a, .inr (ci, cf Ω rs nn (D a))) := by rw [cw_at (h := (sk, D, g)) hk, ce_obj _ K.2.2.2.2]
  have hca : cv Ω (mR a) = .ref (oB Ω + a) := by show Value.ref _ = _; rw [ca_lo ha]
  have hpre := mPc_at (as := mR a :: as) w0 X.2.2.2.2.2.2.2.2.2.2.2 hS
  rw [List.map_cons, hca] at hpre
  refine j_afterT X hS hl (vx_runV (As := as.map (cv Ω)) (rest := rest.map (cv Ω)) (b := oB Ω + a) (C := C) (nL := M.2.2.1) ⟨X.1, X.2.1, X.2.2.1, X.2.2.2.2.2.1, X.2.2.2.2.2.2.1⟩ (hM Ω X.2.2.2.2.2.2.2.2.2.1) ⟨w.B X.2.2.2.2.2.2.1 hdd, X.2.2.2.2.2.2.1 _ hi, X.2.2.2.2.2.2.1 _ hs⟩ ⟨mPc_blind, va_recv w0.2.1 w0.1 K.1 he, hpre⟩ rfl (by rw [List.length_map]; exact hlen) hl.1 ?_ (lv_room hrs) hd ⟨hcc, hkk⟩) kk kx
  show ((as.reverse ++ mR a :: rest).map (cv Ω)) = _
  rw [List.map_append, List.map_reverse, List.map_cons, hca]
end MJ7d
