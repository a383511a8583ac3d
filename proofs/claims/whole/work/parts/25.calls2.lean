section MJ7
variable {Ω : mO} {M M' : mM} {d d' c k c' k' : Nat} {Z Z' : mZ} {pc pc' : Nat} {ls : List (Option mV)} {st rest : List mV} {sk : List mC} {D : mD} {g : Bool} {c0 k0 : Nat} {h : mH}
theorem mPc_blind {as : List mV} : FrameBlind (mPc Ω as h) := by
  intro a U g mk ⟨h1, h2, h3⟩
  exact ⟨h1, h2.moved (U := U.calling g mk a) (Vm.Alike.refl U.vm), h3.same rfl⟩
theorem mPc_at {as : List mV} {s : State} {H : Heap} {locs : List Loc} (w : WH Ω h s H) (hX : XS Ω s s.heap) (hS : va_S (oA Ω) s.heap H locs) : ∀ U : State, U.heap = H → s.WarmedH U.vm → mPc Ω as h (as.map (cv Ω)).toArray U := by
  intro U hU hW
  refine ⟨rfl, by rw [hU]; exact w.moved hW.alike, ?_⟩
  rw [hU]
  exact (hX.kept hS.2.1).warm hW
/-- the words of a call -/
def Cw (own : String) (M' : mM) (i n : Nat) : Prop := Cond.methodLink own i M'.1 ∈ WSg ∧ mWord M' ∈ WSg ∧ Cond.initialized M'.1.cls ∈ WSg ∧ (M'.1.cls ≠ "java/lang/invoke/MethodHandle" ∧ M'.1.cls ≠ "java/lang/invoke/VarHandle") ∧ (parseMethodDescriptor M'.1.desc).map (fun q => q.parameters.length) = some n ∧ M'.2.2.2.2 = [] ∧ M'.2.2.1 ≤ 45
theorem Cw.B {s : State} {args : Array Value} {i n : Nat} (w : Cw M.1.cls M' i n) (hts : ∀ w ∈ WSg, w.before args s = true) (hd : d' + 1 ≤ d) : CallB (rm d c k) s args M.1.cls i M'.1 M'.2.1 M'.2.2.1 M'.2.2.2.1 (mWs M') (rm d' c' k') c' k' n := by
  obtain ⟨w1, w2, w3, w4, w5, w6, w7⟩ := w
  have e : mWord M' = Cond.code M'.1 M'.2.1 M'.2.2.1 M'.2.2.2.1 := by unfold mWord; rw [w6]
  refine ⟨rfl, rfl, hd, ?_, ?_, ?_, ?_, hts _ w3, w4, fun sig hs => ?_, hts _ w1⟩
  · show 8 + (M'.2.2.1 + 11) + 64 * d' ≤ 64 * d
    omega
  · intro w hw a' U hW
    rcases List.mem_cons.mp hw with rfl | hw
    · exact word_at hW (good_of_word (WSg_good w2)) (hts _ w2)
    · exact word_at hW (good_of_word (WSg_good hw)) (hts _ hw)
  · rw [← e]; exact List.mem_cons_self
  · rw [← e]; exact hts _ w2
  · rw [hs] at w5
    exact (Option.some.inj w5).symm
/-- behind a call -/
theorem j_after {p : Program} {e : Env} {s : State} {m : MethodId} {args : Array Value} {below : List Frame} {meth : Method} {cd : Code} {H : Heap} {locs : List Loc} {la : Array Slot} {as : Array Value} {stk : List Value}
    (X : Cx Ω M p s m args meth cd) (hS : va_S (oA Ω) s.heap H locs) (hl : lv_has la M.2.2.1 (lvs Ω ls)) (ht : M.2.2.2.2 = []) (hcc : c0 + c' ≤ c) (hkk : k0 + k' ≤ k)
    (hr : vx_Run p (oL Ω) e (rm d c k) s m args below meth cd H locs c0 k0 c' k' (F0 m pc la stk) (rest.map (cv Ω)) (mQr Ω Z' as) (mQx Ω Z') (oA Ω))
    (kk : ∀ v h', Z' (.inl v) h' → J Ω M d c k Z (pc + 3) ls (v.toList ++ rest) h' (c0 + c') (k0 + k'))
    (kx : ∀ i h', Z' (.inr i) h' → Z (.inr i) h') : W p (oL Ω) e (rm d c k) s m args below meth cd H locs c0 k0 (vx_MQ below (mQr Ω Z) (mQx Ω Z) args s c k (oA Ω)) (F0 m pc la stk) := by
  intro T hT XT
  rcases hr T hT XT with ⟨v, st₀, t, T', L, h0, X', hL, e1, e2, ⟨v', h', hv, hz, hw, hF⟩, hg⟩ | ⟨q, st₀, t, T', L, E, ce, h0, X', hL, e1, e2, ⟨i, h', hE, hz, hw, hF⟩, hq, hcv, hfc, hg⟩
  · have hv' : v = v'.map (cv Ω) := by injection hv
    have hS' : va_S (oA Ω) s.heap T'.heap (locs ++ L) := by
      refine ⟨Nat.le_trans hS.1 (by rw [e1]; have := hF.1; rw [h0] at this; exact this), fun q h1 h2 => ?_, fun l hl => ?_⟩
      · rw [e1, ← hS.2.1 q h1 h2]
        have := hF.2 q (by rw [h0]; exact Nat.lt_of_lt_of_le h1 hS.1) h2
        rw [h0] at this
        exact this
      · rcases List.mem_append.mp hl with h1 | h1
        · exact hS.2.2 l h1
        · exact hL l h1
    have hw' : WH Ω h' s T'.heap := by
      rw [e1]
      refine hw.moved ?_
      rw [← e2]
      exact X'.warmed.alike.symm
    have K := kk v' h' hz p e s m args below meth cd T'.heap (locs ++ L) la X hw' hS' hl
    obtain ⟨t2, a1, b1⟩ := K T' rfl X'
    refine ⟨t2, hg t2 ?_, b1⟩
    have : (F0 m (pc + 3) la ((v'.toList ++ rest).map (cv Ω))) = { (F0 m pc la stk) with pc := (F0 m pc la stk).pc + 3, stack := v.toList ++ rest.map (cv Ω) } := by
      rw [hv', List.map_append]
      cases v' <;> rfl
    rw [← this]
    exact a1
  · have hS' : va_S (oA Ω) s.heap T'.heap (locs ++ L) := by
      refine ⟨Nat.le_trans hS.1 (by rw [e1]; have := hF.1; rw [h0] at this; exact this), fun q h1 h2 => ?_, fun l hl => ?_⟩
      · rw [e1, ← hS.2.1 q h1 h2]
        have := hF.2 q (by rw [h0]; exact Nat.lt_of_lt_of_le h1 hS.1) h2
        rw [h0] at this
        exact this
      · rcases List.mem_append.mp hl with h1 | h1
        · exact hS.2.2 l h1
        · exact hL l h1
    have hx : vx_W p (oL Ω) e (rm d c k) s m args below meth cd T'.heap (locs ++ L) (c0 + c') (k0 + k') (vx_MQ below (mQr Ω Z) (mQx Ω Z) args s c k (oA Ω)) (F0 m pc la (rest.map (cv Ω))) q := by
      refine vx_out (E := E) (ce := ce) (by rw [X.2.2.2.2.2.2.2.2.1, ht]; intro x hx; exact absurd hx List.not_mem_nil) X.2.2.2.2.1 (by rw [e1]; exact hq) hcv hfc ?_ hS'.2.2 hcc hkk
      intro u hu hal
      refine ⟨i, h', hE, kx i h' hz, ?_, hS'.F hu⟩
      rw [hu, e1]
      refine hw.moved ?_
      rw [← e2]
      exact X'.warmed.alike.symm.trans hal
    obtain ⟨t2, a1, b1⟩ := hx T' rfl X'
    exact ⟨t2, hg.trans a1, b1⟩
/-- a call of a method of the object a, whose class the tables select by name -/
theorem j_callV {i n a ci : Nat} {rs : List (Option Nat)} {C : String} {T : u_T} {N nn : Nat} {ty : Nat → FieldType} {as : List mV} (hM : CM d' c' k' M' (mR a :: as) (sk, D, g) Z') (w : Cw M.1.cls M' i n) (K : Kc ci C T N ty) (hi : Cond.instanceMethod M'.1 ∈ WSg) (hs : Cond.selects C M'.1 M'.1 ∈ WSg)
    (hd : decode M.2.1 pc = .ok (.invokevirtual i, 3)) (hn : pc + 3 = pc') (hdd : d' + 1 ≤ d) (hlen : as.length = n) (ht : M.2.2.2.2 = []) (ha : a < 1000000) (hk : sk[a]? = some (ci, nn, rs)) (hst : st = as.reverse ++ mR a :: rest) (hrs : ((rest.map (cv Ω)).map fun v => v.category).sum ≤ 8) (hcc : c0 + c' ≤ c) (hkk : k0 + k' ≤ k)
    (kk : ∀ v h', Z' (.inl v) h' → J Ω M d c k Z pc' ls (v.toList ++ rest) h' (c0 + c') (k0 + k')) (kx : ∀ i h', Z' (.inr i) h' → Z (.inr i) h') : J Ω M d c k Z pc ls st (sk, D, g) c0 k0 := by
  intro p e s m args below meth cd H locs la X w0 hS hl
  subst hn; subst hst
  have he : (cw Ω (sk, D, g))[a]? = some (oB Ω + a, .inr (ci, cf Ω rs nn (D a))) := by rw [cw_at (h := (sk, D, g)) hk, ce_obj _ K.2.2.2.2]
  have hca : cv Ω (mR a) = .ref (oB Ω + a) := by show Value.ref _ = _; rw [ca_lo ha]
  have hpre := mPc_at (as := mR a :: as) w0 X.2.2.2.2.2.2.2.2.2.2.2 hS
  rw [List.map_cons, hca] at hpre
  refine j_after X hS hl ht hcc hkk (vx_runV (As := as.map (cv Ω)) (rest := rest.map (cv Ω)) (b := oB Ω + a) (C := C) (nL := M.2.2.1) ⟨X.1, X.2.1, X.2.2.1, X.2.2.2.2.2.1, X.2.2.2.2.2.2.1⟩ (hM Ω X.2.2.2.2.2.2.2.2.2.1) ⟨w.B X.2.2.2.2.2.2.1 hdd, X.2.2.2.2.2.2.1 _ hi, X.2.2.2.2.2.2.1 _ hs⟩ ⟨mPc_blind, va_recv w0.2.1 w0.1 K.1 he, hpre⟩ rfl (by rw [List.length_map]; exact hlen) hl.1 ?_ (lv_room hrs) hd ⟨hcc, hkk⟩) kk kx
  show ((as.reverse ++ mR a :: rest).map (cv Ω)) = _
  rw [List.map_append, List.map_reverse, List.map_cons, hca]
theorem j_callS {i n : Nat} {as : List mV} (hM : CM d' c' k' M' as h Z') (w : Cw M.1.cls M' i n) (hi : Cond.static M'.1 ∈ WSg)
    (hd : decode M.2.1 pc = .ok (.invokestatic i, 3)) (hn : pc + 3 = pc') (hdd : d' + 1 ≤ d) (hlen : as.length = n) (ht : M.2.2.2.2 = []) (hst : st = as.reverse ++ rest) (hrs : ((rest.map (cv Ω)).map fun v => v.category).sum ≤ 8) (hcc : c0 + c' ≤ c) (hkk : k0 + k' ≤ k)
    (kk : ∀ v h', Z' (.inl v) h' → J Ω M d c k Z pc' ls (v.toList ++ rest) h' (c0 + c') (k0 + k')) (kx : ∀ i h', Z' (.inr i) h' → Z (.inr i) h') : J Ω M d c k Z pc ls st h c0 k0 := by
  intro p e s m args below meth cd H locs la X w0 hS hl
  subst hn; subst hst
  have hpre := mPc_at (as := as) w0 X.2.2.2.2.2.2.2.2.2.2.2 hS
  refine j_after X hS hl ht hcc hkk (vx_runS (As := as.map (cv Ω)) (rest := rest.map (cv Ω)) (nL := M.2.2.1) ⟨X.1, X.2.1, X.2.2.1, X.2.2.2.2.2.1, X.2.2.2.2.2.2.1⟩ (hM Ω X.2.2.2.2.2.2.2.2.2.1) ⟨w.B X.2.2.2.2.2.2.1 hdd, X.2.2.2.2.2.2.1 _ hi⟩ ⟨mPc_blind, hpre⟩ rfl (by rw [List.length_map]; exact hlen) hl.1 ?_ (lv_room hrs) hd ⟨hcc, hkk⟩) kk kx
  show ((as.reverse ++ rest).map (cv Ω)) = _
  rw [List.map_append, List.map_reverse]
theorem j_callI {i n a : Nat} {as : List mV} (hM : CM d' c' k' M' (mR a :: as) h Z') (w : Cw M.1.cls M' i n) (hi : Cond.instanceMethod M'.1 ∈ WSg) (hnm : M'.1.name = "<init>") (hrt : M'.2.2.2.1 = none)
    (hd : decode M.2.1 pc = .ok (.invokespecial i, 3)) (hn : pc + 3 = pc') (hdd : d' + 1 ≤ d) (hlen : as.length = n) (ht : M.2.2.2.2 = []) (ha : a < 1000000) (hst : st = as.reverse ++ mR a :: rest) (hrs : ((rest.map (cv Ω)).map fun v => v.category).sum ≤ 8) (hcc : c0 + c' ≤ c) (hkk : k0 + k' ≤ k)
    (kk : ∀ v h', Z' (.inl v) h' → J Ω M d c k Z pc' ls (v.toList ++ rest) h' (c0 + c') (k0 + k')) (kx : ∀ i h', Z' (.inr i) h' → Z (.inr i) h') : J Ω M d c k Z pc ls st h c0 k0 := by
  intro p e s m args below meth cd H locs la X w0 hS hl
  subst hn; subst hst
  have hca : cv Ω (mR a) = .ref (oB Ω + a) := by show Value.ref _ = _; rw [ca_lo ha]
  have hpre := mPc_at (as := mR a :: as) w0 X.2.2.2.2.2.2.2.2.2.2.2 hS
  rw [List.map_cons, hca] at hpre
  have hB := w.B (d := d) (d' := d') (c := c) (k := k) (c' := c') (k' := k') X.2.2.2.2.2.2.1 hdd
  rw [hrt] at hB
  refine j_after X hS hl ht hcc hkk (vx_runI (As := as.map (cv Ω)) (rest := rest.map (cv Ω)) (b := oB Ω + a) (nL := M.2.2.1) ⟨X.1, X.2.1, X.2.2.1, X.2.2.2.2.2.1, X.2.2.2.2.2.2.1⟩ (hM Ω X.2.2.2.2.2.2.2.2.2.1) ⟨hB, hnm, X.2.2.2.2.2.2.1 _ hi⟩ ⟨mPc_blind, hpre⟩ rfl (by rw [List.length_map]; exact hlen) hl.1 ?_ (lv_room hrs) hd ⟨hcc, hkk⟩) kk kx
  show ((as.reverse ++ mR a :: rest).map (cv Ω)) = _
  rw [List.map_append, List.map_reverse, List.map_cons, hca]
end MJ7
