/-! THE STEPS: what is made, ends, throws, calls -/
section MJ6
variable {Ω : mO} {M : mM} {d c k : Nat} {Z : mZ} {pc pc' : Nat} {ls : List (Option mV)} {st : List mV} {sk : List mC} {D : mD} {g : Bool} {c0 k0 : Nat}
/-- a store, where something else may have been made before -/
theorem WH.setF {U : State} {H1 : Heap} {H : Heap} {a : Nat} {cc cc' : mC} {f : Int → Int} (w : WH Ω (sk, D, false) U H) (ha : sk[a]? = some cc)
    (hP : va_P (oG Ω) mCl ((cw Ω (sk, D, false)).set a (oB Ω + a, ce Ω cc' f)) H1) : WH Ω (sk.set a cc', sA D a f, false) U H1 := by
  have hP' : va_P (oG Ω) mCl (cw Ω (sk.set a cc', sA D a f, false)) H1 := by rw [cw_set ha]; exact hP
  refine ⟨hP', w.2.1, ?_, fun hg => by cases hg⟩
  show oB Ω + (sk.set a cc').length ≤ H1.size
  have hl : a < sk.length := (List.getElem?_eq_some_iff.mp ha).1
  have h1 : sk.length - 1 < (sk.set a cc').length := by rw [List.length_set]; omega
  have h2 := (hP' (sk.length - 1) _ (cw_at (h := (sk.set a cc', sA D a f, false)) (List.getElem?_eq_getElem h1))).lt
  have h3 : oB Ω + (sk.length - 1) < H1.size := h2
  rw [List.length_set]; omega
theorem sI_b {f : Int → Int} {i z : Int} {n : Nat} (h0 : 0 ≤ i) (h1 : i < n) (hn : n < 2147483648) : (fun j : Nat => Int32.ofInt (sI f i (bNb z) (j : Int))) = upd (fun j : Nat => Int32.ofInt (f (j : Int))) (Int32.ofInt i).toNatClampNeg (vp_nar .byte (Int32.ofInt z)) := by
  rw [sI_32 h0 h1 hn, show Int32.ofInt (bNb z) = vp_nar .byte (Int32.ofInt z) from it _]
theorem j_bast {a n : Nat} {rs : List (Option Nat)} {i z : Int} (hd : decode M.2.1 pc = .ok (.bastore, 1)) (hn : pc + 1 = pc') (ha : a < 1000000) (hk : sk[a]? = some (21, n, rs)) (hm : n < 2147483648) (h0 : 0 ≤ i) (h1 : i < n)
    (kk : J Ω M d c k Z pc' ls st (sk, sA D a (sI (D a) i (bNb z)), false) c0 k0) : J Ω M d c k Z pc ls (mI z :: mI i :: mR a :: st) (sk, D, false) c0 k0 := by
  intro p e s m args below meth cd H locs la X w hS hl
  subst hn
  have he : (cw Ω (sk, D, false))[a]? = some (oB Ω + a, .inl (oY Ω, n, .inl (fun j : Nat => Int32.ofInt (D a (j : Int))))) := by rw [cw_at (h := (sk, D, false)) hk]; rfl
  rw [List.map_cons, List.map_cons, List.map_cons, show cv Ω (mR a) = .ref (oB Ω + a) by show Value.ref _ = _; rw [ca_lo ha]]
  refine va_bast X.1 X.2.1 w.2.1 w.1 (cw_D Ω _) hS a 1 he rfl (ti_in h0 h1 hm) hd (fun H1 locs1 hP1 hD1 hS1 => ?_)
  refine kk p e s m args below meth cd H1 locs1 la X ?_ hS1 hl
  have hW := w.setF (cc' := (21, n, rs)) (f := sI (D a) i (bNb z)) hk (by
    rw [show ce Ω (21, n, rs) (sI (D a) i (bNb z)) = .inl (oY Ω, n, .inl (fun j : Nat => Int32.ofInt (sI (D a) i (bNb z) (j : Int)))) from rfl, sI_b h0 h1 hm]
    exact hP1)
  rw [set_self hk] at hW
  exact hW
theorem sI_64 {f : Int → Int} {i z : Int} {n : Nat} (h0 : 0 ≤ i) (h1 : i < n) (hn : n < 2147483648) : (fun j : Nat => Int64.ofInt (sI f i z (j : Int))) = vp_updL (fun j : Nat => Int64.ofInt (f (j : Int))) (Int32.ofInt i).toNatClampNeg (Int64.ofInt z) := by
  funext j
  rw [ti_cl ⟨by omega, by omega⟩]
  by_cases e : j = i.toNat
  · have e' : (j : Int) = i := by omega
    simp [sI, vp_updL, e, e', Int.toNat_of_nonneg h0]
  · have e' : ¬ (j : Int) = i := by omega
    simp [sI, vp_updL, e, e']
theorem j_last {a n : Nat} {rs : List (Option Nat)} {i z : Int} (hd : decode M.2.1 pc = .ok (.lastore, 1)) (hn : pc + 1 = pc') (ha : a < 1000000) (hk : sk[a]? = some (22, n, rs)) (hm : n < 2147483648) (h0 : 0 ≤ i) (h1 : i < n)
    (kk : J Ω M d c k Z pc' ls st (sk, sA D a (sI (D a) i z), false) c0 k0) : J Ω M d c k Z pc ls (mL z :: mI i :: mR a :: st) (sk, D, false) c0 k0 := by
  intro p e s m args below meth cd H locs la X w hS hl
  subst hn
  have he : (cw Ω (sk, D, false))[a]? = some (oB Ω + a, .inl (oJ Ω, n, .inr (.inl (fun j : Nat => Int64.ofInt (D a (j : Int)))))) := by rw [cw_at (h := (sk, D, false)) hk]; rfl
  rw [List.map_cons, List.map_cons, List.map_cons, show cv Ω (mR a) = .ref (oB Ω + a) by show Value.ref _ = _; rw [ca_lo ha]]
  refine va_last X.1 X.2.1 w.2.1 w.1 (cw_D Ω _) hS a 2 he rfl (ti_in h0 h1 hm) hd (fun H1 locs1 hP1 hD1 hS1 => ?_)
  refine kk p e s m args below meth cd H1 locs1 la X ?_ hS1 hl
  have hW := w.setF (cc' := (22, n, rs)) (f := sI (D a) i z) hk (by
    rw [show ce Ω (22, n, rs) (sI (D a) i z) = .inl (oJ Ω, n, .inr (.inl (fun j : Nat => Int64.ofInt (sI (D a) i z (j : Int))))) from rfl, sI_64 h0 h1 hm]
    exact hP1)
  rw [set_self hk] at hW
  exact hW
theorem j_aald {a n r : Nat} {rs : List (Option Nat)} {i : Int} (hd : decode M.2.1 pc = .ok (.aaload, 1)) (hn : pc + 1 = pc') (ha : a < 1000000) (hk : sk[a]? = some (23, n, rs)) (hm : n < 2147483648) (h0 : 0 ≤ i) (h1 : i < n) (hr : rs.getD i.toNat none = some (r + 1)) (hr2 : r < 1000000)
    (kk : J Ω M d c k Z pc' ls (mR r :: st) (sk, D, g) c0 k0) : J Ω M d c k Z pc ls (mI i :: mR a :: st) (sk, D, g) c0 k0 := by
  intro p e s m args below meth cd H locs la X w hS hl
  subst hn
  have q := kk p e s m args below meth cd H locs la X w hS hl
  have he : (cw Ω (sk, D, g))[a]? = some (oB Ω + a, .inl (oW Ω, n, .inr (.inr (.inr (.inr (cq Ω rs)))))) := by rw [cw_at (h := (sk, D, g)) hk]; rfl
  rw [List.map_cons, List.map_cons, show cv Ω (mR a) = .ref (oB Ω + a) by show Value.ref _ = _; rw [ca_lo ha]]
  rw [List.map_cons, show cv Ω (mR r) = .ref (oB Ω + r) by show Value.ref _ = _; rw [ca_lo hr2]] at q
  refine va_aldq X.1 X.2.1 w.2.1 w.1 a 3 (C := "SignBoard$Work") he rfl (ti_in h0 h1 hm) hd ?_
  rw [ti_cl ⟨by omega, by omega⟩]
  show W _ _ _ _ _ _ _ _ _ _ _ _ _ _ _ (F0 m (pc + 1) la (va_rf (cq Ω rs i.toNat) :: _))
  rw [show cq Ω rs i.toNat = some (oB Ω + r) by unfold cq; rw [hr]]
  exact q
/-- ends -/
theorem mQr_of {s : State} {m : MethodId} {args : Array Value} {meth : Method} {cd : Code} {p : Program} {H : Heap} {locs : List Loc} {h : mH} {v : Option mV} (w : WH Ω h s H) (hS : va_S (oA Ω) s.heap H locs) (hz : Z (.inl v) h) : ∀ t : State, t.heap = H → s.WarmedH t.vm → mQr Ω Z args s (.returned (v.map (cv Ω))) t :=
  fun t ht hw => ⟨v, h, rfl, hz, by rw [ht]; exact w.moved hw.alike, hS.F ht⟩
theorem j_iret {z : Int} {h : mH} (hd : decode M.2.1 pc = .ok (.ireturn, 1)) (hr : M.2.2.2.1 = some .int) (hc : c0 ≤ c) (hk : k0 ≤ k) (hz : Z (.inl (some (mI z))) h) : J Ω M d c k Z pc ls [mI z] h c0 k0 := by
  intro p e s m args below meth cd H locs la X w hS hl
  refine vx_ret (W.widen hc hk ?_)
  exact W.iret X.1 X.2.1 (by rw [X.2.2.2.1]; exact hr) (mQr_of (m := m) (meth := meth) (cd := cd) (p := p) w hS hz) hS.2.2 hd X.2.2.2.2.1
theorem j_zret {z : Int} {h : mH} (hd : decode M.2.1 pc = .ok (.ireturn, 1)) (hr : M.2.2.2.1 = some .boolean) (hb : z = 0 ∨ z = 1) (hc : c0 ≤ c) (hk : k0 ≤ k) (hz : Z (.inl (some (mI z))) h) : J Ω M d c k Z pc ls [mI z] h c0 k0 := by
  intro p e s m args below meth cd H locs la X w hS hl
  refine vx_ret (W.widen hc hk ?_)
  exact W.zret X.1 X.2.1 (by rw [X.2.2.2.1]; exact hr) (by rcases hb with rfl | rfl <;> rfl) (mQr_of (m := m) (meth := meth) (cd := cd) (p := p) w hS hz) hS.2.2 hd X.2.2.2.2.1
theorem j_vret {h : mH} (hd : decode M.2.1 pc = .ok (.return_, 1)) (hr : M.2.2.2.1 = none) (hc : c0 ≤ c) (hk : k0 ≤ k) (hz : Z (.inl none) h) : J Ω M d c k Z pc ls [] h c0 k0 := by
  intro p e s m args below meth cd H locs la X w hS hl
  refine vx_ret (W.widen hc hk ?_)
  exact W.vret X.1 X.2.1 (by rw [X.2.2.2.1]; exact hr) (mQr_of (m := m) (meth := meth) (cd := cd) (p := p) w hS hz) hS.2.2 hd X.2.2.2.2.1
/-- Object's own constructor -/
theorem j_objInit {i : Nat} {a : Nat} {h : mH} (hw : Cond.methodLink M.1.cls i Lib.objectInit ∈ WSg) (hw2 : Cond.instanceMethod Lib.objectInit ∈ WSg) (hw3 : Cond.code Lib.objectInit ⟨#[0xb1]⟩ 1 none ∈ WSg) (hd : decode M.2.1 pc = .ok (.invokespecial i, 3)) (hn : pc + 3 = pc') (hdd : 1 ≤ d) (hst : ((st.map (cv Ω)).map fun v => v.category).sum ≤ 8)
    (kk : J Ω M d c k Z pc' ls st h c0 k0) : J Ω M d c k Z pc ls (mR a :: st) h c0 k0 := by
  intro p e s m args below meth cd H locs la X w hS hl
  subst hn
  refine W.objInit X.1 X.2.1 X.2.2.2.2.2.1 (X.2.2.2.2.2.2.1 _ hw) (X.2.2.2.2.2.2.1 _ hw2) (X.2.2.2.2.2.2.1 _ hw3) rfl (by rw [X.2.2.1]; exact hl.1) rfl hd hdd ?_ (kk p e s m args below meth cd H locs la X w hS hl)
  have h1 := lv_room (m := m) (pc := pc) (ls := la) (rest := (mR a :: st).map (cv Ω)) hst
  show _ + 12 ≤ 64 * d
  have h2 : 64 ≤ 64 * d := by omega
  exact Nat.le_trans (Nat.add_le_add_right h1 12) (by omega)
/-- the contract out of the body -/
def els (n : Nat) (as : List mV) : List (Option mV) := as.map some ++ List.replicate (n - as.length) none
theorem els_has {as : List mV} {n : Nat} (h1 : as.all c1 = true) (hn : as.length ≤ n) : lv_has ((lg_sl (as.map (cv Ω)) ++ List.replicate (n - (lg_sl (as.map (cv Ω))).length) Slot.unset).toArray) n (lvs Ω (els n as)) := by
  have hlen : ∀ (l : List mV), l.all c1 = true → lg_sl (l.map (cv Ω)) = l.map (fun v => Slot.val (cv Ω v)) := by
    intro l
    induction l with
    | nil => intro _; rfl
    | cons v l ih =>
      intro h
      rw [List.all_cons, Bool.and_eq_true] at h
      have h2 := cv_cat (Ω := Ω) h.1
      show lg_sl (cv Ω v :: l.map (cv Ω)) = _
      unfold lg_sl
      simp [h2]
      exact ih h.2
  have hL := hlen as h1
  have hE := lv_entry (as.map (cv Ω)) (n := n) (by rw [hL, List.length_map]; exact hn)
  refine ⟨hE.1, hE.2.1, fun q hq => ?_⟩
  obtain ⟨v, h2, h3, h4⟩ := lvs_mem.mp hq
  rw [hL]
  rw [List.getElem?_toArray]
  unfold els at h2
  by_cases hi : q.1 < as.length
  · rw [List.getElem?_append_left (by simpa using hi), List.getElem?_map] at h2
    rw [List.getElem?_append_left (by simpa using hi), List.getElem?_map]
    cases ha : as[q.1]? with
    | none => rw [ha] at h2; cases h2
    | some x =>
      rw [ha] at h2
      simp only [Option.map_some, Option.some.injEq] at h2
      subst h2
      rw [h4]
      rfl
  · rw [List.getElem?_append_right (by simpa using hi), List.getElem?_replicate] at h2
    split at h2 <;> cases h2
theorem CM.intro {as : List mV} {h : mH} (hp : plainName M.1.cls = true) (ht : M.2.2.2.2 = []) (h1 : as.all c1 = true) (hn : as.length ≤ M.2.2.1) (hJ : ∀ Ω : mO, J Ω M d c k Z 0 (els M.2.2.1 as) [] h 0 0) : CM d c k M as h Z := by
  intro Ω hst
  refine vx_ofW (cc := M.2.1) (maxL := M.2.2.1) (ret := M.2.2.2.1) (ws' := WSg) hp (by unfold mWs mWord; rw [ht]) ?_
  intro p e s m args below meth cd s₁ B hml htb hv
  obtain ⟨rfl, hW, hX⟩ := hv
  have hts := atoms_spec (ws := mWs M) B.pre
  have hnm : meth.name = M.1.name := (name_of_methodNamed B.named B.method).1
  have hS : va_S (oA Ω) s.heap s.heap [] := va_S.rf
  have hl := els_has (Ω := Ω) (n := M.2.2.1) h1 hn
  rw [lg_entry_eq]
  refine hJ Ω p e s m _ below meth cd s.heap [] _ ⟨B.exec, B.bytes, hml, B.returns, B.notSynchronized, findClass_of_methodNamed B.named, fun w hw => hts w (List.mem_cons_of_mem _ hw), hnm, ?_, hst, Nat.le_trans (Nat.le_add_right _ _) hW.2.2.1, hX⟩ hW hS hl
  rw [ht]
  have : cd.exceptionTable.toList = [] := List.eq_nil_iff_forall_not_mem.mpr htb
  rw [this]
  rfl
end MJ6
