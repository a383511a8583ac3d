/-! THE STEPS over the heap: fields, arrays, ends, calls -/
section MJ3
variable {Ω : mO} {M : mM} {d c k : Nat} {Z : mZ} {pc pc' : Nat} {ls : List (Option mV)} {st : List mV} {sk : List mC} {D : mD} {g : Bool} {c0 k0 : Nat}
/-- what is known of a class -/
def Kc (ci : Nat) (C : String) (T : u_T) (N : Nat) (ty : Nat → FieldType) : Prop :=
  mCl[ci]? = some (C, T, N) ∧ (∀ w ∈ u_ws C T N, w ∈ WSg) ∧ (∀ k, k < N → parseFieldDescriptor (T k).2.2.1 = some (ty k)) ∧ (∀ a, a < N → ∀ b, b < N → a ≠ b → (T a).2.1 ≠ (T b).2.1) ∧ ci < 20
theorem ca_lo {a : Nat} (h : a < 1000000) : ca Ω a = oB Ω + a := by unfold ca; rw [if_pos h]
theorem ce_obj {cc : mC} (f : Int → Int) (h : cc.1 < 20) : ce Ω cc f = .inr (cc.1, cf Ω cc.2.2 cc.2.1 f) := by
  unfold ce
  rw [if_neg (by omega), if_neg (by omega), if_neg (by omega), if_neg (by omega)]
theorem cf_at {rs : List (Option Nat)} {n j : Nat} {f : Int → Int} (h : j < n) : (cf Ω rs n f)[j]? = some (cs Ω (rs.getD j none) (f (j : Int))) := by
  unfold cf
  rw [List.getElem?_map, List.getElem?_range h]
  rfl
theorem cf_len (rs : List (Option Nat)) (n : Nat) (f : Int → Int) : (cf Ω rs n f).length = n := by unfold cf; simp
theorem cf_putI {rs : List (Option Nat)} {n j : Nat} {f : Int → Int} {z : Int} (hj : j < n) (hr : rs.getD j none = none) : (cf Ω rs n f).set j (.int (Int32.ofInt z)) = cf Ω rs n (sI f j z) := by
  apply List.ext_getElem?
  intro i
  rw [List.getElem?_set, cf_len]
  by_cases hi : i < n
  · rw [cf_at hi, cf_at hi]
    by_cases e : j = i
    · subst e
      rw [if_pos rfl, if_pos hj, hr]
      simp [cs, sI]
    · rw [if_neg e]
      have e' : ¬ (i : Int) = (j : Int) := by omega
      simp [sI, e']
  · have h1 : (cf Ω rs n f)[i]? = none := List.getElem?_eq_none (by rw [cf_len]; omega)
    have h2 : (cf Ω rs n (sI f j z))[i]? = none := List.getElem?_eq_none (by rw [cf_len]; omega)
    rw [h1, h2]
    have e : ¬ j = i := by omega
    rw [if_neg e]
theorem cf_putR {rs : List (Option Nat)} {n j : Nat} {f : Int → Int} {r : Nat} (hj : j < n) (hl : j < rs.length) : (cf Ω rs n f).set j (.ref (oB Ω + r)) = cf Ω (rs.set j (some (r + 1))) n f := by
  apply List.ext_getElem?
  intro i
  rw [List.getElem?_set, cf_len]
  by_cases hi : i < n
  · rw [cf_at hi, cf_at hi, List.getD_eq_getElem?_getD (l := rs.set j (some (r + 1))), List.getElem?_set]
    by_cases e : j = i
    · subst e
      rw [if_pos rfl, if_pos hj, if_pos rfl, if_pos hl]
      simp [cs]
    · rw [if_neg e, if_neg e, List.getD_eq_getElem?_getD]
  · have h1 : (cf Ω rs n f)[i]? = none := List.getElem?_eq_none (by rw [cf_len]; omega)
    have h2 : (cf Ω (rs.set j (some (r + 1))) n f)[i]? = none := List.getElem?_eq_none (by rw [cf_len]; omega)
    rw [h1, h2]
    have e : ¬ j = i := by omega
    rw [if_neg e]
theorem WH.set {U : State} {H1 : Heap} {H : Heap} {a : Nat} {cc cc' : mC} {f : Int → Int} (w : WH Ω (sk, D, g) U H) (ha : sk[a]? = some cc) (hz : H1.size = H.size)
    (hP : va_P (oG Ω) mCl ((cw Ω (sk, D, g)).set a (oB Ω + a, ce Ω cc' f)) H1) : WH Ω (sk.set a cc', sA D a f, g) U H1 := by
  refine ⟨by rw [cw_set ha]; exact hP, w.2.1, ?_, fun hg => ?_⟩
  · show oB Ω + (sk.set a cc').length ≤ H1.size
    rw [List.length_set, hz]; exact w.2.2.1
  · show H1.size = oB Ω + (sk.set a cc').length
    rw [List.length_set, hz]; exact w.2.2.2 hg
/-- an int's field -/
theorem j_getI {a i sl ci n : Nat} {rs : List (Option Nat)} {C : String} {T : u_T} {N : Nat} {ty : Nat → FieldType} (K : Kc ci C T N ty) (hw : Cond.fieldLink M.1.cls i (T sl).1 (T sl).2.1 (T sl).2.2.1 ∈ WSg) (hs : sl < N)
    (hd : decode M.2.1 pc = .ok (.getfield i, 3)) (hn : pc + 3 = pc') (ha : a < 1000000) (hk : sk[a]? = some (ci, n, rs)) (hsn : sl < n) (hr : rs.getD sl none = none) {z : Int} (hz : D a (sl : Int) = z)
    (kk : J Ω M d c k Z pc' ls (mI z :: st) (sk, D, g) c0 k0) : J Ω M d c k Z pc ls (mR a :: st) (sk, D, g) c0 k0 := by
  intro p e s m args below meth cd H locs la X w hS hl
  subst hn; subst hz
  have q := kk p e s m args below meth cd H locs la X w hS hl
  have he : (cw Ω (sk, D, g))[a]? = some (oB Ω + a, .inr (ci, cf Ω rs n (D a))) := by rw [cw_at (h := (sk, D, g)) hk, ce_obj _ K.2.2.2.2]
  rw [List.map_cons, show cv Ω (mR a) = .ref (oB Ω + a) by show Value.ref _ = _; rw [ca_lo ha]]
  refine va_get X.1 X.2.1 X.2.2.2.2.2.2.1 K.2.1 X.2.2.2.2.2.1 w.2.1 w.1 a he K.1 sl hs (X.2.2.2.2.2.2.1 _ hw) (fun x hx => hx) (v := .int (Int32.ofInt (D a (sl : Int)))) ?_ hd q
  rw [cf_at hsn, hr]
  rfl
/-- a reference's field; 'hsm' for an inherited one -/
theorem j_getR {a i sl ci n r : Nat} {rs : List (Option Nat)} {C ref : String} {T : u_T} {N : Nat} {ty : Nat → FieldType} (K : Kc ci C T N ty) (hw : Cond.fieldLink M.1.cls i ref (T sl).2.1 (T sl).2.2.1 ∈ WSg) (hsm : ref = (T sl).1 ∨ Cond.sameField ref (T sl).1 (T sl).2.1 (T sl).2.2.1 ∈ WSg) (hs : sl < N)
    (hd : decode M.2.1 pc = .ok (.getfield i, 3)) (hn : pc + 3 = pc') (ha : a < 1000000) (hk : sk[a]? = some (ci, n, rs)) (hsn : sl < n) (hr : rs.getD sl none = some (r + 1)) (hr2 : r < 1000000)
    (kk : J Ω M d c k Z pc' ls (mR r :: st) (sk, D, g) c0 k0) : J Ω M d c k Z pc ls (mR a :: st) (sk, D, g) c0 k0 := by
  intro p e s m args below meth cd H locs la X w hS hl
  subst hn
  have q := kk p e s m args below meth cd H locs la X w hS hl
  have he : (cw Ω (sk, D, g))[a]? = some (oB Ω + a, .inr (ci, cf Ω rs n (D a))) := by rw [cw_at (h := (sk, D, g)) hk, ce_obj _ K.2.2.2.2]
  rw [List.map_cons, show cv Ω (mR a) = .ref (oB Ω + a) by show Value.ref _ = _; rw [ca_lo ha]]
  rw [List.map_cons, show cv Ω (mR r) = .ref (oB Ω + r) by show Value.ref _ = _; rw [ca_lo hr2]] at q
  refine va_get X.1 X.2.1 X.2.2.2.2.2.2.1 K.2.1 X.2.2.2.2.2.1 w.2.1 w.1 a he K.1 sl hs (X.2.2.2.2.2.2.1 _ hw) (fun x hx => ?_) (v := .ref (oB Ω + r)) ?_ hd q
  · rcases hsm with e | hsm
    · rw [e]; exact hx
    · exact u_same (X.2.2.2.2.2.2.1 _ hsm) x hx
  · rw [cf_at hsn, hr]
    rfl
end MJ3
section MJ4
variable {p : Program} {l : Launch} {e : Env} {R : Room} {s : State} {m : MethodId} {args : Array Value} {below : List Frame} {meth : Method} {c : Code} {H : Heap} {locs : List Loc} {cells slots : Nat} {Q : State → Prop}
variable {cc : ByteArray} {pc : Nat} {ls : Array Slot} {rest : List Value} {D : va_G} {cl : List vw_C} {A : Nat → Prop} {a : Nat} {tys : List (ClassId × FieldType)} {ws : va_W} {H0 : Heap}
/-- the kit's stores, that say too that the heap has not grown -/
theorem mz_put (hexec : p.tables.exec = Jvm.exec) (hb : c.code = cc) {own C : String} {T : u_T} {N ci index : Nat} {Ts : List Cond} (hts : ∀ w ∈ Ts, w.before args s = true) (hin : ∀ w ∈ u_ws C T N, w ∈ Ts) (ty0 : Nat → FieldType) (hty : ∀ k, k < N → parseFieldDescriptor (T k).2.2.1 = some (ty0 k)) (hnm : ∀ a, a < N → ∀ b, b < N → a ≠ b → (T a).2.1 ≠ (T b).2.1) (hown : s.vm.findClass own = some m.cls) (hK : va_K D cl tys s) (hP : va_P D cl ws H) (hD : va_D A ws) (hS0 : va_S A H0 H locs) (q0 : Nat) {fs : List Value} (he : ws[q0]? = some (a, .inr (ci, fs))) (hc : cl[ci]? = some (C, T, N)) (k : Nat) (hk : k < N) (hlink : (Cond.fieldLink own index (T k).1 (T k).2.1 (T k).2.2.1).before args s = true) (hfin : (T k).2.2.2 = false ∨ (T k).2.2.2 = true ∧ meth.name = "<init>" ∧ (T k).1 = own) {v : Value} (hn : narrow (ty0 k) v = v) (hfit : fits (ty0 k) v = true) (hl : k < fs.length)
    (hdg : decode cc pc = .ok (.putfield index, 3)) (kk : ∀ (H1 : Heap) (locs1 : List Loc), H1.size = H.size → va_P D cl (ws.set q0 (a, .inr (ci, fs.set k v))) H1 → va_S A H0 H1 locs1 → W p l e R s m args below meth c H1 locs1 cells slots Q (F0 m (pc + 3) ls rest)) : W p l e R s m args below meth c H locs cells slots Q (F0 m pc ls (v :: .ref a :: rest)) := by
  have hap := va_apart (own := own) hts hin ty0 hty hnm hK hc
  obtain ⟨r, h1, cell, q1, q2, q3, q4⟩ := hP q0 _ he
  have hr : r = (C, T, N) := Option.some.inj (h1.symm.trans hc)
  subst hr
  obtain ⟨hS, hfc, kC, hkC, hkind⟩ := hK.1 ci _ hc
  obtain ⟨cf, kf, fi, f, hi, hsl⟩ := hS k hk
  have hlay := hts _ (hin _ (u_in_lay hk))
  unfold u_lay at hlay
  have hst := (u_facts hfc hkC (u_lays hts hin hk) hi).1
  rcases hfin with hfin | ⟨hfin, hin2, hdecl⟩
  · rw [if_neg (by rw [hfin]; decide)] at hlay
    have h6 := u_store hfc hkC hkind hlay hi (hty k hk) hn hfit
    refine W.putK hexec hb (f := f) ⟨hown, hlink, ⟨_, _, _, hi⟩, hst⟩ (by rw [q2]; exact h6) q1 q3 (by rw [hsl]; exact k2_hasslot (q4 k hk)) rfl rfl hdg fun H' e1 e2 e3 => ?_
    rw [hsl] at e1 ⊢
    exact kk H' _ e2 (hP.set hD he ⟨_, hc, t_OB.to (V := updV (vp_V fs) k v) ⟨_, e1, q2, q3, t_set q4 hap hk v⟩ (fun j _ => vp_updV_set hl v j)⟩ e3) (hS0.put e2 e3 (hD.2 q0 _ he))
  · rw [if_pos hfin] at hlay
    have hcf : m.cls = cf := by
      obtain ⟨_, _, c', _, _, _, -, -, hf', -, -, -, hown2, -⟩ := Cond.laysFinal_spec hlay
      have e1 : c' = cf := by have := hi.symm.trans hf'; simp at this; exact this.1.symm
      rw [hdecl] at hown2
      rw [← e1]; exact Option.some.inj (hown.symm.trans hown2)
    have h6 := u_fits hfc hkC hkind (Or.inr hlay) hi (hty k hk) hn hfit
    refine W.putFinK hexec hb hown hlink hi hst hcf hin2 (by rw [q2]; exact h6) q1 q3 (by rw [hsl]; exact k2_hasslot (q4 k hk)) rfl rfl hdg fun H' e1 e2 e3 => ?_
    rw [hsl] at e1 ⊢
    exact kk H' _ e2 (hP.set hD he ⟨_, hc, t_OB.to (V := updV (vp_V fs) k v) ⟨_, e1, q2, q3, t_set q4 hap hk v⟩ (fun j _ => vp_updV_set hl v j)⟩ e3) (hS0.put e2 e3 (hD.2 q0 _ he))
theorem mz_iast (hexec : p.tables.exec = Jvm.exec) (hb : c.code = cc) (hK : va_K D cl tys s) (hP : va_P D cl ws H) (hD : va_D A ws) (hS : va_S A H0 H locs) (q0 t0 : Nat) {cA : ClassId} {n : Nat} {f : Nat → Int32} (ha : ws[q0]? = some (a, .inl (cA, n, .inl f))) (ht : tys[t0]? = some (cA, .int)) {i : Int32} {x : Int32} (hin : vp_in i n) (hdg : decode cc pc = .ok (.iastore, 1))
    (kk : ∀ (H1 : Heap) (locs1 : List Loc), H1.size = H.size → va_P D cl (ws.set q0 (a, .inl (cA, n, .inl (upd f i.toNatClampNeg x)))) H1 → va_S A H0 H1 locs1 → W p l e R s m args below meth c H1 locs1 cells slots Q (F0 m (pc + 1) ls rest)) : W p l e R s m args below meth c H locs cells slots Q (F0 m pc ls (.int x :: .int i :: .ref a :: rest)) := by
  refine W.iast hexec hb (hP q0 _ ha) ((hK.2 t0 _ ht).1 n (fun j => .int (f j))) (fun q => by cases q) (by show ¬ (i < 0 ∨ (arrV _ _ _).slots.size ≤ _); rw [arrV_size]; exact hin) rfl rfl hdg fun H1 e z oq => ?_
  refine kk H1 _ z (hP.set hD ha ?_ oq) (hS.put z oq (hD.2 q0 _ ha))
  show H1[a]? = some (vp_cell _ _)
  rw [e]
  rw [vp_cell_i, vp_cell_i, arrV_store]
  congr 2
  funext q
  by_cases hq : q = i.toNatClampNeg
  · subst hq
    simp [updV, upd]
  · simp [updV, upd, hq]
end MJ4
section MJ5
variable {Ω : mO} {M : mM} {d c k : Nat} {Z : mZ} {pc pc' : Nat} {ls : List (Option mV)} {st : List mV} {sk : List mC} {D : mD} {g : Bool} {c0 k0 : Nat}
theorem j_putI {a i sl ci n : Nat} {rs : List (Option Nat)} {C : String} {T : u_T} {N : Nat} {ty : Nat → FieldType} {z : Int} (K : Kc ci C T N ty) (hw : Cond.fieldLink M.1.cls i (T sl).1 (T sl).2.1 (T sl).2.2.1 ∈ WSg) (hs : sl < N) (hfin : (T sl).2.2.2 = false ∨ (T sl).2.2.2 = true ∧ M.1.name = "<init>" ∧ (T sl).1 = M.1.cls) (hty : ty sl = .int ∨ ty sl = .boolean ∧ (z = 0 ∨ z = 1))
    (hd : decode M.2.1 pc = .ok (.putfield i, 3)) (hn : pc + 3 = pc') (ha : a < 1000000) (hk : sk[a]? = some (ci, n, rs)) (hsn : sl < n) (hr : rs.getD sl none = none)
    (kk : J Ω M d c k Z pc' ls st (sk, sA D a (sI (D a) (sl : Int) z), g) c0 k0) : J Ω M d c k Z pc ls (mI z :: mR a :: st) (sk, D, g) c0 k0 := by
  intro p e s m args below meth cd H locs la X w hS hl
  subst hn
  have he : (cw Ω (sk, D, g))[a]? = some (oB Ω + a, .inr (ci, cf Ω rs n (D a))) := by rw [cw_at (h := (sk, D, g)) hk, ce_obj _ K.2.2.2.2]
  rw [List.map_cons, List.map_cons, show cv Ω (mR a) = .ref (oB Ω + a) by show Value.ref _ = _; rw [ca_lo ha]]
  have hnf : narrow (ty sl) (.int (Int32.ofInt z)) = .int (Int32.ofInt z) ∧ fits (ty sl) (.int (Int32.ofInt z)) = true := by
    rcases hty with h1 | ⟨h1, rfl | rfl⟩ <;> rw [h1] <;> exact ⟨rfl, rfl⟩
  refine mz_put X.1 X.2.1 X.2.2.2.2.2.2.1 K.2.1 ty K.2.2.1 K.2.2.2.1 X.2.2.2.2.2.1 w.2.1 w.1 (cw_D Ω _) hS a he K.1 sl hs (X.2.2.2.2.2.2.1 _ hw) (hfin.imp id (fun q => ⟨q.1, by rw [X.2.2.2.2.2.2.2.1]; exact q.2.1, q.2.2⟩)) hnf.1 hnf.2 (by rw [cf_len]; exact hsn) hd (fun H1 locs1 hz hP1 hS1 => ?_)
  refine kk p e s m args below meth cd H1 locs1 la X ?_ hS1 hl
  have hW := w.set (cc' := (ci, n, rs)) (f := sI (D a) (sl : Int) z) hk hz (by rw [ce_obj _ K.2.2.2.2, ← cf_putI hsn hr]; exact hP1)
  rw [set_self hk] at hW
  exact hW
theorem j_putR {a i sl ci n r : Nat} {rs : List (Option Nat)} {C : String} {T : u_T} {N : Nat} {ty : Nat → FieldType} (K : Kc ci C T N ty) (hw : Cond.fieldLink M.1.cls i (T sl).1 (T sl).2.1 (T sl).2.2.1 ∈ WSg) (hs : sl < N) (hfin : (T sl).2.2.2 = true ∧ M.1.name = "<init>" ∧ (T sl).1 = M.1.cls) (hty : (∃ q, ty sl = .object q) ∨ ∃ q, ty sl = .array q)
    (hd : decode M.2.1 pc = .ok (.putfield i, 3)) (hn : pc + 3 = pc') (ha : a < 1000000) (hk : sk[a]? = some (ci, n, rs)) (hsn : sl < n) (hrl : sl < rs.length) (hr2 : r < 1000000)
    (kk : J Ω M d c k Z pc' ls st (sk.set a (ci, n, rs.set sl (some (r + 1))), sA D a (D a), g) c0 k0) : J Ω M d c k Z pc ls (mR r :: mR a :: st) (sk, D, g) c0 k0 := by
  intro p e s m args below meth cd H locs la X w hS hl
  subst hn
  have he : (cw Ω (sk, D, g))[a]? = some (oB Ω + a, .inr (ci, cf Ω rs n (D a))) := by rw [cw_at (h := (sk, D, g)) hk, ce_obj _ K.2.2.2.2]
  rw [List.map_cons, List.map_cons, show cv Ω (mR a) = .ref (oB Ω + a) by show Value.ref _ = _; rw [ca_lo ha], show cv Ω (mR r) = .ref (oB Ω + r) by show Value.ref _ = _; rw [ca_lo hr2]]
  have hnf : narrow (ty sl) (.ref (oB Ω + r)) = .ref (oB Ω + r) ∧ fits (ty sl) (.ref (oB Ω + r)) = true := by
    rcases hty with ⟨q, h1⟩ | ⟨q, h1⟩ <;> rw [h1] <;> exact ⟨rfl, rfl⟩
  refine mz_put X.1 X.2.1 X.2.2.2.2.2.2.1 K.2.1 ty K.2.2.1 K.2.2.2.1 X.2.2.2.2.2.1 w.2.1 w.1 (cw_D Ω _) hS a he K.1 sl hs (X.2.2.2.2.2.2.1 _ hw) (Or.inr ⟨hfin.1, by rw [X.2.2.2.2.2.2.2.1]; exact hfin.2.1, hfin.2.2⟩) hnf.1 hnf.2 (by rw [cf_len]; exact hsn) hd (fun H1 locs1 hz hP1 hS1 => ?_)
  refine kk p e s m args below meth cd H1 locs1 la X ?_ hS1 hl
  exact w.set (cc' := (ci, n, rs.set sl (some (r + 1)))) (f := D a) hk hz (by rw [ce_obj _ K.2.2.2.2, ← cf_putR hsn hrl]; exact hP1)
theorem sI_32 {f : Int → Int} {i z : Int} {n : Nat} (h0 : 0 ≤ i) (h1 : i < n) (hn : n < 2147483648) : (fun j : Nat => Int32.ofInt (sI f i z (j : Int))) = upd (fun j : Nat => Int32.ofInt (f (j : Int))) (Int32.ofInt i).toNatClampNeg (Int32.ofInt z) := by
  funext j
  rw [ti_cl ⟨by omega, by omega⟩]
  by_cases e : j = i.toNat
  · have e' : (j : Int) = i := by omega
    simp [sI, upd, e, e', Int.toNat_of_nonneg h0]
  · have e' : ¬ (j : Int) = i := by omega
    simp [sI, upd, e, e']
theorem j_iald {a n : Nat} {rs : List (Option Nat)} {i z : Int} (hd : decode M.2.1 pc = .ok (.iaload, 1)) (hn : pc + 1 = pc') (ha : a < 1000000) (hk : sk[a]? = some (20, n, rs)) (hm : n < 2147483648) (h0 : 0 ≤ i) (h1 : i < n) (hz : D a i = z)
    (kk : J Ω M d c k Z pc' ls (mI z :: st) (sk, D, g) c0 k0) : J Ω M d c k Z pc ls (mI i :: mR a :: st) (sk, D, g) c0 k0 := by
  intro p e s m args below meth cd H locs la X w hS hl
  subst hn; subst hz
  have q := kk p e s m args below meth cd H locs la X w hS hl
  have he : (cw Ω (sk, D, g))[a]? = some (oB Ω + a, .inl (oI Ω, n, .inl (fun j : Nat => Int32.ofInt (D a (j : Int))))) := by rw [cw_at (h := (sk, D, g)) hk]; rfl
  rw [List.map_cons, List.map_cons, show cv Ω (mR a) = .ref (oB Ω + a) by show Value.ref _ = _; rw [ca_lo ha]]
  refine va_iald X.1 X.2.1 w.2.1 w.1 a 0 he rfl (ti_in h0 h1 hm) hd ?_
  rw [ti_cl ⟨by omega, by omega⟩, Int.toNat_of_nonneg h0]
  exact q
theorem j_bald {a n : Nat} {rs : List (Option Nat)} {i z : Int} (hd : decode M.2.1 pc = .ok (.baload, 1)) (hn : pc + 1 = pc') (ha : a < 1000000) (hk : sk[a]? = some (21, n, rs)) (hm : n < 2147483648) (h0 : 0 ≤ i) (h1 : i < n) (hz : D a i = z)
    (kk : J Ω M d c k Z pc' ls (mI z :: st) (sk, D, g) c0 k0) : J Ω M d c k Z pc ls (mI i :: mR a :: st) (sk, D, g) c0 k0 := by
  intro p e s m args below meth cd H locs la X w hS hl
  subst hn; subst hz
  have q := kk p e s m args below meth cd H locs la X w hS hl
  have he : (cw Ω (sk, D, g))[a]? = some (oB Ω + a, .inl (oY Ω, n, .inl (fun j : Nat => Int32.ofInt (D a (j : Int))))) := by rw [cw_at (h := (sk, D, g)) hk]; rfl
  rw [List.map_cons, List.map_cons, show cv Ω (mR a) = .ref (oB Ω + a) by show Value.ref _ = _; rw [ca_lo ha]]
  refine va_bald X.1 X.2.1 w.2.1 w.1 a 1 he rfl (ti_in h0 h1 hm) hd ?_
  rw [ti_cl ⟨by omega, by omega⟩, Int.toNat_of_nonneg h0]
  exact q
theorem j_lald {a n : Nat} {rs : List (Option Nat)} {i z : Int} (hd : decode M.2.1 pc = .ok (.laload, 1)) (hn : pc + 1 = pc') (ha : a < 1000000) (hk : sk[a]? = some (22, n, rs)) (hm : n < 2147483648) (h0 : 0 ≤ i) (h1 : i < n) (hz : D a i = z)
    (kk : J Ω M d c k Z pc' ls (mL z :: st) (sk, D, g) c0 k0) : J Ω M d c k Z pc ls (mI i :: mR a :: st) (sk, D, g) c0 k0 := by
  intro p e s m args below meth cd H locs la X w hS hl
  subst hn; subst hz
  have q := kk p e s m args below meth cd H locs la X w hS hl
  have he : (cw Ω (sk, D, g))[a]? = some (oB Ω + a, .inl (oJ Ω, n, .inr (.inl (fun j : Nat => Int64.ofInt (D a (j : Int)))))) := by rw [cw_at (h := (sk, D, g)) hk]; rfl
  rw [List.map_cons, List.map_cons, show cv Ω (mR a) = .ref (oB Ω + a) by show Value.ref _ = _; rw [ca_lo ha]]
  refine va_lald X.1 X.2.1 w.2.1 w.1 a 2 he rfl (ti_in h0 h1 hm) hd ?_
  rw [ti_cl ⟨by omega, by omega⟩, Int.toNat_of_nonneg h0]
  exact q
theorem j_iast {a n : Nat} {rs : List (Option Nat)} {i z : Int} (hd : decode M.2.1 pc = .ok (.iastore, 1)) (hn : pc + 1 = pc') (ha : a < 1000000) (hk : sk[a]? = some (20, n, rs)) (hm : n < 2147483648) (h0 : 0 ≤ i) (h1 : i < n)
    (kk : J Ω M d c k Z pc' ls st (sk, sA D a (sI (D a) i z), g) c0 k0) : J Ω M d c k Z pc ls (mI z :: mI i :: mR a :: st) (sk, D, g) c0 k0 := by
  intro p e s m args below meth cd H locs la X w hS hl
  subst hn
  have he : (cw Ω (sk, D, g))[a]? = some (oB Ω + a, .inl (oI Ω, n, .inl (fun j : Nat => Int32.ofInt (D a (j : Int))))) := by rw [cw_at (h := (sk, D, g)) hk]; rfl
  rw [List.map_cons, List.map_cons, List.map_cons, show cv Ω (mR a) = .ref (oB Ω + a) by show Value.ref _ = _; rw [ca_lo ha]]
  refine mz_iast X.1 X.2.1 w.2.1 w.1 (cw_D Ω _) hS a 0 he rfl (ti_in h0 h1 hm) hd (fun H1 locs1 hz hP1 hS1 => ?_)
  refine kk p e s m args below meth cd H1 locs1 la X ?_ hS1 hl
  have hW := w.set (cc' := (20, n, rs)) (f := sI (D a) i z) hk hz (by
    rw [show ce Ω (20, n, rs) (sI (D a) i z) = .inl (oI Ω, n, .inl (fun j : Nat => Int32.ofInt (sI (D a) i z (j : Int)))) from rfl, sI_32 h0 h1 hm]
    exact hP1)
  rw [set_self hk] at hW
  exact hW
end MJ5
