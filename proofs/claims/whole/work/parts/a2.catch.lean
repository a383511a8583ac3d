/-! CATCHING: a call inside a row of the method's own table -/
section MJ7c
variable {Ω : mO} {M M' : mM} {d d' c k c' k' : Nat} {Z Z' : mZ} {pc pc' : Nat} {ls : List (Option mV)} {st rest : List mV} {sk : List mC} {D : mD} {g : Bool} {c0 k0 : Nat} {h : mH}
/-- a row of the method's table takes exception i at pc; hp its handler, which puts it into the local sl and goes on at nx -/
def Ct2 (M : mM) (pc i hp sl nx : Nat) : Prop := ∃ (pre suf : List (Nat × Nat × Nat × Nat)) (x : Nat × Nat × Nat × Nat), M.2.2.2.2 = pre ++ x :: suf ∧ x.2.2.1 = hp ∧ x.1 ≤ pc ∧ pc < x.2.1 ∧ x.2.2.2 ≠ 0 ∧ i < 5 ∧
  Cond.classLink M.1.cls x.2.2.2 (xn i) ∈ WSg ∧ (∀ z ∈ pre, z.2.2.2 ≠ 0 ∧ ∃ j, j < 5 ∧ i ≠ j ∧ Cond.classLink M.1.cls z.2.2.2 (xn j) ∈ WSg) ∧ ((∃ q : Fin 4, (q : Nat) = sl ∧ decode M.2.1 hp = .ok (.astore_n q, 1) ∧ nx = hp + 1) ∨ (decode M.2.1 hp = .ok (.astore sl, 2) ∧ nx = hp + 2)) ∧ sl < M.2.2.1
theorem j_afterT2 {p : Program} {e : Env} {s : State} {m : MethodId} {args : Array Value} {below : List Frame} {meth : Method} {cd : Code} {H : Heap} {locs : List Loc} {la : Array Slot} {as : Array Value} {stk : List Value}
    (X : Cx Ω M p s m args meth cd) (hS : va_S (oA Ω) s.heap H locs) (hl : lv_has la M.2.2.1 (lvs Ω ls))
    (hr : vx_Run p (oL Ω) e (rm d c k) s m args below meth cd H locs c0 k0 c' k' (F0 m pc la stk) (rest.map (cv Ω)) (mQr Ω Z' as) (mQx Ω Z') (oA Ω))
    (kk : ∀ v h', Z' (.inl v) h' → J Ω M d c k Z (pc + 3) ls (v.toList ++ rest) h' (c0 + c') (k0 + k'))
    (kx : ∀ i h', Z' (.inr i) h' → ∃ hp sl nx, Ct2 M pc i hp sl nx ∧ J Ω M d c k Z nx (ls.set sl none) [] h' (c0 + c') (k0 + k')) : W p (oL Ω) e (rm d c k) s m args below meth cd H locs c0 k0 (vx_MQ below (mQr Ω Z) (mQx Ω Z) args s c k (oA Ω)) (F0 m pc la stk) := by
  intro T hT XT
  rcases hr T hT XT with ⟨v, st₀, t, T', L, h0, X', hL, e1, e2, ⟨v', h', hv, hz, hw, hF⟩, hg⟩ | ⟨q, st₀, t, T', L, E, ce, h0, X', hL, e1, e2, ⟨i, h', hE, hz, hw, hF⟩, hq, hcv, hfc, hg⟩
  · have hv' : v = v'.map (cv Ω) := by injection hv
    have hS' : va_S (oA Ω) s.heap T'.heap (locs ++ L) := by
      refine ⟨Nat.le_trans hS.1 (by rw [e1]; have := hF.1; rw [h0] at this; exact this), fun q h1 h2 => ?_, fun l hl => ?_⟩
      · rw [e1, ← hS.2.1 q h1 h2]
        have := hF.2 q (by rw [h0]; exact Nat.lt_of_lt_of_le h1 hS.1) h2
        rw [h0] at this
        exact this
      · rcases List.mem_append.mp hl with h1 | h1
        · exact hS.2.2 l h1
        · exact hL l h1
    have hw' : WH Ω h' s T'.heap := by
      rw [e1]
      refine hw.moved ?_
      rw [← e2]
      exact X'.warmed.alike.symm
    have K := kk v' h' hz p e s m args below meth cd T'.heap (locs ++ L) la X hw' hS' hl
    obtain ⟨t2, a1, b1⟩ := K T' rfl X'
    refine ⟨t2, hg t2 ?_, b1⟩
    have : (F0 m (pc + 3) la ((v'.toList ++ rest).map (cv Ω))) = { (F0 m pc la stk) with pc := (F0 m pc la stk).pc + 3, stack := v.toList ++ rest.map (cv Ω) } := by
      rw [hv', List.map_append]
      cases v' <;> rfl
    rw [← this]
    exact a1
  · have hS' : va_S (oA Ω) s.heap T'.heap (locs ++ L) := by
      refine ⟨Nat.le_trans hS.1 (by rw [e1]; have := hF.1; rw [h0] at this; exact this), fun q h1 h2 => ?_, fun l hl => ?_⟩
      · rw [e1, ← hS.2.1 q h1 h2]
        have := hF.2 q (by rw [h0]; exact Nat.lt_of_lt_of_le h1 hS.1) h2
        rw [h0] at this
        exact this
      · rcases List.mem_append.mp hl with h1 | h1
        · exact hS.2.2 l h1
        · exact hL l h1
    have hw' : WH Ω h' s T'.heap := by
      rw [e1]
      refine hw.moved ?_
      rw [← e2]
      exact X'.warmed.alike.symm
    obtain ⟨hp, sl, nx, ⟨pre, suf, x, t1, t2, t3, t4, t5, t6, t7, t8, t9, t10⟩, K⟩ := kx i h' hz
    have wrd := X.2.2.2.2.2.2.1
    have hXN : XN s := X.2.2.2.2.2.2.2.2.2.2.2.2.2.1.2.2
    have hx : vx_W p (oL Ω) e (rm d c k) s m args below meth cd T'.heap (locs ++ L) (c0 + c') (k0 + k') (vx_MQ below (mQr Ω Z) (mQx Ω Z) args s c k (oA Ω)) (F0 m pc la (rest.map (cv Ω))) q := by
      refine vx_catch (own := M.1.cls) (name := xn i) (E := E) (ce := ce) X.2.2.2.2.2.1 (tableOf pre) ⟨x.1, x.2.1, x.2.2.1, x.2.2.2⟩ (tableOf suf) (by rw [X.2.2.2.2.2.2.2.2.1, t1]; unfold tableOf; rw [List.map_append, List.map_cons]) (fun z hz => ?_) ?_ t5 (wrd _ t7) ?_ (by rw [e1]; exact hq) hcv hfc ?_
      · obtain ⟨z', hz', rfl⟩ := List.mem_map.mp hz
        obtain ⟨a1, j, a2, a3, a4⟩ := t8 z' hz'
        exact Or.inr ⟨a1, xn j, wrd _ a4, by rw [← hE]; exact hXN.2.2 i j t6 a2 a3⟩
      · unfold covers
        simp [t3, t4]
      · rw [← hE]
        exact hXN.2.1 _ (xn_cas i t6)
      · rw [t2]
        rcases t9 with ⟨qq, hqq, t9, rfl⟩ | ⟨t9, rfl⟩
        · subst hqq
          exact lv_astore_n X.1 X.2.1 t9 rfl hl t10 rfl (fun la' hl' => K p e s m args below meth cd T'.heap (locs ++ L) la' X hw' hS' (lv_less hl' (fun q hq => lvs_none hq)))
        · exact lv_astore X.1 X.2.1 t9 hl t10 rfl (fun la' hl' => K p e s m args below meth cd T'.heap (locs ++ L) la' X hw' hS' (lv_less hl' (fun q hq => lvs_none hq)))
    obtain ⟨t2', a1, b1⟩ := hx T' rfl X'
    exact ⟨t2', hg.trans a1, b1⟩
end MJ7c
/-! CATCHING: a call of a method of the class, its exceptions caught here -/
section MJ7d
variable {Ω : mO} {M M' : mM} {d d' c k c' k' : Nat} {Z Z' : mZ} {pc pc' : Nat} {ls : List (Option mV)} {st rest : List mV} {sk : List mC} {D : mD} {g : Bool} {c0 k0 : Nat} {h : mH}
theorem j_callVT2 {i n a ci : Nat} {rs : List (Option Nat)} {C : String} {T : u_T} {N nn : Nat} {ty : Nat → FieldType} {as : List mV} (hM : CM d' c' k' M' (mR a :: as) (sk, D, g) Z') (w : Cw M.1.cls M' i n) (K : Kc ci C T N ty) (hi : Cond.instanceMethod M'.1 ∈ WSg) (hs : Cond.selects C M'.1 M'.1 ∈ WSg)
    (hd : decode M.2.1 pc = .ok (.invokevirtual i, 3)) (hn : pc + 3 = pc') (hdd : d' + 1 ≤ d) (hlen : as.length = n) (ha : a < 1000000) (hk : sk[a]? = some (ci, nn, rs)) (hst : st = as.reverse ++ mR a :: rest) (hrs : ((rest.map (cv Ω)).map fun v => v.category).sum ≤ 8) (hcc : c0 + c' ≤ c) (hkk : k0 + k' ≤ k)
    (kk : ∀ v h', Z' (.inl v) h' → J Ω M d c k Z pc' ls (v.toList ++ rest) h' (c0 + c') (k0 + k')) (kx : ∀ i h', Z' (.inr i) h' → ∃ hp sl nx, Ct2 M pc i hp sl nx ∧ J Ω M d c k Z nx (ls.set sl none) [] h' (c0 + c') (k0 + k')) : J Ω M d c k Z pc ls st (sk, D, g) c0 k0 := by
  intro p e s m args below meth cd H locs la X w0 hS hl
  subst hn; subst hst
  have he : (cw Ω (sk, D, g))[a]? = some (oB Ω + a, .inr (ci, cf Ω rs nn (D a))) := by rw [cw_at (h := (sk, D, g)) hk, ce_obj _ K.2.2.2.2]
  have hca : cv Ω (mR a) = .ref (oB Ω + a) := by show Value.ref _ = _; rw [ca_lo ha]
  have hpre := mPc_at (as := mR a :: as) w0 X.2.2.2.2.2.2.2.2.2.2.2 hS
  rw [List.map_cons, hca] at hpre
  refine j_afterT2 X hS hl (vx_runV (As := as.map (cv Ω)) (rest := rest.map (cv Ω)) (b := oB Ω + a) (C := C) (nL := M.2.2.1) ⟨X.1, X.2.1, X.2.2.1, X.2.2.2.2.2.1, X.2.2.2.2.2.2.1⟩ (hM Ω X.2.2.2.2.2.2.2.2.2.1) ⟨w.B X.2.2.2.2.2.2.1 hdd, X.2.2.2.2.2.2.1 _ hi, X.2.2.2.2.2.2.1 _ hs⟩ ⟨mPc_blind, va_recv w0.2.1 w0.1 K.1 he, hpre⟩ rfl (by rw [List.length_map]; exact hlen) hl.1 ?_ (lv_room hrs) hd ⟨hcc, hkk⟩) kk kx
  show ((as.reverse ++ mR a :: rest).map (cv Ω)) = _
  rw [List.map_append, List.map_reverse, List.map_cons, hca]
end MJ7d
section MJ7e
variable {Ω : mO} {M M' : mM} {d d' c k c' k' : Nat} {Z Z' : mZ} {pc pc' : Nat} {ls : List (Option mV)} {st rest : List mV} {sk : List mC} {D D1 : mD} {g : Bool} {c0 k0 : Nat} {h : mH}
theorem CM.introT {as : List mV} {q : Nat × Nat × Nat × Nat} {hh : List (Nat × Nat × Nat × Nat)} (hp : plainName M.1.cls = true) (ht : M.2.2.2.2 = q :: hh) (h1 : as.all c1 = true) (hn : as.length ≤ M.2.2.1) (hJ : ∀ Ω : mO, J Ω M d c k Z 0 (els M.2.2.1 as) [] h 0 0) : CM d c k M as h Z := by
  intro Ω hst
  have ew : mWs M = Cond.codeWith M.1 M.2.1 M.2.2.1 M.2.2.2.1 M.2.2.2.2 :: WSg := by unfold mWs mWord; rw [ht]
  refine vx_ofWH (cc := M.2.1) (maxL := M.2.2.1) (ret := M.2.2.2.1) (hh := M.2.2.2.2) (ws' := WSg) hp ew ?_
  intro p e s m args below meth cd s₁ B hml hv
  obtain ⟨rfl, hW, hX⟩ := hv
  have hts := atoms_spec (ws := mWs M) B.pre
  have hnm : meth.name = M.1.name := (name_of_methodNamed B.named B.method).1
  have hS : va_S (oA Ω) s.heap s.heap [] := va_S.rf
  have hl := els_has (Ω := Ω) (n := M.2.2.1) h1 hn
  rw [lg_entry_eq]
  refine hJ Ω p e s m _ below meth cd s.heap [] _ ⟨B.exec, B.bytes, hml, B.returns, B.notSynchronized, findClass_of_methodNamed B.named, fun w hw => hts w (List.mem_cons_of_mem _ hw), hnm, ?_, hst, Nat.le_trans (Nat.le_add_right _ _) hW.2.2.1, hX⟩ hW hS hl
  exact vx_table (x := M.1) B (hts _ (by rw [ew]; exact List.mem_cons_self))
/-- the words of a static call of a method with a table -/
def CwX (own : String) (M' : mM) (i n : Nat) : Prop := Cond.methodLink own i M'.1 ∈ WSg ∧ mWord M' ∈ WSg ∧ Cond.initialized M'.1.cls ∈ WSg ∧ Cond.static M'.1 ∈ WSg ∧ (M'.1.cls ≠ "java/lang/invoke/MethodHandle" ∧ M'.1.cls ≠ "java/lang/invoke/VarHandle") ∧ (parseMethodDescriptor M'.1.desc).map (fun q => q.parameters.length) = some n ∧ (∃ q hh, M'.2.2.2.2 = q :: hh) ∧ M'.2.2.1 ≤ 45
theorem j_callSX {i n : Nat} {as : List mV} {v : Int} (hM : CM d' c' k' M' as (SK, D, false) (rI v D1)) (w : CwX M.1.cls M' i n)
    (hd : decode M.2.1 pc = .ok (.invokestatic i, 3)) (hn : pc + 3 = pc') (hdd : d' + 1 ≤ d) (hlen : as.length = n) (ht : M.2.2.2.2 = []) (hst : as.reverse ++ rest = st) (hrs : (rest.all c1 && Nat.ble rest.length 8) = true) (hcc : c0 + c' ≤ c) (hkk : k0 + k' ≤ k)
    (kk : J Ω M d c k Z pc' ls (mI v :: rest) (SK, D1, false) (c0 + c') (k0 + k')) : J Ω M d c k Z pc ls st (SK, D, false) c0 k0 := by
  intro p e s m args below meth cd H locs la X w0 hS hl
  subst hn; subst hst
  obtain ⟨w1, w2, w3, w4, w5, w6, ⟨q, hh, w7⟩, w8⟩ := w
  have hts := X.2.2.2.2.2.2.1
  have ew : mWord M' = Cond.codeWith M'.1 M'.2.1 M'.2.2.1 M'.2.2.2.1 M'.2.2.2.2 := by unfold mWord; rw [w7]
  have hpre := mPc_at (as := as) w0 X.2.2.2.2.2.2.2.2.2.2.2 hS
  have cw : vx_CSW (rm d c k) s args M.1.cls i M'.1 M'.2.1 M'.2.2.1 M'.2.2.2.1 M'.2.2.2.2 (mWs M') (rm d' c' k') c' k' n := by
    refine ⟨⟨rfl, rfl, hdd, ?_, ?_, ?_⟩, ?_, hts _ w3, w5, fun sig hs => ?_, hts _ w1, hts _ w4⟩
    · show 8 + (M'.2.2.1 + 11) + 64 * d' ≤ 64 * d
      omega
    · intro w hw a' U hW
      rcases List.mem_cons.mp hw with rfl | hw
      · exact word_at hW (good_of_word (WSg_good w2)) (hts _ w2)
      · exact word_at hW (good_of_word (WSg_good hw)) (hts _ hw)
    · rw [← ew]; exact List.mem_cons_self
    · rw [← ew]; exact hts _ w2
    · rw [hs] at w6
      exact (Option.some.inj w6).symm
  refine j_after X hS hl ht hcc hkk (vx_runSX (As := as.map (cv Ω)) (rest := rest.map (cv Ω)) (nL := M.2.2.1) ⟨X.1, X.2.1, X.2.2.1, X.2.2.2.2.2.1, hts⟩ (hM Ω X.2.2.2.2.2.2.2.2.2.1) cw ⟨mPc_blind, hpre⟩ rfl (by rw [List.length_map]; exact hlen) hl.1 ?_ (lv_room (hrs_of hrs)) hd ⟨hcc, hkk⟩) (fun v' h' hz => by obtain ⟨e1, e2⟩ := hz; cases e1; cases e2; exact kk) (fun i h' hz => by cases hz.1)
  show ((as.reverse ++ rest).map (cv Ω)) = _
  rw [List.map_append, List.map_reverse]
/-! the law's own steps -/
theorem j_i2lw {a : Int} (hd : decode M.2.1 pc = .ok (.i2l, 1)) (hn : pc + 1 = pc') (kk : J Ω M d c k Z pc' ls (mL (wr a) :: st) h c0 k0) : J Ω M d c k Z pc ls (mI a :: st) h c0 k0 := by
  intro p e s m args below meth cd H locs la C w hS hl
  subst hn
  exact lv_i2l C.1 C.2.1 hd (by apply Int64.toInt_inj.mp; rw [Int32.toInt_toInt64]; exact (tl (itR (Int32.ofInt a))).symm) (kk p e s m args below meth cd H locs la C w hS hl)
theorem j_icmp_same {a : Int} {off : Int} {tgt : Nat} (hd : decode M.2.1 pc = .ok (.if_icmp .eq off, 3)) (ht : (pc : Int) + off = (tgt : Int)) (kt : J Ω M d c k Z tgt ls st h c0 k0) : J Ω M d c k Z pc ls (mI a :: mI a :: st) h c0 k0 := by
  intro p e s m args below meth cd H locs la C w hS hl
  exact lv_icmp_eq C.1 C.2.1 hd ht (fun _ => kt p e s m args below meth cd H locs la C w hS hl) (fun q => absurd rfl q)
theorem bCmp_same (a : Int) : bCmp a a = 0 := by
  unfold bCmp lg_cmp
  simp
theorem j_sld {i : Int} (hd : decode M.2.1 pc = .ok (.iaload, 1)) (hn : pc + 1 = pc') (h0 : 0 ≤ i) (h1 : i < oPn Ω) (hm : oPn Ω ≤ 3072) (kk : J Ω M d c k Z pc' ls (mI (oPx Ω i.toNat).toInt :: st) h c0 k0) : J Ω M d c k Z pc ls (mI i :: mR 2000000 :: st) h c0 k0 := by
  intro p e s m args below meth cd H locs la C w hS hl
  subst hn
  have q := kk p e s m args below meth cd H locs la C w hS hl
  have hX := C.2.2.2.2.2.2.2.2.2.2.2.2.2.2.2.2
  have hbl : oS Ω 1000000 < s.heap.size := by
    obtain ⟨scr, z, -⟩ := hX.2
    exact (Array.getElem?_eq_some_iff.mp z).1
  refine va_sld C.1 C.2.1 hX.2 hbl (Nat.not_le.mpr hX.1) hS (ti_in h0 h1 (by omega)) hd ?_
  rw [ti_cl ⟨by omega, by omega⟩]
  rw [List.map_cons, show cv Ω (mI (oPx Ω i.toNat).toInt) = .int (oPx Ω i.toNat) by show Value.int _ = _; rw [it]] at q
  exact q
theorem j_slen (hd : decode M.2.1 pc = .ok (.arraylength, 1)) (hn : pc + 1 = pc') (kk : J Ω M d c k Z pc' ls (mI (oPn Ω : Int) :: st) h c0 k0) : J Ω M d c k Z pc ls (mR 2000000 :: st) h c0 k0 := by
  intro p e s m args below meth cd H locs la C w hS hl
  subst hn
  have q := kk p e s m args below meth cd H locs la C w hS hl
  have hX := C.2.2.2.2.2.2.2.2.2.2.2.2.2.2.2.2
  have hbl : oS Ω 1000000 < s.heap.size := by
    obtain ⟨scr, z, -⟩ := hX.2
    exact (Array.getElem?_eq_some_iff.mp z).1
  refine va_slen C.1 C.2.1 hX.2 hbl (Nat.not_le.mpr hX.1) hS hd ?_
  rw [List.map_cons, show cv Ω (mI (oPn Ω : Int)) = .int (Int32.ofNat (oPn Ω)) by show Value.int _ = _; rw [Int32.ofInt_eq_ofNat]] at q
  exact q
end MJ7e
/-! what a wrapper leaves in the row of one long -/
def wg (E : mD) (r : Int ⊕ Nat) : Int → Int := match r with
  | .inl v => sI (E 148) 0 (wr v)
  | .inr _ => E 148
def wgB (E : mD) (r : Int ⊕ Nat) : Int → Int := match r with
  | .inl v => sI (E 148) 0 (if wr v = 0 then 0 else 1)
  | .inr _ => E 148
theorem oD_self (E : mD) : oD E (E 148) = E := sA_same E 148
theorem wg_x (E : mD) (i : Nat) : oD E (wg E (.inr i)) = E := oD_self E
theorem wgB_x (E : mD) (i : Nat) : oD E (wgB E (.inr i)) = E := oD_self E
theorem wgB_t {E : mD} {v : Int} (b : wr v = 0) : wgB E (.inl v) = sI (E 148) 0 0 := by
  show sI (E 148) 0 (if wr v = 0 then 0 else 1) = _
  rw [if_pos b]
theorem wgB_f {E : mD} {v : Int} (b : ¬ wr v = 0) : wgB E (.inl v) = sI (E 148) 0 1 := by
  show sI (E 148) 0 (if wr v = 0 then 0 else 1) = _
  rw [if_neg b]
theorem wg_g {E : mD} {r : Int ⊕ Nat} : ∀ x, r = .inl x → wg E r 0 = wr x := by
  rintro x rfl
  exact sI_eq _ _ _
theorem wgB_g {E : mD} {r : Int ⊕ Nat} : ∀ x, r = .inl x → wgB E r 0 = if wr x = 0 then 0 else 1 := by
  rintro x rfl
  exact sI_eq _ _ _
