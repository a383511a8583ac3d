/-! the kit's rows of a throw with a text (EXCEPTIONS.to-paste: vx_throwS, vx_throwSW), turned to nsAtoms -/
section MK4
variable {p : Program} {l : Launch} {e : Env} {R : Room} {s : State} {m : MethodId} {args : Array Value} {below : List Frame} {meth : Method} {c : Code} {H : Heap} {locs : List Loc} {cells slots : Nat} {Qc : Array Value → State → Outcome → State → Prop} {XC : String → State → State → Prop} {free : Addr → Prop} {ls : Array Slot} {rest : List Value}
def vx_atNS (own : String) (ic : Nat) (X Y : String) (ix : Nat) (bytes : ByteArray) (names : List String) : List Cond := (nsAtoms own ic X Y ix bytes names).filter vx_no
set_option maxHeartbeats 4000000 in
theorem mz_throwN {cc : ByteArray} {pc : Nat} (hexec : p.tables.exec = Jvm.exec) (hb : c.code = cc) (hl : l.stackTraces = false) {own cls Y text : String} {ix : Nat} {bytes : ByteArray} {names : List String} {ik is ic mc ms sa : Nat} {A : Nat → Prop}
    (hown : s.vm.findClass own = some m.cls) (hcls : Bundle.fit cls = true) (hYf : Bundle.fit Y = true) (i0 : decode bytes 0 = .ok (.aload_n 0, 1)) (i1 : decode bytes 1 = .ok (.aload_n 1, 1)) (i2 : decode bytes 2 = .ok (.invokespecial ix, 3)) (i5 : decode bytes 5 = .ok (.return_, 1)) (hnames : ∀ n ∈ names, Bundle.fit n = true)
    (hk : (Cond.classLink own ik cls).before args s = true) (hini : (Cond.initialized cls).before args s = true) (hstr : vk_R own is text sa s) (hat : ∀ w ∈ vx_atNS own ic cls Y ix bytes names, w.before args s = true)
    (hgood : ∀ w ∈ Cond.classLink own ik cls :: Cond.initialized cls :: vx_atNS own ic cls Y ix bytes names, vx_ot w = true)
    (hU : vx_Zq Bundle.tN "UNASSIGNED_STACK" Bundle.steD A s s.heap) (hN : vx_Zq Bundle.tN "SUPPRESSED_SENTINEL" Bundle.listD A s s.heap) (hS : va_S A s.heap H locs) (hsize : ls.size = c.maxLocals)
    (d0 : decode cc pc = .ok (.new ik, 3)) (d3 : decode cc (pc + 3) = .ok (.dup, 1)) (d4 : decode cc (pc + 4) = .ok (.ldc is, 2)) (d6 : decode cc (pc + 6) = .ok (.invokespecial ic, 3)) (d9 : decode cc (pc + 9) = .ok (.athrow, 1))
    (hout : ∀ x ∈ c.exceptionTable.toList, covers x (pc + 9) = false)
    (hRframes : names.length + 4 < R.frames) (hRlocals : (rest.map fun v => v.category).sum + (13 * (names.length + 2) + 43) ≤ R.locals) (hRcells : cells + 1 ≤ R.cells) (hRslots : slots + 6 ≤ R.slots) (hlocks : meth.locks = false)
    (hx : ∀ t : State, s.vm.Alike t.vm → H.size ≤ t.heap.size → (∀ q : Nat, q < H.size → t.heap[q]? = H[q]?) → XC cls s t)
    (hf : ∀ z ∈ locs, free z.base) (hc : cells + 1 ≤ mc) (hs : slots + 6 ≤ ms) :
    W p l e R s m args below meth c H locs cells slots (vx_MQ below Qc XC args s mc ms free) (F0 m pc ls rest) := by
  intro T hT X
  have htr : e.platform.stackTraces = false := (show e.platform.stackTraces = l.stackTraces by rw [X.admits.platform]).trans hl
  have Y9 := vx_rebase X (R' := { frames := R.frames, locals := R.locals, cells := 1, slots := 6 }) (Nat.le_refl _) (Nat.le_refl _) hRcells hRslots
  obtain ⟨s', hA⟩ : ∃ z, z = (T.setVm s.vm).setFrames (.invoking m args :: below) := ⟨_, rfl⟩
  rw [← hA] at Y9
  have hvm : s'.vm = s.vm := by rw [hA]; rfl
  have hhp : s'.heap = H := by rw [hA]; exact hT
  have hW0 : s.WarmedH s'.vm := by rw [hvm]; exact State.WarmedH.refl s
  have hat' : ∀ w ∈ vx_atNS own ic cls Y ix bytes names, w.before args s' = true := fun w hw => vx_ot_at hW0 hvm.symm (hgood w (List.mem_cons_of_mem _ (List.mem_cons_of_mem _ hw))) (hat w hw)
  have hk' : (Cond.classLink own ik cls).before args s' = true := vx_ot_at hW0 hvm.symm (hgood _ List.mem_cons_self) hk
  have hini' : (Cond.initialized cls).before args s' = true := vx_ot_at hW0 hvm.symm (hgood _ (List.mem_cons_of_mem _ List.mem_cons_self)) hini
  have hU' : vx_Zq Bundle.tN "UNASSIGNED_STACK" Bundle.steD A s' s'.heap := by rw [hhp]; exact vx_Zq.moved hW0.alike (hU.kept hS.2.1)
  have hN' : vx_Zq Bundle.tN "SUPPRESSED_SENTINEL" Bundle.listD A s' s'.heap := by rw [hhp]; exact vx_Zq.moved hW0.alike (hN.kept hS.2.1)
  have h : ∀ w ∈ nsAtoms own ic cls Y ix bytes names, w.before args s' = true := vx_own hat' (vx_isRefq hU'.1) (vx_isRefq hN'.1) hU'.2.word hN'.2.word
  have hown' : s'.vm.findClass own = some m.cls := by rw [hvm]; exact hown
  have hins : (Cond.instantiable cls 6).before args s' = true := h _ (by simp [nsAtoms])
  obtain ⟨vm₁, cX, kX, hfX, hkX, -, -, X₁, st1⟩ := Y9.newCold hexec (own := own) (C := cls) (index := ik) (n := 6) hown' hk' hins hini'
    (g := F0 m pc ls rest) rfl (by rw [hb]; exact d0) (Nat.le_refl _) (Nat.le_refl _)
  generalize hT1 : (T.setVm vm₁).pushCell { cls := cX, slots := kX.instanceTypes.map defaultValue, vm := .none } = T1 at X₁ st1
  have hcat : (Value.ref T.heap.size).category = 1 := rfl
  have hcellA : T1.heap[T.heap.size]? = some (freshCell cX kX) := by rw [← hT1]; exact State.heap_pushCell_size _ _
  have d3' : decode c.code (pc + 3) = .ok (.dup, 1) := by rw [hb]; exact d3
  have d4' : decode c.code (pc + 4) = .ok (.ldc is, 2) := by rw [hb]; exact d4
  have hstr' : vk_R own is text sa s' := vk_R.warm hW0 hstr
  obtain ⟨U, hsteps, hrun, hend, hW, hsame, ce, hce, hO, hO2⟩ := mz_ctorThrow X₁ hexec htr (own := own) (cls := cls) (Y := Y) (names := names) (ic := ic) (ix := ix) (bytes := bytes) hown' hcls hYf hnames i0 i1 i2 i5 h (fun x hx => nomatch hx) hfX hkX hcellA (by rw [hhp, hT]; exact Nat.le_refl _) (msg := .ref sa) rfl
    (g := { method := m, pc := pc + 6, locals := ls, stack := .ref sa :: .ref T.heap.size :: .ref T.heap.size :: rest, locked := none }) rfl hsize rfl rfl (rest := rest) rfl
    (by rw [hb]; exact d6) (by rw [hb]; exact d9) hout hRframes (by simp only [List.map_cons, List.sum_cons, hcat]; omega) hlocks
  obtain ⟨f1, f2⟩ := vx_frame hsame
  rw [hhp] at f1 f2
  have hWs : s.WarmedH U.vm := State.WarmedH.trans hW0 hW
  have hcl : s.vm.findClass cls = some ce.cls := by
    have h9 := hO
    rw [hvm] at h9
    exact h9
  have hall : s.sameButNew ({ U with vm := s.vm } : State) locs mc ms := by
    subst hA
    obtain ⟨e1, e2⟩ := hsame
    rw [State.setFrames_setFrames] at e1
    have h2 : (T.setVm s.vm).sameButNew ({ U with vm := s.vm } : State) [] (0 + 1) (0 + 6) := ⟨e1, e2⟩
    have h3 := X.same.trans h2
    rw [List.append_nil] at h3
    exact h3.mono hc hs
  refine ⟨U, ?_, .threw T.heap.size, hrun, hend, Or.inr ⟨T.heap.size, rfl, cls, ce, locs, hx U hWs.alike f1 (fun q hq => f2 q hq (fun z hz => nomatch hz)), hce, hO2, hcl, hWs, hall, hf⟩⟩
  refine st1 _ ?_
  show Steps p.tables e below (T1.setTop { method := m, pc := pc + 3, locals := ls, stack := .ref T.heap.size :: rest, locked := none }) _
  jvm_step X₁.here [X₁.here.top, hexec, d3', Value.category]
  exact X₁.ldcString hexec (own := own) (text := text) (index := is) (a := sa) hown' hstr'.1 hstr'.2
    (g := { method := m, pc := pc + 4, locals := ls, stack := .ref T.heap.size :: .ref T.heap.size :: rest, locked := none }) rfl d4' _ hsteps
set_option maxHeartbeats 4000000 in
theorem mz_throwNW {cc : ByteArray} {pc : Nat} (hexec : p.tables.exec = Jvm.exec) (hb : c.code = cc) (hl : l.stackTraces = false) {own cls Y text : String} {ix : Nat} {bytes : ByteArray} {names : List String} {ik is ic mc ms sa : Nat} {A : Nat → Prop}
    (hown : s.vm.findClass own = some m.cls) (hcls : Bundle.fit cls = true) (hYf : Bundle.fit Y = true) (i0 : decode bytes 0 = .ok (.aload_n 0, 1)) (i1 : decode bytes 1 = .ok (.aload_n 1, 1)) (i2 : decode bytes 2 = .ok (.invokespecial ix, 3)) (i5 : decode bytes 5 = .ok (.return_, 1)) (hnames : ∀ n ∈ names, Bundle.fit n = true)
    (hk : (Cond.classLink own ik cls).before args s = true) (hini : (Cond.initialized cls).before args s = true) (hstr : vk_R own is text sa s) (hat : ∀ w ∈ vx_atNS own ic cls Y ix bytes names, w.before args s = true)
    (hgood : ∀ w ∈ Cond.classLink own ik cls :: Cond.initialized cls :: vx_atNS own ic cls Y ix bytes names, vx_ot w = true)
    (hU : vx_Zq Bundle.tN "UNASSIGNED_STACK" Bundle.steD A s s.heap) (hN : vx_Zq Bundle.tN "SUPPRESSED_SENTINEL" Bundle.listD A s s.heap) (hS : va_S A s.heap H locs) (hsize : ls.size = c.maxLocals)
    (d0 : decode cc pc = .ok (.new ik, 3)) (d3 : decode cc (pc + 3) = .ok (.dup, 1)) (d4 : decode cc (pc + 4) = .ok (.ldc_w is, 3)) (d7 : decode cc (pc + 7) = .ok (.invokespecial ic, 3)) (d10 : decode cc (pc + 10) = .ok (.athrow, 1))
    (hout : ∀ x ∈ c.exceptionTable.toList, covers x (pc + 10) = false)
    (hRframes : names.length + 4 < R.frames) (hRlocals : (rest.map fun v => v.category).sum + (13 * (names.length + 2) + 43) ≤ R.locals) (hRcells : cells + 1 ≤ R.cells) (hRslots : slots + 6 ≤ R.slots) (hlocks : meth.locks = false)
    (hx : ∀ t : State, s.vm.Alike t.vm → H.size ≤ t.heap.size → (∀ q : Nat, q < H.size → t.heap[q]? = H[q]?) → XC cls s t)
    (hf : ∀ z ∈ locs, free z.base) (hc : cells + 1 ≤ mc) (hs : slots + 6 ≤ ms) :
    W p l e R s m args below meth c H locs cells slots (vx_MQ below Qc XC args s mc ms free) (F0 m pc ls rest) := by
  intro T hT X
  have htr : e.platform.stackTraces = false := (show e.platform.stackTraces = l.stackTraces by rw [X.admits.platform]).trans hl
  have Y9 := vx_rebase X (R' := { frames := R.frames, locals := R.locals, cells := 1, slots := 6 }) (Nat.le_refl _) (Nat.le_refl _) hRcells hRslots
  obtain ⟨s', hA⟩ : ∃ z, z = (T.setVm s.vm).setFrames (.invoking m args :: below) := ⟨_, rfl⟩
  rw [← hA] at Y9
  have hvm : s'.vm = s.vm := by rw [hA]; rfl
  have hhp : s'.heap = H := by rw [hA]; exact hT
  have hW0 : s.WarmedH s'.vm := by rw [hvm]; exact State.WarmedH.refl s
  have hat' : ∀ w ∈ vx_atNS own ic cls Y ix bytes names, w.before args s' = true := fun w hw => vx_ot_at hW0 hvm.symm (hgood w (List.mem_cons_of_mem _ (List.mem_cons_of_mem _ hw))) (hat w hw)
  have hk' : (Cond.classLink own ik cls).before args s' = true := vx_ot_at hW0 hvm.symm (hgood _ List.mem_cons_self) hk
  have hini' : (Cond.initialized cls).before args s' = true := vx_ot_at hW0 hvm.symm (hgood _ (List.mem_cons_of_mem _ List.mem_cons_self)) hini
  have hU' : vx_Zq Bundle.tN "UNASSIGNED_STACK" Bundle.steD A s' s'.heap := by rw [hhp]; exact vx_Zq.moved hW0.alike (hU.kept hS.2.1)
  have hN' : vx_Zq Bundle.tN "SUPPRESSED_SENTINEL" Bundle.listD A s' s'.heap := by rw [hhp]; exact vx_Zq.moved hW0.alike (hN.kept hS.2.1)
  have h : ∀ w ∈ nsAtoms own ic cls Y ix bytes names, w.before args s' = true := vx_own hat' (vx_isRefq hU'.1) (vx_isRefq hN'.1) hU'.2.word hN'.2.word
  have hown' : s'.vm.findClass own = some m.cls := by rw [hvm]; exact hown
  have hins : (Cond.instantiable cls 6).before args s' = true := h _ (by simp [nsAtoms])
  obtain ⟨vm₁, cX, kX, hfX, hkX, -, -, X₁, st1⟩ := Y9.newCold hexec (own := own) (C := cls) (index := ik) (n := 6) hown' hk' hins hini'
    (g := F0 m pc ls rest) rfl (by rw [hb]; exact d0) (Nat.le_refl _) (Nat.le_refl _)
  generalize hT1 : (T.setVm vm₁).pushCell { cls := cX, slots := kX.instanceTypes.map defaultValue, vm := .none } = T1 at X₁ st1
  have hcat : (Value.ref T.heap.size).category = 1 := rfl
  have hcellA : T1.heap[T.heap.size]? = some (freshCell cX kX) := by rw [← hT1]; exact State.heap_pushCell_size _ _
  have d3' : decode c.code (pc + 3) = .ok (.dup, 1) := by rw [hb]; exact d3
  have d4' : decode c.code (pc + 4) = .ok (.ldc_w is, 3) := by rw [hb]; exact d4
  have hstr' : vk_R own is text sa s' := vk_R.warm hW0 hstr
  obtain ⟨U, hsteps, hrun, hend, hW, hsame, ce, hce, hO, hO2⟩ := mz_ctorThrow X₁ hexec htr (own := own) (cls := cls) (Y := Y) (names := names) (ic := ic) (ix := ix) (bytes := bytes) hown' hcls hYf hnames i0 i1 i2 i5 h (fun x hx => nomatch hx) hfX hkX hcellA (by rw [hhp, hT]; exact Nat.le_refl _) (msg := .ref sa) rfl
    (g := { method := m, pc := pc + 7, locals := ls, stack := .ref sa :: .ref T.heap.size :: .ref T.heap.size :: rest, locked := none }) rfl hsize rfl rfl (rest := rest) rfl
    (by rw [hb]; exact d7) (by rw [hb]; exact d10) hout hRframes (by simp only [List.map_cons, List.sum_cons, hcat]; omega) hlocks
  obtain ⟨f1, f2⟩ := vx_frame hsame
  rw [hhp] at f1 f2
  have hWs : s.WarmedH U.vm := State.WarmedH.trans hW0 hW
  have hcl : s.vm.findClass cls = some ce.cls := by
    have h9 := hO
    rw [hvm] at h9
    exact h9
  have hall : s.sameButNew ({ U with vm := s.vm } : State) locs mc ms := by
    subst hA
    obtain ⟨e1, e2⟩ := hsame
    rw [State.setFrames_setFrames] at e1
    have h2 : (T.setVm s.vm).sameButNew ({ U with vm := s.vm } : State) [] (0 + 1) (0 + 6) := ⟨e1, e2⟩
    have h3 := X.same.trans h2
    rw [List.append_nil] at h3
    exact h3.mono hc hs
  refine ⟨U, ?_, .threw T.heap.size, hrun, hend, Or.inr ⟨T.heap.size, rfl, cls, ce, locs, hx U hWs.alike f1 (fun q hq => f2 q hq (fun z hz => nomatch hz)), hce, hO2, hcl, hWs, hall, hf⟩⟩
  refine st1 _ ?_
  show Steps p.tables e below (T1.setTop { method := m, pc := pc + 3, locals := ls, stack := .ref T.heap.size :: rest, locked := none }) _
  jvm_step X₁.here [X₁.here.top, hexec, d3', Value.category]
  exact X₁.ldcStringW hexec (own := own) (text := text) (index := is) (a := sa) hown' hstr'.1 hstr'.2
    (g := { method := m, pc := pc + 4, locals := ls, stack := .ref T.heap.size :: .ref T.heap.size :: rest, locked := none }) rfl d4' _ hsteps
end MK4
section MK5
variable {Ω : mO} {M M' : mM} {d d' c k : Nat} {Z : mZ} {pc pc' : Nat} {ls : List (Option mV)} {st rest : List mV} {sk : List mC} {D : mD} {g : Bool} {c0 k0 : Nat} {h : mH}
def nsB : ByteArray := ⟨#[0x2a, 0x2b, 0xb7, 0x00, 0x0d, 0xb1]⟩
abbrev nsE : List String := ["java/lang/Exception"]
def TwN (own : String) (ik ic : Nat) : Prop := Cond.classLink own ik (xn 4) ∈ WSg ∧ Cond.initialized (xn 4) ∈ WSg ∧ (∀ w ∈ vx_atNS own ic (xn 4) "java/lang/RuntimeException" 13 nsB nsE, w ∈ WSg ∨ (∃ q ∈ mDec, w = .declares q) ∨ ∃ q ∈ mCas, w = .castable q.1 q.2) ∧ Bundle.fit (xn 4) = true
theorem j_throwN {ik ic is si : Nat} {text : String} (T : TwN M.1.cls ik ic) (hs : mStr[si]? = some (M.1.cls, is, text)) (d0 : decode M.2.1 pc = .ok (.new ik, 3)) (d3 : decode M.2.1 (pc + 3) = .ok (.dup, 1)) (d4 : decode M.2.1 (pc + 4) = .ok (.ldc is, 2)) (d6 : decode M.2.1 (pc + 6) = .ok (.invokespecial ic, 3)) (d9 : decode M.2.1 (pc + 9) = .ok (.athrow, 1))
    (ht : M.2.2.2.2 = []) (hdd : 6 ≤ d) (hst : st = []) (hc : c0 + 1 ≤ c) (hk : k0 + 6 ≤ k) (hz : Z (.inr 4) (sk, D, false)) : J Ω M d c k Z pc ls st (sk, D, false) c0 k0 := by
  intro p e s m args below meth cd H locs la X w hS hl
  subst hst
  obtain ⟨t1, t2, t3, t4⟩ := T
  have hX := X.2.2.2.2.2.2.2.2.2.2.2
  have hwd : ∀ w ∈ vx_atNS M.1.cls ic (xn 4) "java/lang/RuntimeException" 13 nsB nsE, w.before args s = true := by
    intro w hw
    rcases t3 w hw with h1 | ⟨q, hq, rfl⟩ | ⟨q, hq, rfl⟩
    · exact X.2.2.2.2.2.2.1 _ h1
    · exact (hX.2.2.1.2.2.1 q hq).use rfl
    · exact (hX.2.2.1.2.2.2.1 q hq).use rfl
  refine mz_throwN (A := oA Ω) (names := nsE) (cls := xn 4) (Y := "java/lang/RuntimeException") (ix := 13) (bytes := nsB) (text := text) (sa := oS Ω si) X.1 X.2.1 X.2.2.2.2.2.2.2.2.2.1 X.2.2.2.2.2.1 t4 (by decide +kernel) (by decide +kernel) (by decide +kernel) (by decide +kernel) (by decide +kernel) (by decide +kernel) (X.2.2.2.2.2.2.1 _ t1) (X.2.2.2.2.2.2.1 _ t2) (hX.2.2.2.1 si _ hs) hwd ?_ hX.1 hX.2.1 hS (by rw [X.2.2.1]; exact hl.1) d0 d3 d4 d6 d9 (by rw [X.2.2.2.2.2.2.2.2.1, ht]; intro x hx; exact absurd hx List.not_mem_nil) (by show 1 + 4 < d; omega) ?_ hc hk X.2.2.2.2.1 ?_ hS.2.2 hc hk
  · intro w hw
    rcases List.mem_cons.mp hw with rfl | hw
    · exact Bool.or_eq_true_iff.mpr (Or.inr (WSg_good t1))
    · rcases List.mem_cons.mp hw with rfl | hw
      · exact Bool.or_eq_true_iff.mpr (Or.inr (WSg_good t2))
      · rcases t3 w hw with h1 | ⟨q, hq, rfl⟩ | ⟨q, hq, rfl⟩
        · exact Bool.or_eq_true_iff.mpr (Or.inr (WSg_good h1))
        · rfl
        · rfl
  · show 0 + (13 * (1 + 2) + 43) ≤ 64 * d
    omega
  · intro t hal hz1 hsame
    refine ⟨4, (sk, D, false), rfl, hz, ?_, ?_⟩
    · refine ⟨w.1.kept (fun k q hq => hsame q.1 ((w.1 k q hq).lt)), w.2.1.moved hal, Nat.le_trans w.2.2.1 hz1, fun hg => by cases hg⟩
    · refine ⟨Nat.le_trans hS.1 hz1, fun q h1 h2 => ?_⟩
      rw [hsame q (Nat.lt_of_lt_of_le h1 hS.1)]
      exact hS.2.1 q h1 h2
theorem j_throwNW {ik ic is si : Nat} {text : String} (T : TwN M.1.cls ik ic) (hs : mStr[si]? = some (M.1.cls, is, text)) (d0 : decode M.2.1 pc = .ok (.new ik, 3)) (d3 : decode M.2.1 (pc + 3) = .ok (.dup, 1)) (d4 : decode M.2.1 (pc + 4) = .ok (.ldc_w is, 3)) (d6 : decode M.2.1 (pc + 7) = .ok (.invokespecial ic, 3)) (d9 : decode M.2.1 (pc + 10) = .ok (.athrow, 1))
    (ht : M.2.2.2.2 = []) (hdd : 6 ≤ d) (hst : st = []) (hc : c0 + 1 ≤ c) (hk : k0 + 6 ≤ k) (hz : Z (.inr 4) (sk, D, false)) : J Ω M d c k Z pc ls st (sk, D, false) c0 k0 := by
  intro p e s m args below meth cd H locs la X w hS hl
  subst hst
  obtain ⟨t1, t2, t3, t4⟩ := T
  have hX := X.2.2.2.2.2.2.2.2.2.2.2
  have hwd : ∀ w ∈ vx_atNS M.1.cls ic (xn 4) "java/lang/RuntimeException" 13 nsB nsE, w.before args s = true := by
    intro w hw
    rcases t3 w hw with h1 | ⟨q, hq, rfl⟩ | ⟨q, hq, rfl⟩
    · exact X.2.2.2.2.2.2.1 _ h1
    · exact (hX.2.2.1.2.2.1 q hq).use rfl
    · exact (hX.2.2.1.2.2.2.1 q hq).use rfl
  refine mz_throwNW (A := oA Ω) (names := nsE) (cls := xn 4) (Y := "java/lang/RuntimeException") (ix := 13) (bytes := nsB) (text := text) (sa := oS Ω si) X.1 X.2.1 X.2.2.2.2.2.2.2.2.2.1 X.2.2.2.2.2.1 t4 (by decide +kernel) (by decide +kernel) (by decide +kernel) (by decide +kernel) (by decide +kernel) (by decide +kernel) (X.2.2.2.2.2.2.1 _ t1) (X.2.2.2.2.2.2.1 _ t2) (hX.2.2.2.1 si _ hs) hwd ?_ hX.1 hX.2.1 hS (by rw [X.2.2.1]; exact hl.1) d0 d3 d4 d6 d9 (by rw [X.2.2.2.2.2.2.2.2.1, ht]; intro x hx; exact absurd hx List.not_mem_nil) (by show 1 + 4 < d; omega) ?_ hc hk X.2.2.2.2.1 ?_ hS.2.2 hc hk
  · intro w hw
    rcases List.mem_cons.mp hw with rfl | hw
    · exact Bool.or_eq_true_iff.mpr (Or.inr (WSg_good t1))
    · rcases List.mem_cons.mp hw with rfl | hw
      · exact Bool.or_eq_true_iff.mpr (Or.inr (WSg_good t2))
      · rcases t3 w hw with h1 | ⟨q, hq, rfl⟩ | ⟨q, hq, rfl⟩
        · exact Bool.or_eq_true_iff.mpr (Or.inr (WSg_good h1))
        · rfl
        · rfl
  · show 0 + (13 * (1 + 2) + 43) ≤ 64 * d
    omega
  · intro t hal hz1 hsame
    refine ⟨4, (sk, D, false), rfl, hz, ?_, ?_⟩
    · refine ⟨w.1.kept (fun k q hq => hsame q.1 ((w.1 k q hq).lt)), w.2.1.moved hal, Nat.le_trans w.2.2.1 hz1, fun hg => by cases hg⟩
    · refine ⟨Nat.le_trans hS.1 hz1, fun q h1 h2 => ?_⟩
      rw [hsame q (Nat.lt_of_lt_of_le h1 hS.1)]
      exact hS.2.1 q h1 h2
end MK5
