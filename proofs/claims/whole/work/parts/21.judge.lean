/-! THE JUDGEMENT J: from an abstract frame and heap the machine comes to the method's end as Z says -/
section MJ1
def mBy (tx : String) : List Int32 := tx.toList.map (fun c => Int32.ofNat c.toNat)
/-- declarations and casts that the tables tell -/
def mDec : List MethodName := [⟨"SignBoard$TextReader", "readsText", "()Z"⟩, ⟨"SignBoard$TextReader", "readsLine", "()Z"⟩, ⟨"SignBoard$TextReader", "readNumber", "(II)I"⟩, ⟨"java/lang/RuntimeException", "<init>", "()V"⟩, ⟨"java/lang/RuntimeException", "<init>", "(Ljava/lang/String;)V"⟩, ⟨"java/lang/Exception", "<init>", "()V"⟩, ⟨"java/lang/Exception", "<init>", "(Ljava/lang/String;)V"⟩, ⟨"java/lang/Throwable", "<init>", "()V"⟩, ⟨"java/lang/Throwable", "<init>", "(Ljava/lang/String;)V"⟩]
def mCas : List (String × String) := [("java/lang/IllegalArgumentException", "java/lang/IllegalArgumentException"), ("java/lang/UnsupportedOperationException", "java/lang/UnsupportedOperationException"), ("java/lang/IndexOutOfBoundsException", "java/lang/IndexOutOfBoundsException"), ("java/util/NoSuchElementException", "java/util/NoSuchElementException"), ("java/lang/IllegalStateException", "java/lang/IllegalStateException"), ("SignBoard", "java/lang/Object"), ("SignBoard$Tape", "java/lang/Object"), ("SignBoard$Shop", "java/lang/Object"), ("SignBoard$Law", "java/lang/Object"), ("SignBoard$Work", "java/lang/Object"), ("SignBoard$Gauge", "java/lang/Object"), ("SignBoard$Laying", "java/lang/Object"), ("SignBoard$Press", "java/lang/Object"), ("SignBoard$History", "java/lang/Object"), ("SignBoard$ShopReader", "java/lang/Object"), ("SignBoard$LawReader", "java/lang/Object"), ("SignBoardModel", "java/lang/Object"), ("java/lang/IllegalArgumentException", "java/lang/Object"), ("java/lang/UnsupportedOperationException", "java/lang/Object"), ("java/lang/IndexOutOfBoundsException", "java/lang/Object"), ("java/util/NoSuchElementException", "java/lang/Object"), ("java/lang/IllegalStateException", "java/lang/Object"), ("java/lang/Throwable", "java/lang/Object"), ("java/lang/String", "java/lang/Object")]
def xn : Nat → String
  | 0 => "java/lang/IllegalArgumentException"
  | 1 => "java/lang/IllegalStateException"
  | 2 => "java/lang/IndexOutOfBoundsException"
  | 3 => "java/lang/UnsupportedOperationException"
  | _ => "java/util/NoSuchElementException"
def XN (U : State) : Prop := (∀ q ∈ mDec, va_Nw (.declares q) U) ∧ (∀ q ∈ mCas, va_Nw (.castable q.1 q.2) U) ∧ ∀ i j : Nat, i < 5 → j < 5 → i ≠ j → va_Nc (xn i) (xn j) U
theorem XN.warm {u U : State} (hw : u.WarmedH U.vm) (h : XN u) : XN U := ⟨fun q hq => (h.1 q hq).warmD hw, fun q hq => (h.2.1 q hq).warmC hw, fun i j hi hj hij => (h.2.2 i j hi hj hij).moved hw.alike⟩
theorem XN.same {u U : State} (hv : U.vm = u.vm) (h : XN u) : XN U := ⟨fun q hq => (h.1 q hq).same rfl hv.symm, fun q hq => (h.2.1 q hq).same rfl hv.symm, fun i j hi hj hij => (h.2.2 i j hi hj hij).moved (by rw [hv]; exact Vm.Alike.refl u.vm)⟩
/-- what is known of texts and of the JDK's statics; all of it lies outside the abstract heap -/
def XS (Ω : mO) (U : State) (H : Heap) : Prop :=
  vx_Zq Bundle.tN "UNASSIGNED_STACK" Bundle.steD (oA Ω) U H ∧ vx_Zq Bundle.tN "SUPPRESSED_SENTINEL" Bundle.listD (oA Ω) U H ∧
  ((va_Z "java/lang/String" "COMPACT_STRINGS" "Z" (.int 1) (oA Ω) U H ∧ (va_Z "jdk/internal/util/Preconditions" "SIOOBE_FORMATTER" "Ljava/util/function/BiFunction;" .null (oA Ω) U H ∨ va_Z "jdk/internal/util/Preconditions" "SIOOBE_FORMATTER" "Ljava/util/function/BiFunction;" (.ref (oS Ω 99)) (oA Ω) U H) ∧ ∀ i : Nat, i < 81 → oS Ω (100 + i) = oT Ω i) ∧ va_AO "SignBoard$Work" U ∧ XN U) ∧
  (∀ (i : Nat) (q : String × Nat × String), mStr[i]? = some q → vk_R q.1 q.2.1 q.2.2 (oS Ω i) U) ∧
  (∀ (i : Nat) (q : String × Nat × String), mStr[i]? = some q → va_O "java/lang/String" (oS Ω i) (oA Ω) U H ∧ va_OF "java/lang/String" "coder" "B" (.int 0) (oS Ω i) (oA Ω) U H ∧ va_OF "java/lang/String" "value" "[B" (.ref (oT Ω i)) (oS Ω i) (oA Ω) U H ∧ va_T .byte (oT Ω i) (mBy q.2.2).length (fun j => .int ((mBy q.2.2).getD j 0)) (oA Ω) U H) ∧
  oS Ω 1000000 < oB Ω ∧ va_X (oS Ω 1000000) (oPn Ω) (oPx Ω) U H
theorem XS.warm {Ω : mO} {u U : State} {H : Heap} (hw : u.WarmedH U.vm) (h : XS Ω u H) : XS Ω U H := by
  obtain ⟨h1, h2, h3, h4, h5, h6, h7⟩ := h
  have ha : u.vm.Alike U.vm := hw.alike
  exact ⟨h1.moved ha, h2.moved ha, ⟨⟨h3.1.1.moved ha, h3.1.2.1.imp (fun z => z.moved ha) (fun z => z.moved ha), h3.1.2.2⟩, h3.2.1.moved ha, h3.2.2.warm hw⟩, fun i q hq => (h4 i q hq).warm hw, fun i q hq => ⟨(h5 i q hq).1.moved ha, (h5 i q hq).2.1.moved ha, (h5 i q hq).2.2.1.moved ha, (h5 i q hq).2.2.2.moved ha⟩, h6, h7.moved ha⟩
theorem XS.kept {Ω : mO} {U : State} {H H1 : Heap} (h : XS Ω U H) (hq : ∀ a : Nat, a < H.size → ¬ oA Ω a → H1[a]? = H[a]?) : XS Ω U H1 := by
  obtain ⟨h1, h2, h3, h4, h5, h6, scr, h7, h8⟩ := h
  exact ⟨h1.kept hq, h2.kept hq, ⟨⟨h3.1.1.kept hq, h3.1.2.1.imp (fun z => z.kept hq) (fun z => z.kept hq), h3.1.2.2⟩, h3.2⟩, h4, fun i q hi => ⟨(h5 i q hi).1.kept hq, (h5 i q hi).2.1.kept hq, (h5 i q hi).2.2.1.kept hq, (h5 i q hi).2.2.2.kept hq⟩, h6, scr, by rw [hq _ (Array.getElem?_eq_some_iff.mp h7).1 (Nat.not_le.mpr h6)]; exact h7, h8⟩
theorem XS.same {Ω : mO} {u U : State} {H : Heap} (hv : U.vm = u.vm) (h : XS Ω u H) : XS Ω U H := by
  obtain ⟨h1, h2, h3, h4, h5, h6, h7⟩ := h
  have ha : u.vm.Alike U.vm := by rw [hv]; exact Vm.Alike.refl u.vm
  exact ⟨h1.moved ha, h2.moved ha, ⟨⟨h3.1.1.moved ha, h3.1.2.1.imp (fun z => z.moved ha) (fun z => z.moved ha), h3.1.2.2⟩, h3.2.1.moved ha, h3.2.2.same hv⟩, fun i q hq => (h4 i q hq).same hv, fun i q hq => ⟨(h5 i q hq).1.moved ha, (h5 i q hq).2.1.moved ha, (h5 i q hq).2.2.1.moved ha, (h5 i q hq).2.2.2.moved ha⟩, h6, h7.moved ha⟩
/-- the machine's heap holds the abstract one -/
def WH (Ω : mO) (h : mH) (U : State) (H : Heap) : Prop :=
  va_P (oG Ω) mCl (cw Ω h) H ∧ va_K (oG Ω) mCl (oK Ω) U ∧ oB Ω + h.1.length ≤ H.size ∧ (h.2.2 = true → H.size = oB Ω + h.1.length)
theorem WH.moved {Ω : mO} {h : mH} {u U : State} {H : Heap} (hv : u.vm.Alike U.vm) (w : WH Ω h u H) : WH Ω h U H := ⟨w.1, w.2.1.moved hv, w.2.2⟩
/-- a method: name, code, locals, what it returns, its table -/
abbrev mM : Type := MethodName × ByteArray × Nat × Option FieldType × List (Nat × Nat × Nat × Nat)
def mWord (M : mM) : Cond := match M.2.2.2.2 with
  | [] => .code M.1 M.2.1 M.2.2.1 M.2.2.2.1
  | hh => .codeWith M.1 M.2.1 M.2.2.1 M.2.2.2.1 hh
def mWs (M : mM) : List Cond := mWord M :: WSg
def rm (d c k : Nat) : Room := { frames := d, cells := c, slots := k, locals := 64 * d }
/-- how a method may end: what it returns, or the number of what it throws; and the heap then -/
abbrev mZ : Type := (Option mV ⊕ Nat) → mH → Prop
def mPc (Ω : mO) (as : List mV) (h : mH) : Array Value → State → Prop := fun a U => a = (as.map (cv Ω)).toArray ∧ WH Ω h U U.heap ∧ XS Ω U U.heap
def mQr (Ω : mO) (Z : mZ) : Array Value → State → Outcome → State → Prop := fun _ st oc t => ∃ (v : Option mV) (h' : mH), oc = .returned (v.map (cv Ω)) ∧ Z (.inl v) h' ∧ WH Ω h' t t.heap ∧ va_F (oA Ω) st t
def mQx (Ω : mO) (Z : mZ) : String → State → State → Prop := fun E st t => ∃ (i : Nat) (h' : mH), xn i = E ∧ Z (.inr i) h' ∧ WH Ω h' t t.heap ∧ va_F (oA Ω) st t
/-- THE CONTRACT of a method: called with as over the heap h, with room for d frames, it ends as Z says, and makes at most c cells of k slots -/
def CM (d c k : Nat) (M : mM) (as : List mV) (h : mH) (Z : mZ) : Prop :=
  ∀ Ω : mO, (oL Ω).stackTraces = false → vx_Met (oL Ω) M.1 (mWs M) (rm d c k) (mPc Ω as h) (mQr Ω Z) (mQx Ω Z) c k (oA Ω)
/-- what stays true while a method's body runs -/
def Cx (Ω : mO) (M : mM) (p : Program) (s : State) (m : MethodId) (args : Array Value) (meth : Method) (cd : Code) : Prop :=
  p.tables.exec = Jvm.exec ∧ cd.code = M.2.1 ∧ cd.maxLocals = M.2.2.1 ∧ meth.sig.returnType = M.2.2.2.1 ∧ meth.locks = false ∧ s.vm.findClass M.1.cls = some m.cls ∧ (∀ w ∈ WSg, w.before args s = true) ∧ meth.name = M.1.name ∧ cd.exceptionTable.toList = tableOf M.2.2.2.2 ∧ (oL Ω).stackTraces = false ∧ oB Ω ≤ s.heap.size ∧ XS Ω s s.heap
/-- is it one word wide -/
def c1 : mV → Bool
  | .inr (.inl _) => false
  | _ => true
def lvs (Ω : mO) (ls : List (Option mV)) : List (Nat × Value) := (List.range ls.length).filterMap (fun i => match ls.getD i none with
  | some v => if c1 v then some (i, cv Ω v) else none
  | none => none)
def J (Ω : mO) (M : mM) (d c k : Nat) (Z : mZ) (pc : Nat) (ls : List (Option mV)) (st : List mV) (h : mH) (c0 k0 : Nat) : Prop :=
  ∀ (p : Program) (e : Env) (s : State) (m : MethodId) (args : Array Value) (below : List Frame) (meth : Method) (cd : Code) (H : Heap) (locs : List Loc) (la : Array Slot),
    Cx Ω M p s m args meth cd → WH Ω h s H → va_S (oA Ω) s.heap H locs → lv_has la M.2.2.1 (lvs Ω ls) →
    W p (oL Ω) e (rm d c k) s m args below meth cd H locs c0 k0 (vx_MQ below (mQr Ω Z) (mQx Ω Z) args s c k (oA Ω)) (F0 m pc la (st.map (cv Ω)))
theorem lvs_mem {Ω : mO} {ls : List (Option mV)} {q : Nat × Value} : q ∈ lvs Ω ls ↔ ∃ v, ls[q.1]? = some (some v) ∧ c1 v = true ∧ q.2 = cv Ω v := by
  unfold lvs
  rw [List.mem_filterMap]
  constructor
  · rintro ⟨i, hi, hq⟩
    have hi' : i < ls.length := List.mem_range.mp hi
    rw [List.getD_eq_getElem?_getD, List.getElem?_eq_getElem hi'] at hq
    simp only [Option.getD_some] at hq
    cases hv : ls[i] with
    | none => rw [hv] at hq; cases hq
    | some v =>
      rw [hv] at hq
      simp only at hq
      by_cases hc : c1 v = true
      · rw [if_pos hc] at hq
        cases hq
        exact ⟨v, by rw [List.getElem?_eq_getElem hi', hv], hc, rfl⟩
      · rw [if_neg hc] at hq
        cases hq
  · rintro ⟨v, h1, h2, h3⟩
    have hi' : q.1 < ls.length := (List.getElem?_eq_some_iff.mp h1).1
    refine ⟨q.1, List.mem_range.mpr hi', ?_⟩
    rw [List.getD_eq_getElem?_getD, h1]
    simp only [Option.getD_some]
    rw [if_pos h2, ← h3]
theorem lvs_at {Ω : mO} {ls : List (Option mV)} {la : Array Slot} {n i : Nat} {v : mV} (h : lv_has la n (lvs Ω ls)) (hi : ls[i]? = some (some v)) (hc : c1 v = true) : la[i]? = some (.val (cv Ω v)) :=
  h.2.2 (i, cv Ω v) (lvs_mem.mpr ⟨v, hi, hc, rfl⟩)
theorem cv_cat {Ω : mO} {v : mV} (h : c1 v = true) : (cv Ω v).category = 1 := by
  match v with
  | .inl z => rfl
  | .inr (.inl z) => cases h
  | .inr (.inr none) => rfl
  | .inr (.inr (some k)) => rfl
theorem lvs_set {Ω : mO} {ls : List (Option mV)} {i : Nat} {v : mV} {q : Nat × Value} (hq : q ∈ lvs Ω (ls.set i (some v))) : q ∈ (i, cv Ω v) :: (lvs Ω ls).filter (fun q => !(q.1 == i) && !(q.1 + 1 == i && q.2.category == 2)) := by
  obtain ⟨w, h1, h2, h3⟩ := lvs_mem.mp hq
  rw [List.getElem?_set] at h1
  by_cases hi : i = q.1
  · rw [if_pos hi] at h1
    by_cases hl : i < ls.length
    · rw [if_pos hl] at h1
      cases h1
      exact List.mem_cons.mpr (Or.inl (Prod.ext hi.symm h3))
    · rw [if_neg hl] at h1
      cases h1
  · rw [if_neg hi] at h1
    refine List.mem_cons.mpr (Or.inr (List.mem_filter.mpr ⟨lvs_mem.mpr ⟨w, h1, h2, h3⟩, ?_⟩))
    have h4 : q.2.category = 1 := by rw [h3]; exact cv_cat h2
    have h5 : ¬ q.1 = i := fun e => hi e.symm
    simp [h4, h5]
theorem lv_less {la : Array Slot} {n : Nat} {l l' : List (Nat × Value)} (h : lv_has la n l) (hs : ∀ q ∈ l', q ∈ l) : lv_has la n l' := ⟨h.1, h.2.1, fun q hq => h.2.2 q (hs q hq)⟩
end MJ1
