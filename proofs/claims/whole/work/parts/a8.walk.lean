/-! THE CLAIM OUT OF ONE WALK OF THE LAW'S BODY. Your part is whole_start (and what it stands on); all else here is the same for every law, but numbers. -/
def R_law : String := "SignBoardLaw"
def lw_P (b : Addr) (xs : List Int32) (args : Array Value) (s : State) : Prop := args = #[.ref b] ∧ s.IntsAt b xs ∧ xs.length ≤ 3072 ∧ (Jvm.Cond.and given_1 narrow_1).before args s = true
def lw_Q (_ : Array Value) (s : State) (o : Outcome) (t : State) : Prop := o = .returned (some (.int 1)) ∧ Framed s o t [] 601024 7293034
def lw_Z (below : List Frame) (a : Array Value) (s : State) : State → Prop := fun t => ∃ o, t.status = .running ∧ Ended t below o ∧ lw_Q a s o t
/-- the law's own end, with 1 on the stack, nothing written that was there before, its room as the claim has it -/
theorem lw_ret {p : Program} {l : Launch} {e : Env} {s : State} {m : MethodId} {below : List Frame} {meth : Method} {c : Code} {b : Nat} (hx : p.tables.exec = Jvm.exec) (hb : c.code = code) (hr : meth.sig.returnType = ret) (hlocks : meth.locks = false) {pc : Nat} {H : Heap} {ls : Array Slot} (hdg : decode code pc = .ok (.ireturn, 1)) : W p l e room_1 s m #[Value.ref b] below meth c H [] 601024 7293034 (lw_Z below #[Value.ref b] s) (F0 m pc ls [.int 1]) := by
  intro T hT X
  obtain ⟨fs, hret, hrun, hended, hW, hframe⟩ := X.leave (v := some (.int 1)) (hlocks := hlocks) (fun h => by rw [hr] at h; cases h)
  have hmeth' : T.vm.method? m = some meth := X.method'
  refine ⟨T.setFrames fs, ?_, .returned (some (.int 1)), hrun, hended, rfl, ⟨_, rfl⟩, hW, hframe⟩
  jvm_step X.here [X.here.top, hx, hb, hdg, hmeth', hr, ret, narrow_b1]
  (try refine ⟨rfl, ?_⟩); (try refine ⟨rfl, ?_⟩)
  first | (intro acts; rw [hret _ acts rfl rfl rfl]) | rw [hret _ _ rfl rfl rfl]
  exact Steps.refl _
/-- what holds at the law's entry: the machine, the code, the tables' words (any of lw_tbl by 'hts w (by decide +kernel)'), the script of L ints xs at the cell b, what the Statement gives of the start (any of its parts by flat_of_before) -/
def lw_At (p : Program) (s : State) (m : MethodId) (meth : Method) (c : Code) (b L : Nat) (xs : Nat → Int32) : Prop :=
  p.tables.exec = Jvm.exec ∧ c.code = code ∧ meth.sig.returnType = ret ∧ c.maxLocals = 7 ∧ s.vm.findClass R_law = some m.cls ∧ (∀ w ∈ lw_tbl, w.before #[Value.ref b] s = true) ∧ va_X b L xs s s.heap ∧ b < s.heap.size ∧ meth.locks = false ∧ (Jvm.Cond.and given_1 narrow_1).before #[Value.ref b] s = true ∧ meth.name = "law" ∧ c.exceptionTable.toList = []
-- ===== YOUR PART BEGINS =====
theorem lw_room {p : Program} {l : Launch} {e : Env} {s : State} {m : MethodId} {args : Array Value} {below : List Frame} {meth : Method} {c : Code} {T : State} {locs : List Loc} {cells slots : Nat} (X : Stand p l e room_1 s m args below meth c T locs cells slots) : Stand p l e (rm 100 601024 7293034) s m args below meth c T locs cells slots := by
  refine { X with room := ?_ }
  have h := X.room
  simp only [State.hasRoom, Bool.and_eq_true, decide_eq_true_eq] at h ⊢
  obtain ⟨⟨⟨⟨y, a, b, c, d, e⟩, f⟩, g⟩, i⟩ := h
  have r1 : room_1.frames = 2048 := rfl
  have r2 : room_1.locals = 84000 := rfl
  have r3 : room_1.cells = 601024 := rfl
  have r4 : room_1.slots = 7293034 := rfl
  have s1 : (rm 100 601024 7293034).frames = 100 := rfl
  have s2 : (rm 100 601024 7293034).locals = 6400 := rfl
  have s3 : (rm 100 601024 7293034).cells = 601024 := rfl
  have s4 : (rm 100 601024 7293034).slots = 7293034 := rfl
  rw [r1] at a b
  rw [r2] at y c d
  rw [r3] at f
  rw [r4] at g
  rw [s1, s2, s3, s4]
  exact ⟨⟨⟨⟨by omega, by omega, by omega, by omega, by omega, e⟩, by omega⟩, by omega⟩, i⟩
theorem lw_end {Ω : mO} {s t : State} {below : List Frame} {args : Array Value} (hB : oB Ω = s.heap.size) (h : vx_MQ below (mQr Ω Zt) (mQx Ω Zt) args s 601024 7293034 (oA Ω) t) : lw_Z below args s t := by
  obtain ⟨o, h1, h2, h3⟩ := h
  rcases h3 with ⟨⟨v, h', e1, hz, -⟩, L, ⟨-, f2, f3⟩, hL⟩ | ⟨q, -, E, ce, L, ⟨i, h', -, hz, -⟩, -⟩
  · have hv : v = some (mI 1) := by
      have : (Sum.inl v : Option mV ⊕ Nat) = .inl (some (mI 1)) := hz
      injection this
    subst hv
    refine ⟨o, h1, h2, e1, ⟨_, e1⟩, f2, ?_⟩
    exact f3.weaken (fun x hx hlt => absurd hlt (Nat.not_lt.mpr (by have := hL x hx; rw [← hB]; exact this))) (Nat.le_refl _) (Nat.le_refl _)
  · exact absurd (show (Sum.inr i : Option mV ⊕ Nat) = .inl (some (mI 1)) from hz) nofun
theorem lw_go {p : Program} {e : Env} {s : State} {m : MethodId} {below : List Frame} {meth : Method} {c : Code} (Ω : mO) (hflags : (oL Ω).flags = flags0) (hB : oB Ω = s.heap.size) (hL : oPn Ω ≤ 3072) (C0 : lw_At p s m meth c (oS Ω 1000000) (oPn Ω) (oPx Ω)) (hX : XS Ω s s.heap) (hK : va_K (oG Ω) mCl (oK Ω) s) :
    W p (oL Ω) e room_1 s m #[Value.ref (oS Ω 1000000)] below meth c s.heap [] 0 0 (lw_Z below #[Value.ref (oS Ω 1000000)] s) (entryFrame m ([Value.ref (oS Ω 1000000)] : List Value).toArray 7) := by
  obtain ⟨hx, hb, hr, hml, hown, hts, hXx, hbl, hlocks, hgv, hnm, htab⟩ := C0
  intro T hT X
  have hl := els_has (Ω := Ω) (as := [mR 2000000]) (n := 7) rfl (by decide)
  have hca : [mR 2000000].map (cv Ω) = [Value.ref (oS Ω 1000000)] := rfl
  rw [hca] at hl
  have hst : (oL Ω).stackTraces = false := by
    unfold Launch.stackTraces
    rw [hflags]
    decide +kernel
  have hW : WH Ω ([], (fun _ _ => 0), true) s s.heap := ⟨fun k q h => by simp [cw] at h, hK, by rw [hB]; exact Nat.le_refl _, fun _ => by rw [hB]; rfl⟩
  have K := law_main (Ω := Ω) (D := fun _ _ => 0) hL p e s m #[Value.ref (oS Ω 1000000)] below meth c s.heap [] _ ⟨hx, hb, hml, hr, hlocks, hown, fun w hw => hts w (List.mem_filter.mp hw).1, hnm, htab, hst, by rw [hB]; exact Nat.le_refl _, hX⟩ hW va_S.rf hl
  obtain ⟨t, a1, b1⟩ := K T hT (lw_room X)
  refine ⟨t, ?_, lw_end hB b1⟩
  rw [lg_entry_eq]
  exact a1
theorem whole_start {p : Program} {e : Env} {s : State} {m : MethodId} {below : List Frame} {meth : Method} {c : Code} (l : Launch) (hflags : l.flags = flags0) {b L : Nat} {xs : Nat → Int32} (hL : L ≤ 3072) (C0 : lw_At p s m meth c b L xs) : W p l e room_1 s m #[Value.ref b] below meth c s.heap [] 0 0 (lw_Z below #[Value.ref b] s) (entryFrame m ([Value.ref b] : List Value).toArray 7) := by
  have C1 := C0
  obtain ⟨hx, hb, hr, hml, hown, hts, hX, hbl, hlocks, hgv, hnm, htab⟩ := C1
  have hw : ∀ w ∈ WSg, w.before #[Value.ref b] s = true := fun w h => hts w (List.mem_filter.mp h).1
  have htb : ∀ w ∈ tables_1, w.before #[Value.ref b] s = true := fun w h => hts w (List.mem_append_right _ h)
  have hfl : ∀ w ∈ FL, w.before #[Value.ref b] s = true := flat_of_before _ hgv
  have hA : ∀ a : Nat, a < s.heap.size → ¬ (fun q : Nat => s.heap.size ≤ q) a := fun a h => Nat.not_le.mpr h
  have hc := cls_known hw
  obtain ⟨G, hG⟩ : ∃ G : va_G, ∀ (c : Nat) (q : vw_C), mCl[c]? = some q → u_Kn s q.1 q.2.1 q.2.2 (G.1 c) (G.2 c) := ⟨(fun c => (Classical.choose (hc c)).1, fun c => (Classical.choose (hc c)).2), fun c q hq => Classical.choose_spec (hc c) q hq⟩
  obtain ⟨cI, i1, i2⟩ := arr_known (ty := .int) (hw _ w_64) (fun C h => by cases h)
  obtain ⟨cY, y1, y2⟩ := arr_known (ty := .byte) (hw _ w_1000) (fun C h => by cases h)
  obtain ⟨cJ, j1, j2⟩ := arr_known (ty := .long) (hw _ w_2212) (fun C h => by cases h)
  obtain ⟨cW, w1, w2⟩ := arr_knownO (C := "SignBoard$Work") (htb _ to_1)
  have hst : ∀ i : Nat, ∃ p : Nat × Nat, ∀ q, mStr[i]? = some q → vk_R q.1 q.2.1 q.2.2 p.1 s ∧ va_O "java/lang/String" p.1 (fun q : Nat => s.heap.size ≤ q) s s.heap ∧ va_OF "java/lang/String" "coder" "B" (.int 0) p.1 (fun q : Nat => s.heap.size ≤ q) s s.heap ∧ va_OF "java/lang/String" "value" "[B" (.ref p.2) p.1 (fun q : Nat => s.heap.size ≤ q) s s.heap ∧ va_T .byte p.2 (mBy q.2.2).length (fun j => .int ((mBy q.2.2).getD j 0)) (fun q : Nat => s.heap.size ≤ q) s s.heap := by
    intro i
    cases h : mStr[i]? with
    | none => exact ⟨(0, 0), fun q hq => by cases hq⟩
    | some q =>
      obtain ⟨h1, h2⟩ := st_in h
      obtain ⟨a, t, r⟩ := st_one (htb _ (st_ref h)) (fun w hw => hfl w (h1 w hw)) h2 hA
      exact ⟨(a, t), fun q' hq => by cases hq; exact r⟩
  obtain ⟨Pf, hP⟩ : ∃ Pf : Nat → Nat × Nat, ∀ (i : Nat) q, mStr[i]? = some q → vk_R q.1 q.2.1 q.2.2 (Pf i).1 s ∧ va_O "java/lang/String" (Pf i).1 (fun q : Nat => s.heap.size ≤ q) s s.heap ∧ va_OF "java/lang/String" "coder" "B" (.int 0) (Pf i).1 (fun q : Nat => s.heap.size ≤ q) s s.heap ∧ va_OF "java/lang/String" "value" "[B" (.ref (Pf i).2) (Pf i).1 (fun q : Nat => s.heap.size ≤ q) s s.heap ∧ va_T .byte (Pf i).2 (mBy q.2.2).length (fun j => .int ((mBy q.2.2).getD j 0)) (fun q : Nat => s.heap.size ≤ q) s s.heap :=
    ⟨fun i => Classical.choose (hst i), fun i q h => Classical.choose_spec (hst i) q h⟩
  obtain ⟨f, hf⟩ : ∃ f : Nat, va_Z "jdk/internal/util/Preconditions" "SIOOBE_FORMATTER" "Ljava/util/function/BiFunction;" .null (fun q : Nat => s.heap.size ≤ q) s s.heap ∨ va_Z "jdk/internal/util/Preconditions" "SIOOBE_FORMATTER" "Ljava/util/function/BiFunction;" (.ref f) (fun q : Nat => s.heap.size ≤ q) s s.heap := by
    rcases va_Zqof (htb _ tl_2) (htb _ ti_2_) (hfl _ fl_2) hA with h | ⟨t, h⟩
    · exact ⟨0, Or.inl h⟩
    · exact ⟨t, Or.inr h⟩
  obtain ⟨Sf, e1, e2, e3, e4⟩ : ∃ Sf : Nat → Nat, (∀ i, i < 81 → Sf i = (Pf i).1) ∧ Sf 99 = f ∧ (∀ i, i < 81 → Sf (100 + i) = (Pf i).2) ∧ Sf 1000000 = b :=
    ⟨fun i => if i < 81 then (Pf i).1 else if i = 99 then f else if i < 1000 then (Pf (i - 100)).2 else b, fun i hi => if_pos hi, by show (if (99 : Nat) < 81 then (Pf 99).1 else if (99 : Nat) = 99 then f else _) = f; rw [if_neg (by decide), if_pos rfl], fun i hi => by
      show (if 100 + i < 81 then (Pf (100 + i)).1 else if 100 + i = 99 then f else if 100 + i < 1000 then (Pf (100 + i - 100)).2 else b) = (Pf i).2
      rw [if_neg (by omega), if_neg (by omega), if_pos (by omega), Nat.add_sub_cancel_left], by show (if (1000000 : Nat) < 81 then (Pf 1000000).1 else if (1000000 : Nat) = 99 then f else if (1000000 : Nat) < 1000 then (Pf (1000000 - 100)).2 else b) = b; rw [if_neg (by decide), if_neg (by decide), if_neg (by decide)]⟩
  have hm : ∀ {i : Nat} {q : String × Nat × String}, mStr[i]? = some q → i < 81 := fun h => by have h9 := (List.getElem?_eq_some_iff.mp h).1; rw [st_len] at h9; exact h9
  have key : ∀ Ω : mO, Ω = (l, s.heap.size, Sf, (fun i => (Pf i).2), G, cI, cY, cJ, cW, L, xs) → W p l e room_1 s m #[Value.ref b] below meth c s.heap [] 0 0 (lw_Z below #[Value.ref b] s) (entryFrame m ([Value.ref b] : List Value).toArray 7) := by
    intro Ω hΩ
    have o1 : oL Ω = l := by rw [hΩ]; rfl
    have o2 : oB Ω = s.heap.size := by rw [hΩ]; rfl
    have o3 : oS Ω = Sf := by rw [hΩ]; rfl
    have o4 : oT Ω = fun i => (Pf i).2 := by rw [hΩ]; rfl
    have o5 : oPn Ω = L := by rw [hΩ]; rfl
    have o6 : oPx Ω = xs := by rw [hΩ]; rfl
    have o7 : oG Ω = G := by rw [hΩ]; rfl
    have o8 : oK Ω = [(cI, .int), (cY, .byte), (cJ, .long), (cW, .object "SignBoard$Work")] := by rw [hΩ]; rfl
    have oAe : oA Ω = fun q : Nat => s.heap.size ≤ q := by
      show (fun q : Nat => oB Ω ≤ q) = _
      rw [o2]
    have hXS : XS Ω s s.heap := by
      unfold XS
      rw [oAe, o2, o3, o4, o5, o6, e2, e4]
      refine ⟨vx_Zqof (htb _ tl_3) (htb _ ti_3_) (hfl _ fl_3) hA, vx_Zqof (htb _ tl_4) (htb _ ti_3_) (hfl _ fl_4) hA, ⟨⟨va_Zof (htb _ tl_1) (htb _ ti_1_) (va_eqi (hfl _ fl_1)) hA, hf, e3⟩, va_AO.of (htb _ to_1), xn_at htb hfl⟩, fun i q hq => ?_, fun i q hq => ?_, hbl, hX⟩
      · rw [e1 i (hm hq)]
        exact (hP i q hq).1
      · rw [e1 i (hm hq)]
        exact (hP i q hq).2
    have hKK : va_K (oG Ω) mCl (oK Ω) s := by
      rw [o7, o8]
      refine ⟨hG, fun k q hk => ?_⟩
      match k, hk with
      | 0, hk => cases hk; exact ⟨i1, i2⟩
      | 1, hk => cases hk; exact ⟨y1, y2⟩
      | 2, hk => cases hk; exact ⟨j1, j2⟩
      | 3, hk => cases hk; exact ⟨w1, w2⟩
      | k + 4, hk => simp at hk
    have R := lw_go (p := p) (e := e) (m := m) (below := below) (meth := meth) (c := c) Ω (by rw [o1]; exact hflags) o2 (by rw [o5]; exact hL) (by rw [o3, o5, o6, e4]; exact C0) hXS hKK
    rw [o1, o3, e4] at R
    exact R
  exact key _ rfl
-- ===== YOUR PART ENDS =====
