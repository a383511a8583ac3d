/-! CATCHING: a call inside a row of the method's own table -/
section MJ7c
variable {Ω : mO} {M M' : mM} {d d' c k c' k' : Nat} {Z Z' : mZ} {pc pc' : Nat} {ls : List (Option mV)} {st rest : List mV} {sk : List mC} {D : mD} {g : Bool} {c0 k0 : Nat} {h : mH}
/-- a row of the method's table takes exception i at pc; hp its handler, which puts it into the local sl -/
def Ct (M : mM) (pc i hp : Nat) (sl : Fin 4) : Prop := ∃ (pre suf : List (Nat × Nat × Nat × Nat)) (x : Nat × Nat × Nat × Nat), M.2.2.2.2 = pre ++ x :: suf ∧ x.2.2.1 = hp ∧ x.1 ≤ pc ∧ pc < x.2.1 ∧ x.2.2.2 ≠ 0 ∧ i < 5 ∧
  Cond.classLink M.1.cls x.2.2.2 (xn i) ∈ WSg ∧ (∀ z ∈ pre, z.2.2.2 ≠ 0 ∧ ∃ j, j < 5 ∧ i ≠ j ∧ Cond.classLink M.1.cls z.2.2.2 (xn j) ∈ WSg) ∧ decode M.2.1 hp = .ok (.astore_n sl, 1) ∧ (sl : Nat) < M.2.2.1
theorem lvs_none {sl : Nat} {v : Value} {q : Nat × Value} (hq : q ∈ lvs Ω (ls.set sl none)) : q ∈ (sl, v) :: (lvs Ω ls).filter (fun q => !(q.1 == sl) && !(q.1 + 1 == sl && q.2.category == 2)) := by
  obtain ⟨u, h1, h2, h3⟩ := lvs_mem.mp hq
  have y : sl ≠ q.1 := by
    intro e
    rw [e, List.getElem?_set] at h1
    simp at h1
  rw [List.getElem?_set_ne y] at h1
  refine List.mem_cons.mpr (Or.inr (List.mem_filter.mpr ⟨lvs_mem.mpr ⟨u, h1, h2, h3⟩, ?_⟩))
  have hc : q.2.category = 1 := by rw [h3]; exact cv_cat h2
  have y2 : ¬ q.1 = sl := fun e => y e.symm
  simp [y2, hc]
theorem xn_cas (i : Nat) (h : i < 5) : (xn i, xn i) ∈ mCas := by
  match i, h with
  | 0, _ => decide
  | 1, _ => decide
  | 2, _ => decide
  | 3, _ => decide
  | 4, _ => decide
theorem j_afterT {p : Program} {e : Env} {s : State} {m : MethodId} {args : Array Value} {below : List Frame} {meth : Method} {cd : Code} {H : Heap} {locs : List Loc} {la : Array Slot} {as : Array Value} {stk : List Value}
    (X : Cx Ω M p s m args meth cd) (hS : va_S (oA Ω) s.heap H locs) (hl : lv_has la M.2.2.1 (lvs Ω ls))
    (hr : vx_Run p (oL Ω) e (rm d c k) s m args below meth cd H locs c0 k0 c' k' (F0 m pc la stk) (rest.map (cv Ω)) (mQr Ω Z' as) (mQx Ω Z') (oA Ω))
    (kk : ∀ v h', Z' (.inl v) h' → J Ω M d c k Z (pc + 3) ls (v.toList ++ rest) h' (c0 + c') (k0 + k'))
    (kx : ∀ i h', Z' (.inr i) h' → ∃ hp sl, Ct M pc i hp sl ∧ J Ω M d c k Z (hp + 1) (ls.set (sl : Nat) none) [] h' (c0 + c') (k0 + k')) : W p (oL Ω) e (rm d c k) s m args below meth cd H locs c0 k0 (vx_MQ below (mQr Ω Z) (mQx Ω Z) args s c k (oA Ω)) (F0 m pc la stk) := by
  intro T hT XT
  rcases hr T hT XT with ⟨v, st₀, t, T', L, h0, X', hL, e1, e2, ⟨v', h', hv, hz, hw, hF⟩, hg⟩ | ⟨q, st₀, t, T', L, E, ce, h0, X', hL, e1, e2, ⟨i, h', hE, hz, hw, hF⟩, hq, hcv, hfc, hg⟩
  · have hv' : v = v'.map (cv Ω) := by injection hv
    have hS' : va_S (oA Ω) s.heap T'.heap (locs ++ L) := by
      refine ⟨Nat.le_trans hS.1 (by rw [e1]; have := hF.1; rw [h0] at this; exact this), fun q h1 h2 => ?_, fun l hl => ?_⟩
      · rw [e1, ← hS.2.1 q h1 h2]
        have := hF.2 q (by rw [h0]; exact Nat.lt_of_lt_of_le h1 hS.1) h2
        rw [h0] at this
        exact this
      · rcases List.mem_append.mp hl with h1 | h1
        · exact hS.2.2 l h1
        · exact hL l h1
    have hw' : WH Ω h' s T'.heap := by
      rw [e1]
      refine hw.moved ?_
      rw [← e2]
      exact X'.warmed.alike.symm
    have K := kk v' h' hz p e s m args below meth cd T'.heap (locs ++ L) la X hw' hS' hl
    obtain ⟨t2, a1, b1⟩ := K T' rfl X'
    refine ⟨t2, hg t2 ?_, b1⟩
    have : (F0 m (pc + 3) la ((v'.toList ++ rest).map (cv Ω))) = { (F0 m pc la stk) with pc := (F0 m pc la stk).pc + 3, stack := v.toList ++ rest.map (cv Ω) } := by
      rw [hv', List.map_append]
      cases v' <;> rfl
    rw [← this]
    exact a1
  · have hS' : va_S (oA Ω) s.heap T'.heap (locs ++ L) := by
      refine ⟨Nat.le_trans hS.1 (by rw [e1]; have := hF.1; rw [h0] at this; exact this), fun q h1 h2 => ?_, fun l hl => ?_⟩
      · rw [e1, ← hS.2.1 q h1 h2]
        have := hF.2 q (by rw [h0]; exact Nat.lt_of_lt_of_le h1 hS.1) h2
        rw [h0] at this
        exact this
      · rcases List.mem_append.mp hl with h1 | h1
        · exact hS.2.2 l h1
        · exact hL l h1
    have hw' : WH Ω h' s T'.heap := by
      rw [e1]
      refine hw.moved ?_
      rw [← e2]
      exact X'.warmed.alike.symm
    obtain ⟨hp, sl, ⟨pre, suf, x, t1, t2, t3, t4, t5, t6, t7, t8, t9, t10⟩, K⟩ := kx i h' hz
    have wrd := X.2.2.2.2.2.2.1
    have hXN : XN s := X.2.2.2.2.2.2.2.2.2.2.2.2.2.1.2.2
    have hx : vx_W p (oL Ω) e (rm d c k) s m args below meth cd T'.heap (locs ++ L) (c0 + c') (k0 + k') (vx_MQ below (mQr Ω Z) (mQx Ω Z) args s c k (oA Ω)) (F0 m pc la (rest.map (cv Ω))) q := by
      refine vx_catch (own := M.1.cls) (name := xn i) (E := E) (ce := ce) X.2.2.2.2.2.1 (tableOf pre) ⟨x.1, x.2.1, x.2.2.1, x.2.2.2⟩ (tableOf suf) (by rw [X.2.2.2.2.2.2.2.2.1, t1]; unfold tableOf; rw [List.map_append, List.map_cons]) (fun z hz => ?_) ?_ t5 (wrd _ t7) ?_ (by rw [e1]; exact hq) hcv hfc ?_
      · obtain ⟨z', hz', rfl⟩ := List.mem_map.mp hz
        obtain ⟨a1, j, a2, a3, a4⟩ := t8 z' hz'
        exact Or.inr ⟨a1, xn j, wrd _ a4, by rw [← hE]; exact hXN.2.2 i j t6 a2 a3⟩
      · unfold covers
        simp [t3, t4]
      · rw [← hE]
        exact hXN.2.1 _ (xn_cas i t6)
      · rw [t2]
        exact lv_astore_n X.1 X.2.1 t9 rfl hl t10 rfl (fun la' hl' => K p e s m args below meth cd T'.heap (locs ++ L) la' X hw' hS' (lv_less hl' (fun q hq => lvs_none hq)))
    obtain ⟨t2', a1, b1⟩ := hx T' rfl X'
    exact ⟨t2', hg.trans a1, b1⟩
end MJ7c
