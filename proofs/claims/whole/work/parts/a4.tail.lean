/-! THE LAW'S BODY: its own steps and its end of a call -/
def yL_law_ : MethodName := ⟨RL, "law", "([I)Z"⟩
abbrev M_L_law_ : mM := (yL_law_, cL_law_, 7, some .boolean, [])
def sx (Ω : mO) (j : Int) : Int := (oPx Ω j.toNat).toInt
theorem sxR {Ω : mO} {j : Int} : nR (sx Ω j) := itR _
def bz (z : Int) : Int := if z = 0 then 0 else 1
theorem bz01 {z : Int} : bz z = 0 ∨ bz z = 1 := by
  unfold bz
  by_cases h : z = 0
  · rw [if_pos h]; exact Or.inl rfl
  · rw [if_neg h]; exact Or.inr rfl
theorem bzR {z : Int} : nR (bz z) := by
  rcases bz01 (z := z) with h | h <;> rw [h] <;> decide
abbrev LSm (i : Int) : List (Option mV) := [some (mR 2000000), some (mR 0), some (mR 133), some (mR 148), some (mI i), none, none]
abbrev JL (Ω : mO) (Z : mZ) (pc : Nat) (ls : List (Option mV)) (st : List mV) (D : mD) (c0 k0 : Nat) : Prop := J Ω M_L_law_ 100 601024 7293034 Z pc ls st (SK, D, false) c0 k0
section PLw
variable {Ω : mO} {Z : mZ} {pc pc' : Nat} {ls : List (Option mV)} {st : List mV} {D E F : mD} {c0 k0 : Nat} {i n : Int}
theorem INV.okD (I : INV n D) (g : Int → Int) : INV n (oD D g) := by
  obtain ⟨R, h, i, t, f⟩ := I
  have e : ∀ a : Nat, a ≠ 148 → oD D g a = D a := fun a h => sA_ne h
  exact ⟨R.eqc (fun a ha => e a (by omega)) (e 134 (by decide)), h.go (fun a _ _ => e a (by omega)) (e 134 (by decide)) (e 138 (by decide)) (by rw [e 133 (by decide)]), i.go (fun a _ _ => e a (by omega)) (by rw [e 0 (by decide)]) (e 135 (by decide)) (by rw [e 133 (by decide)]), t.go (by rw [e 1 (by decide)]) (e 2 (by decide)) (by rw [e 133 (by decide)]) (e 139 (by decide)), by rw [e 0 (by decide), e 133 (by decide)]; exact f.1, f.2.go (e 93 (by decide)) (e 103 (by decide))⟩
theorem j_arg {j : Int} (h0 : decode cL_law_ pc = .ok (.aload_n 0, 1)) (h1 : decode cL_law_ (pc + 1) = .ok (.iload 4, 2)) (h3 : decode cL_law_ (pc + 3) = .ok (.iconst j, 1)) (h4 : decode cL_law_ (pc + 4) = .ok (.iadd, 1)) (h5 : decode cL_law_ (pc + 5) = .ok (.iaload, 1)) (hn : pc + 6 = pc')
    (l0 : ls[0]? = some (some (mR 2000000))) (l4 : ls[4]? = some (some (mI i))) (hi : 0 ≤ i ∧ i + 6 ≤ oPn Ω ∧ oPn Ω ≤ 3072) (hj : 0 ≤ j ∧ j < 6) (kk : JL Ω Z pc' ls (mI (sx Ω (i + j)) :: st) D c0 k0) : JL Ω Z pc ls st D c0 k0 := by
  subst hn
  refine j_aload_n (pc' := pc + 1) h0 rfl l0 ?_
  refine j_iload (pc' := pc + 3) h1 rfl l4 ?_
  refine j_iconst (pc' := pc + 4) h3 rfl ?_
  refine j_iadd (pc' := pc + 5) h4 rfl ?_
  exact j_sld (pc' := pc + 6) h5 rfl (by omega) (by omega) hi.2.2 kk
theorem j_flag {z : Int} (h0 : decode cL_law_ pc = .ok (.ifCond .eq 7, 3)) (h3 : decode cL_law_ (pc + 3) = .ok (.iconst 1, 1)) (h4 : decode cL_law_ (pc + 4) = .ok (.goto 4, 3)) (h7 : decode cL_law_ (pc + 7) = .ok (.iconst 0, 1)) (hn : pc + 8 = pc') (hz : nR z)
    (kk : JL Ω Z pc' ls (mI (bz z) :: st) D c0 k0) : JL Ω Z pc ls (mI z :: st) D c0 k0 := by
  subst hn
  refine j_if_eq (tgt := pc + 7) (pc' := pc + 3) h0 (by omega) rfl hz (fun q => ?_) (fun q => ?_)
  · refine j_iconst (pc' := pc + 8) h7 rfl ?_
    have e : bz z = 0 := if_pos q
    rw [e] at kk
    exact kk
  · refine j_iconst (pc' := pc + 4) h3 rfl ?_
    refine j_goto (tgt := pc + 8) h4 (by omega) ?_
    have e : bz z = 1 := if_neg q
    rw [e] at kk
    exact kk
theorem j_lald1 {z : Int} {t : Nat} (hd : decode cL_law_ pc = .ok (.laload, 1)) (hn : pc + 1 = pc') (hz : D 148 0 = z) (kk : JL Ω Z pc' ls (mL z :: st) D c0 k0) : JL Ω Z pc ls (mI 0 :: mR 148 :: st) D c0 k0 :=
  j_lald hd hn (by decide) sk_148 (by decide) (by decide) (by decide) hz kk
/-- behind a wrapper and the reference's own call: what it says that it threw, the answers -/
theorem lb_tail {v : Int} {g : Int → Int} {ex : List Nat} {r : Int ⊕ Nat} (A : Agr ex r v (F 133 0)) (hex : ex.length ≤ 2) (hg : ∀ x, r = .inl x → g 0 = wr x)
    (h0 : decode cL_law_ pc = .ok (.istore 6, 2)) (h2 : decode cL_law_ (pc + 2) = .ok (.aload_n 2, 1)) (h3 : decode cL_law_ (pc + 3) = .ok (.invokevirtual 144, 3)) (h6 : decode cL_law_ (pc + 6) = .ok (.iload 5, 2)) (h8 : decode cL_law_ (pc + 8) = .ok (.if_icmp .eq 5, 3)) (h13 : decode cL_law_ (pc + 13) = .ok (.iload 5, 2)) (h15 : decode cL_law_ (pc + 15) = .ok (.ifCond .ne 15, 3)) (h18 : decode cL_law_ (pc + 18) = .ok (.aload_n 3, 1)) (h19 : decode cL_law_ (pc + 19) = .ok (.iconst 0, 1)) (h20 : decode cL_law_ (pc + 20) = .ok (.laload, 1)) (h21 : decode cL_law_ (pc + 21) = .ok (.iload 6, 2)) (h23 : decode cL_law_ (pc + 23) = .ok (.i2l, 1)) (h24 : decode cL_law_ (pc + 24) = .ok (.lcmp, 1)) (h25 : decode cL_law_ (pc + 25) = .ok (.ifCond .eq 5, 3)) {off : Int} (h30 : decode cL_law_ (pc + 30) = .ok (.goto off, 3)) (ho : ((pc + 30 : Nat) : Int) + off = 2818)
    (hc : c0 ≤ 601024) (hk : k0 ≤ 7293034) (kk : JL Ω Z 2818 (LSm i) [] (oD F g) c0 k0) : JL Ω Z pc [some (mR 2000000), some (mR 0), some (mR 133), some (mR 148), some (mI i), some (mI (F 133 0)), none] [mI v] (oD F g) c0 k0 := by
  refine j_istore (pc' := pc + 2) (ls' := [some (mR 2000000), some (mR 0), some (mR 133), some (mR 148), some (mI i), some (mI (F 133 0)), some (mI v)]) h0 rfl (by decide) rfl ?_
  refine j_aload_n (pc' := pc + 3) h2 rfl rfl ?_
  refine k_cV (pc' := pc + 6) (d' := 99) [] [] (c_X12_thrown (d := 99) (by decide) (v := F 133 0) (D' := oD F g) (by rw [F_X12_thrown, oD_r (by decide)])) cw_L_144 kc_11 w_1467 w_1468 h3 rfl (by decide) rfl rfl (by decide) sk_133 rfl rfl hc hk ?_
  refine j_iload (pc' := pc + 8) h6 rfl rfl ?_
  refine j_icmp_same (tgt := pc + 13) h8 (by omega) ?_
  refine j_iload (pc' := pc + 15) h13 rfl rfl ?_
  have kx : JL Ω Z (pc + 30) [some (mR 2000000), some (mR 0), some (mR 133), some (mR 148), some (mI i), some (mI (F 133 0)), some (mI v)] [] (oD F g) c0 k0 :=
    j_goto (tgt := 2818) h30 ho (j_wk kk ⟨rfl, rfl, rfl, rfl, rfl, trivial⟩)
  cases r with
  | inl z =>
    obtain ⟨e1, rfl⟩ := A
    refine j_if_ne (tgt := pc + 30) (pc' := pc + 18) h15 (by omega) rfl (by rw [e1]; decide) (fun q => absurd e1 q) (fun _ => ?_)
    refine j_aload_n (pc' := pc + 19) h18 rfl rfl ?_
    refine j_iconst (pc' := pc + 20) h19 rfl ?_
    refine j_lald1 (t := 0) (pc' := pc + 21) h20 rfl (z := wr v) (hg v rfl) ?_
    refine j_iload (pc' := pc + 23) h21 rfl rfl ?_
    refine j_i2lw (pc' := pc + 24) h23 rfl ?_
    refine j_lcmp (pc' := pc + 25) h24 rfl ?_
    rw [bCmp_same]
    exact j_if_eq (tgt := pc + 30) (pc' := pc + 28) h25 (by omega) rfl (by decide) (fun _ => kx) (fun q => absurd rfl q)
  | inr x =>
    obtain ⟨k, e1, hx⟩ := A
    have hk2 : k < ex.length := (List.getElem?_eq_some_iff.mp hx).1
    exact j_if_ne (tgt := pc + 30) (pc' := pc + 18) h15 (by omega) rfl (by rw [e1]; constructor <;> omega) (fun _ => kx) (fun q => absurd q (by omega))
/-- the same of an answer yes or no -/
theorem lb_tailB {v : Int} {g : Int → Int} {ex : List Nat} {r : Int ⊕ Nat} (A : Agr ex r v (F 133 0)) (hex : ex.length ≤ 2) (hg : ∀ x, r = .inl x → g 0 = if wr x = 0 then 0 else 1)
    (h0 : decode cL_law_ pc = .ok (.istore 6, 2)) (h2 : decode cL_law_ (pc + 2) = .ok (.aload_n 2, 1)) (h3 : decode cL_law_ (pc + 3) = .ok (.invokevirtual 144, 3)) (h6 : decode cL_law_ (pc + 6) = .ok (.iload 5, 2)) (h8 : decode cL_law_ (pc + 8) = .ok (.if_icmp .eq 5, 3)) (h13 : decode cL_law_ (pc + 13) = .ok (.iload 5, 2)) (h15 : decode cL_law_ (pc + 15) = .ok (.ifCond .ne 22, 3)) (h18 : decode cL_law_ (pc + 18) = .ok (.aload_n 3, 1)) (h19 : decode cL_law_ (pc + 19) = .ok (.iconst 0, 1)) (h20 : decode cL_law_ (pc + 20) = .ok (.laload, 1)) (h21 : decode cL_law_ (pc + 21) = .ok (.iload 6, 2)) (h23 : decode cL_law_ (pc + 23) = .ok (.ifCond .eq 7, 3)) (h26 : decode cL_law_ (pc + 26) = .ok (.lconst 1, 1)) (h27 : decode cL_law_ (pc + 27) = .ok (.goto 4, 3)) (h30 : decode cL_law_ (pc + 30) = .ok (.lconst 0, 1)) (h31 : decode cL_law_ (pc + 31) = .ok (.lcmp, 1)) (h32 : decode cL_law_ (pc + 32) = .ok (.ifCond .eq 5, 3)) {off : Int} (h37 : decode cL_law_ (pc + 37) = .ok (.goto off, 3)) (ho : ((pc + 37 : Nat) : Int) + off = 2818)
    (hc : c0 ≤ 601024) (hk : k0 ≤ 7293034) (kk : JL Ω Z 2818 (LSm i) [] (oD F g) c0 k0) : JL Ω Z pc [some (mR 2000000), some (mR 0), some (mR 133), some (mR 148), some (mI i), some (mI (F 133 0)), none] [mI v] (oD F g) c0 k0 := by
  refine j_istore (pc' := pc + 2) (ls' := [some (mR 2000000), some (mR 0), some (mR 133), some (mR 148), some (mI i), some (mI (F 133 0)), some (mI v)]) h0 rfl (by decide) rfl ?_
  refine j_aload_n (pc' := pc + 3) h2 rfl rfl ?_
  refine k_cV (pc' := pc + 6) (d' := 99) [] [] (c_X12_thrown (d := 99) (by decide) (v := F 133 0) (D' := oD F g) (by rw [F_X12_thrown, oD_r (by decide)])) cw_L_144 kc_11 w_1467 w_1468 h3 rfl (by decide) rfl rfl (by decide) sk_133 rfl rfl hc hk ?_
  refine j_iload (pc' := pc + 8) h6 rfl rfl ?_
  refine j_icmp_same (tgt := pc + 13) h8 (by omega) ?_
  refine j_iload (pc' := pc + 15) h13 rfl rfl ?_
  have kx : JL Ω Z (pc + 37) [some (mR 2000000), some (mR 0), some (mR 133), some (mR 148), some (mI i), some (mI (F 133 0)), some (mI v)] [] (oD F g) c0 k0 :=
    j_goto (tgt := 2818) h37 ho (j_wk kk ⟨rfl, rfl, rfl, rfl, rfl, trivial⟩)
  cases r with
  | inl z =>
    obtain ⟨e1, rfl⟩ := A
    refine j_if_ne (tgt := pc + 37) (pc' := pc + 18) h15 (by omega) rfl (by rw [e1]; decide) (fun q => absurd e1 q) (fun _ => ?_)
    refine j_aload_n (pc' := pc + 19) h18 rfl rfl ?_
    refine j_iconst (pc' := pc + 20) h19 rfl ?_
    refine j_lald1 (t := 0) (pc' := pc + 21) h20 rfl (hg v rfl) ?_
    refine j_iload (pc' := pc + 23) h21 rfl rfl ?_
    refine k_wr ?_
    have ke : ∀ x : Int, JL Ω Z (pc + 31) [some (mR 2000000), some (mR 0), some (mR 133), some (mR 148), some (mI i), some (mI (F 133 0)), some (mI v)] [mL x, mL x] (oD F g) c0 k0 := by
      intro x
      refine j_lcmp (pc' := pc + 32) h31 rfl ?_
      rw [bCmp_same]
      exact j_if_eq (tgt := pc + 37) (pc' := pc + 35) h32 (by omega) rfl (by decide) (fun _ => kx) (fun q => absurd rfl q)
    refine j_if_eq (tgt := pc + 30) (pc' := pc + 26) h23 (by omega) rfl (itR _) (fun q => ?_) (fun q => ?_)
    · rw [if_pos q]
      exact j_lconst (n := 0) (pc' := pc + 31) h30 rfl (ke 0)
    · rw [if_neg q]
      exact j_lconst (n := 1) (pc' := pc + 27) h26 rfl (j_goto (tgt := pc + 31) h27 (by omega) (ke 1))
  | inr x =>
    obtain ⟨k, e1, hx⟩ := A
    have hk2 : k < ex.length := (List.getElem?_eq_some_iff.mp hx).1
    exact j_if_ne (tgt := pc + 37) (pc' := pc + 18) h15 (by omega) rfl (by rw [e1]; constructor <;> omega) (fun _ => kx) (fun q => absurd q (by omega))
end PLw
