/-! THE LAW'S LOOP and its beginning -/
def Zt : mZ := fun o _ => o = .inl (some (mI 1))
section PLo
variable {Ω : mO} {Z : mZ} {D : mD} {c0 k0 : Nat} {i n : Int}
theorem law_case (hi : 0 ≤ i ∧ i + 6 ≤ oPn Ω ∧ oPn Ω ≤ 3072) (I : INV n D) (hn : 0 ≤ n ∧ n ≤ 90000) (hc : c0 + 2 ≤ 601024) (hk : k0 + 12 ≤ 7293034) (kk : ∀ F, INV (n + 1) F → JL Ω Z 2818 (LSm i) [] F (c0 + 2) (k0 + 12)) : JL Ω Z 33 (LSm i) [] D c0 k0 := by
  refine j_aload_n (pc' := 34) dL_law__33 rfl rfl ?_
  refine j_iload (pc' := 36) dL_law__34 rfl rfl ?_
  refine j_sld (pc' := 37) dL_law__36 rfl (by omega) (by omega) hi.2.2 ?_
  refine j_bipush (pc' := 39) dL_law__37 rfl rfl ?_
  refine j_iand (pc' := 40) dL_law__39 rfl ?_
  have hb : nR (bAnd (oPx Ω i.toNat).toInt 63) := itR _
  generalize bAnd (oPx Ω i.toNat).toInt 63 = a at hb ⊢
  by_cases h : a < 0 ∨ 49 < a
  · exact j_tabOut (tgt := 2818) dL_law__40 hb h rfl (j_widen (by omega) (by omega) (kk D (I.mono (by omega))))
  · have h0 : 0 ≤ a ∧ a ≤ 49 := by omega
    obtain ⟨q, rfl⟩ := Int.eq_ofNat_of_zero_le h0.1
    have hq : q < 50 := by omega
    clear h0 h hb
    match q, hq with
    | 0, _ => exact j_tabIn (tgt := 256) (off := 216) dL_law__40 (by decide) (by decide) (by decide) rfl rfl (lc_0 hi I hn hc hk kk)
    | 1, _ => exact j_tabIn (tgt := 329) (off := 289) dL_law__40 (by decide) (by decide) (by decide) rfl rfl (lc_1 hi I hn hc hk kk)
    | 2, _ => exact j_tabIn (tgt := 354) (off := 314) dL_law__40 (by decide) (by decide) (by decide) rfl rfl (lc_2 hi I hn hc hk kk)
    | 3, _ => exact j_tabIn (tgt := 398) (off := 358) dL_law__40 (by decide) (by decide) (by decide) rfl rfl (lc_3 hi I hn hc hk kk)
    | 4, _ => exact j_tabIn (tgt := 442) (off := 402) dL_law__40 (by decide) (by decide) (by decide) rfl rfl (lc_4 hi I hn hc hk kk)
    | 5, _ => exact j_tabIn (tgt := 455) (off := 415) dL_law__40 (by decide) (by decide) (by decide) rfl rfl (lc_5 hi I hn hc hk kk)
    | 6, _ => exact j_tabIn (tgt := 523) (off := 483) dL_law__40 (by decide) (by decide) (by decide) rfl rfl (lc_6 hi I hn hc hk kk)
    | 7, _ => exact j_tabIn (tgt := 619) (off := 579) dL_law__40 (by decide) (by decide) (by decide) rfl rfl (lc_7 hi I hn hc hk kk)
    | 8, _ => exact j_tabIn (tgt := 687) (off := 647) dL_law__40 (by decide) (by decide) (by decide) rfl rfl (lc_8 hi I hn hc hk kk)
    | 9, _ => exact j_tabIn (tgt := 755) (off := 715) dL_law__40 (by decide) (by decide) (by decide) rfl rfl (lc_9 hi I hn hc hk kk)
    | 10, _ => exact j_tabIn (tgt := 851) (off := 811) dL_law__40 (by decide) (by decide) (by decide) rfl rfl (lc_10 hi I hn hc hk kk)
    | 11, _ => exact j_tabIn (tgt := 919) (off := 879) dL_law__40 (by decide) (by decide) (by decide) rfl rfl (lc_11 hi I hn hc hk kk)
    | 12, _ => exact j_tabIn (tgt := 987) (off := 947) dL_law__40 (by decide) (by decide) (by decide) rfl rfl (lc_12 hi I hn hc hk kk)
    | 13, _ => exact j_tabIn (tgt := 1055) (off := 1015) dL_law__40 (by decide) (by decide) (by decide) rfl rfl (lc_13 hi I hn hc hk kk)
    | 14, _ => exact j_tabIn (tgt := 1111) (off := 1071) dL_law__40 (by decide) (by decide) (by decide) rfl rfl (lc_14 hi I hn hc hk kk)
    | 15, _ => exact j_tabIn (tgt := 1167) (off := 1127) dL_law__40 (by decide) (by decide) (by decide) rfl rfl (lc_15 hi I hn hc hk kk)
    | 16, _ => exact j_tabIn (tgt := 1223) (off := 1183) dL_law__40 (by decide) (by decide) (by decide) rfl rfl (lc_16 hi I hn hc hk kk)
    | 17, _ => exact j_tabIn (tgt := 1236) (off := 1196) dL_law__40 (by decide) (by decide) (by decide) rfl rfl (lc_17 hi I hn hc hk kk)
    | 18, _ => exact j_tabIn (tgt := 1292) (off := 1252) dL_law__40 (by decide) (by decide) (by decide) rfl rfl (lc_18 hi I hn hc hk kk)
    | 19, _ => exact j_tabIn (tgt := 1305) (off := 1265) dL_law__40 (by decide) (by decide) (by decide) rfl rfl (lc_19 hi I hn hc hk kk)
    | 20, _ => exact j_tabIn (tgt := 1373) (off := 1333) dL_law__40 (by decide) (by decide) (by decide) rfl rfl (lc_20 hi I hn hc hk kk)
    | 21, _ => exact j_tabIn (tgt := 1414) (off := 1374) dL_law__40 (by decide) (by decide) (by decide) rfl rfl (lc_21 hi I hn hc hk kk)
    | 22, _ => exact j_tabIn (tgt := 1482) (off := 1442) dL_law__40 (by decide) (by decide) (by decide) rfl rfl (lc_22 hi I hn hc hk kk)
    | 23, _ => exact j_tabIn (tgt := 1538) (off := 1498) dL_law__40 (by decide) (by decide) (by decide) rfl rfl (lc_23 hi I hn hc hk kk)
    | 24, _ => exact j_tabIn (tgt := 1594) (off := 1554) dL_law__40 (by decide) (by decide) (by decide) rfl rfl (lc_24 hi I hn hc hk kk)
    | 25, _ => exact j_tabIn (tgt := 1678) (off := 1638) dL_law__40 (by decide) (by decide) (by decide) rfl rfl (lc_25 hi I hn hc hk kk)
    | 26, _ => exact j_tabIn (tgt := 1734) (off := 1694) dL_law__40 (by decide) (by decide) (by decide) rfl rfl (lc_26 hi I hn hc hk kk)
    | 27, _ => exact j_tabIn (tgt := 1775) (off := 1735) dL_law__40 (by decide) (by decide) (by decide) rfl rfl (lc_27 hi I hn hc hk kk)
    | 28, _ => exact j_tabIn (tgt := 1850) (off := 1810) dL_law__40 (by decide) (by decide) (by decide) rfl rfl (lc_28 hi I hn hc hk kk)
    | 29, _ => exact j_tabIn (tgt := 1906) (off := 1866) dL_law__40 (by decide) (by decide) (by decide) rfl rfl (lc_29 hi I hn hc hk kk)
    | 30, _ => exact j_tabIn (tgt := 1974) (off := 1934) dL_law__40 (by decide) (by decide) (by decide) rfl rfl (lc_30 hi I hn hc hk kk)
    | 31, _ => exact j_tabIn (tgt := 2042) (off := 2002) dL_law__40 (by decide) (by decide) (by decide) rfl rfl (lc_31 hi I hn hc hk kk)
    | 32, _ => exact j_tabIn (tgt := 2055) (off := 2015) dL_law__40 (by decide) (by decide) (by decide) rfl rfl (lc_32 hi I hn hc hk kk)
    | 33, _ => exact j_tabIn (tgt := 2111) (off := 2071) dL_law__40 (by decide) (by decide) (by decide) rfl rfl (lc_33 hi I hn hc hk kk)
    | 34, _ => exact j_tabIn (tgt := 2124) (off := 2084) dL_law__40 (by decide) (by decide) (by decide) rfl rfl (lc_34 hi I hn hc hk kk)
    | 35, _ => exact j_tabIn (tgt := 2180) (off := 2140) dL_law__40 (by decide) (by decide) (by decide) rfl rfl (lc_35 hi I hn hc hk kk)
    | 36, _ => exact j_tabIn (tgt := 2205) (off := 2165) dL_law__40 (by decide) (by decide) (by decide) rfl rfl (lc_36 hi I hn hc hk kk)
    | 37, _ => exact j_tabIn (tgt := 2218) (off := 2178) dL_law__40 (by decide) (by decide) (by decide) rfl rfl (lc_37 hi I hn hc hk kk)
    | 38, _ => exact j_tabIn (tgt := 2262) (off := 2222) dL_law__40 (by decide) (by decide) (by decide) rfl rfl (lc_38 hi I hn hc hk kk)
    | 39, _ => exact j_tabIn (tgt := 2318) (off := 2278) dL_law__40 (by decide) (by decide) (by decide) rfl rfl (lc_39 hi I hn hc hk kk)
    | 40, _ => exact j_tabIn (tgt := 2359) (off := 2319) dL_law__40 (by decide) (by decide) (by decide) rfl rfl (lc_40 hi I hn hc hk kk)
    | 41, _ => exact j_tabIn (tgt := 2415) (off := 2375) dL_law__40 (by decide) (by decide) (by decide) rfl rfl (lc_41 hi I hn hc hk kk)
    | 42, _ => exact j_tabIn (tgt := 2511) (off := 2471) dL_law__40 (by decide) (by decide) (by decide) rfl rfl (lc_42 hi I hn hc hk kk)
    | 43, _ => exact j_tabIn (tgt := 2607) (off := 2567) dL_law__40 (by decide) (by decide) (by decide) rfl rfl (lc_43 hi I hn hc hk kk)
    | 44, _ => exact j_tabIn (tgt := 2663) (off := 2623) dL_law__40 (by decide) (by decide) (by decide) rfl rfl (lc_44 hi I hn hc hk kk)
    | 45, _ => exact j_tabIn (tgt := 2731) (off := 2691) dL_law__40 (by decide) (by decide) (by decide) rfl rfl (lc_45 hi I hn hc hk kk)
    | 46, _ => exact j_tabIn (tgt := 2756) (off := 2716) dL_law__40 (by decide) (by decide) (by decide) rfl rfl (lc_46 hi I hn hc hk kk)
    | 47, _ => exact j_tabIn (tgt := 2769) (off := 2729) dL_law__40 (by decide) (by decide) (by decide) rfl rfl (lc_47 hi I hn hc hk kk)
    | 48, _ => exact j_tabIn (tgt := 2780) (off := 2740) dL_law__40 (by decide) (by decide) (by decide) rfl rfl (lc_48 hi I hn hc hk kk)
    | 49, _ => exact j_tabIn (tgt := 2793) (off := 2753) dL_law__40 (by decide) (by decide) (by decide) rfl rfl (lc_49 hi I hn hc hk kk)
    | q + 50, h => exact absurd h (by omega)
theorem law_head (hm : oPn Ω ≤ 3072) (h0 : 0 ≤ i ∧ i ≤ 100000) (k1 : i + 6 ≤ oPn Ω → JL Ω Z 33 (LSm i) [] D c0 k0) (k2 : ¬ i + 6 ≤ oPn Ω → JL Ω Z 2824 (LSm i) [] D c0 k0) : JL Ω Z 23 (LSm i) [] D c0 k0 := by
  refine j_iload (pc' := 25) dL_law__23 rfl rfl ?_
  refine j_aload_n (pc' := 26) dL_law__25 rfl rfl ?_
  refine j_slen (pc' := 27) dL_law__26 rfl ?_
  refine j_bipush (pc' := 29) dL_law__27 rfl rfl ?_
  refine j_isub (pc' := 30) dL_law__29 rfl ?_
  exact j_icmp_gt (tgt := 2824) (pc' := 33) dL_law__30 rfl rfl ⟨by omega, by omega⟩ ⟨by omega, by omega⟩ (fun q => k2 (by omega)) (fun q => k1 (by omega))
theorem law_ends (hc : c0 ≤ 601024) (hk : k0 ≤ 7293034) : JL Ω Zt 2824 (LSm i) [] D c0 k0 := by
  refine j_iconst (pc' := 2825) dL_law__2824 rfl ?_
  exact j_zret dL_law__2825 rfl (Or.inr rfl) hc hk rfl
theorem law_loop (hm : oPn Ω ≤ 3072) : ∀ (m n : Nat) (D : mD), oPn Ω ≤ 6 * n + 6 * m → n ≤ 512 → INV (n : Int) D → JL Ω Zt 23 (LSm ((6 * n : Nat) : Int)) [] D (149 + 2 * n) (85980 + 12 * n) := by
  intro m
  induction m with
  | zero =>
    intro n D hL hn I
    exact law_head hm ⟨by omega, by omega⟩ (fun q => absurd q (by omega)) (fun _ => law_ends (by omega) (by omega))
  | succ m ih =>
    intro n D hL hn I
    refine law_head hm ⟨by omega, by omega⟩ (fun q => ?_) (fun _ => law_ends (by omega) (by omega))
    refine law_case ⟨by omega, q, hm⟩ I ⟨by omega, by omega⟩ (by omega) (by omega) (fun F I' => ?_)
    have K := ih (n + 1) F (by omega) (by omega) (by rw [show ((n + 1 : Nat) : Int) = (n : Int) + 1 by omega]; exact I')
    rw [show 149 + 2 * (n + 1) = 149 + 2 * n + 2 by omega, show 85980 + 12 * (n + 1) = 85980 + 12 * n + 12 by omega] at K
    exact j_iinc (pc' := 2821) (z' := ((6 * (n + 1) : Nat) : Int)) (ls' := LSm ((6 * (n + 1) : Nat) : Int)) dL_law__2818 rfl rfl (by omega) (by decide) rfl (j_goto (tgt := 23) dL_law__2821 rfl K)
/-- nothing more is made of the world -/
theorem j_open {M : mM} {d c k pc : Nat} {ls : List (Option mV)} {st : List mV} {sk : List mC} (kk : J Ω M d c k Z pc ls st (sk, D, false) c0 k0) : J Ω M d c k Z pc ls st (sk, D, true) c0 k0 := by
  intro p e s m args below meth cd H locs la X w hS hl
  exact kk p e s m args below meth cd H locs la X ⟨w.1, w.2.1, w.2.2.1, fun h => by cases h⟩ hS hl
set_option maxRecDepth 100000 in
theorem law_main (hm : oPn Ω ≤ 3072) : J Ω M_L_law_ 100 601024 7293034 Zt 0 [some (mR 2000000), none, none, none, none, none, none] [] ([], D, true) 0 0 := by
  refine n_new (pc' := 3) (P := []) (L := []) (L' := [(10, 16, [some 0, some 0, some 0, some 0, some 0, some 0, some 0, some 0, some 0, some 0, some 0, some 0, some 0, some 0, none, none])]) (a := 0) (rs := [some 0, some 0, some 0, some 0, some 0, some 0, some 0, some 0, some 0, some 0, some 0, some 0, some 0, some 0, none, none]) kc_10 w_30 w_31 w_1 hty_10 dL_law__0 rfl (by decide) (by decide) (by decide) rfl rfl ?_
  refine j_dup (pc' := 4) dL_law__3 rfl rfl ?_
  refine n_callI (pc' := 7) (P := []) (L := [(10, 16, [some 0, some 0, some 0, some 0, some 0, some 0, some 0, some 0, some 0, some 0, some 0, some 0, some 0, some 0, none, none])]) (L2 := SK.take 133) (as := []) (rest := [mR 0]) (d' := 5) (i_board (P := []) rfl) cw_L_124 w_33 rfl rfl dL_law__4 rfl (by decide) rfl rfl (by decide) rfl rfl (by decide) (by decide) ?_
  refine j_astore_n (pc' := 8) (ls' := [some (mR 2000000), some (mR 0), none, none, none, none, none]) dL_law__7 rfl (by decide) rfl ?_
  refine n_new (pc' := 11) (P := []) (L := SK.take 133) (L' := SK.take 133 ++ [(11, 28, [none, some 0, some 0, some 0, some 0, some 0, none, none, some 0, none, none, none, none, none, none, some 0, none, some 0, none, none, none, none, some 0, some 0, some 0, some 0, some 0, some 0])]) (a := 133) (rs := [none, some 0, some 0, some 0, some 0, some 0, none, none, some 0, none, none, none, none, none, none, some 0, none, some 0, none, none, none, none, some 0, some 0, some 0, some 0, some 0, some 0]) kc_11 w_1470 w_1471 w_14 hty_11 dL_law__8 rfl (by decide) (by decide) (by decide) rfl rfl ?_
  refine j_dup (pc' := 12) dL_law__11 rfl rfl ?_
  refine n_callI (pc' := 15) (P := []) (L := SK.take 133 ++ [(11, 28, [none, some 0, some 0, some 0, some 0, some 0, none, none, some 0, none, none, none, none, none, none, some 0, none, some 0, none, none, none, none, some 0, some 0, some 0, some 0, some 0, some 0])]) (L2 := SK.take 133 ++ (SK.drop 133).take 15) (as := []) (rest := [mR 133]) (d' := 2) (i_model (P := SK.take 133) rfl) cw_L_127 w_1473 rfl rfl dL_law__12 rfl (by decide) rfl rfl (by decide) rfl rfl (by decide) (by decide) ?_
  refine j_astore_n (pc' := 16) (ls' := [some (mR 2000000), some (mR 0), some (mR 133), none, none, none, none]) dL_law__15 rfl (by decide) rfl ?_
  refine j_iconst (pc' := 17) dL_law__16 rfl ?_
  refine n_newa (pc' := 19) (P := []) (L := SK.take 133 ++ (SK.drop 133).take 15) (L' := SK) (a := 148) (N := 1) (kd := 22) (Or.inr (Or.inr ⟨rfl, rfl⟩)) w_2212 dL_law__17 rfl rfl (by decide) (by decide) (by decide) (by decide) rfl rfl ?_
  refine j_astore_n (pc' := 20) (ls' := [some (mR 2000000), some (mR 0), some (mR 133), some (mR 148), none, none, none]) dL_law__19 rfl (by decide) rfl ?_
  refine j_iconst (pc' := 21) dL_law__20 rfl ?_
  refine j_istore (pc' := 23) (ls' := LSm ((6 * 0 : Nat) : Int)) dL_law__21 rfl (by decide) rfl ?_
  refine j_widen (ce := 149 + 2 * 0) (ke := 85980 + 12 * 0) (by decide) (by decide) ?_
  refine j_open ?_
  exact law_loop hm 512 0 (iAll D) (by omega) (by omega) INV.first
end PLo
