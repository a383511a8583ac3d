/-! TEXTS: length, charAt -/
section MK2
variable {Ω : mO} {M M' : mM} {d d' c k c' k' : Nat} {Z : mZ} {pc pc' : Nat} {ls ls' : List (Option mV)} {st rest : List mV} {D D1 : mD} {c0 k0 ce ke : Nat} {h : mH} {si : Nat}
theorem w_751 : Cond.fieldLink RJ0 38 RJ0 "COMPACT_STRINGS" "Z" ∈ WSg := wk 751 (by decide +kernel) (by decide +kernel)
theorem w_767 : Cond.fieldLink RJ0 1053 RJ3 "SIOOBE_FORMATTER" "Ljava/util/function/BiFunction;" ∈ WSg := wk 767 (by decide +kernel) (by decide +kernel)
theorem mStr_len : mStr.length = 81 := by decide +kernel
theorem mStr_small : ∀ q ∈ mStr, q.2.2.toList.length < 100 ∧ ∀ x ∈ q.2.2.toList, x.toNat < 128 := by decide +kernel
theorem mStr_at (hs : si < 81) : ∃ q, mStr[si]? = some q ∧ sTx si = q.2.2.toList.map (fun c => (c.toNat : Int)) ∧ q ∈ mStr := by
  have h1 : si < mStr.length := by rw [mStr_len]; exact hs
  refine ⟨mStr[si], List.getElem?_eq_getElem h1, ?_, List.getElem_mem h1⟩
  unfold sTx
  rw [List.getD_eq_getElem?_getD, List.getElem?_eq_getElem h1]
  rfl
theorem sTx_small (hs : si < 81) : sLen si < 100 ∧ ∀ x ∈ sTx si, 0 ≤ x ∧ x < 128 := by
  obtain ⟨q, h1, h2, h3⟩ := mStr_at hs
  obtain ⟨h4, h5⟩ := mStr_small q h3
  refine ⟨?_, fun x hx => ?_⟩
  · unfold sLen; rw [h2, List.length_map]; omega
  · rw [h2] at hx
    obtain ⟨y, hy, rfl⟩ := List.mem_map.mp hx
    have := h5 y hy
    omega
theorem sAt_small (hs : si < 81) (i : Int) : 0 ≤ sAt si i ∧ sAt si i < 128 := by
  unfold sAt
  rw [List.getD_eq_getElem?_getD]
  cases h1 : (sTx si)[i.toNat]? with
  | none => simp
  | some x => simpa using (sTx_small hs).2 x (List.mem_of_getElem? h1)
theorem ca_str (j : Nat) : ca Ω (1000000 + j) = oS Ω j := by
  unfold ca
  rw [if_neg (by omega), Nat.add_sub_cancel_left]
theorem cv_str (j : Nat) : cv Ω (mR (1000000 + j)) = .ref (oS Ω j) := by
  show Value.ref (ca Ω (1000000 + j)) = _
  rw [ca_str]
theorem j_sVal (hs : si < 81) (hw : Cond.fieldLink M.1.cls 9 RJ0 "value" "[B" ∈ WSg) (hd : decode M.2.1 pc = .ok (.getfield 9, 3)) (hn : pc + 3 = pc')
    (kk : J Ω M d c k Z pc' ls (mR (1000000 + (100 + si)) :: st) h c0 k0) : J Ω M d c k Z pc ls (mR (1000000 + si) :: st) h c0 k0 := by
  intro p e s m args below meth cd H locs la X w hS hl
  subst hn
  have q := kk p e s m args below meth cd H locs la X w hS hl
  obtain ⟨q1, hq1, -, -⟩ := mStr_at hs
  have hX := X.2.2.2.2.2.2.2.2.2.2.2
  have h5 := hX.2.2.2.2.1 si q1 hq1
  have htie := hX.2.2.1.1.2.2 si hs
  rw [List.map_cons, cv_str] at q
  rw [List.map_cons, cv_str]
  rw [htie] at q
  exact vk_getf X.1 X.2.1 h5.2.2.1 hS X.2.2.2.2.2.1 (X.2.2.2.2.2.2.1 _ hw) (fun x hx => hx) hd q
theorem j_sCoder (hs : si < 81) (hw : Cond.fieldLink M.1.cls 15 RJ0 "coder" "B" ∈ WSg) (hd : decode M.2.1 pc = .ok (.getfield 15, 3)) (hn : pc + 3 = pc')
    (kk : J Ω M d c k Z pc' ls (mI 0 :: st) h c0 k0) : J Ω M d c k Z pc ls (mR (1000000 + si) :: st) h c0 k0 := by
  intro p e s m args below meth cd H locs la X w hS hl
  subst hn
  have q := kk p e s m args below meth cd H locs la X w hS hl
  obtain ⟨q1, hq1, -, -⟩ := mStr_at hs
  have hX := X.2.2.2.2.2.2.2.2.2.2.2
  have h5 := hX.2.2.2.2.1 si q1 hq1
  rw [List.map_cons, cv_str]
  exact vk_getf X.1 X.2.1 h5.2.1 hS X.2.2.2.2.2.1 (X.2.2.2.2.2.2.1 _ hw) (fun x hx => hx) hd q
theorem j_sCompact (hw : Cond.fieldLink M.1.cls 38 RJ0 "COMPACT_STRINGS" "Z" ∈ WSg) (hd : decode M.2.1 pc = .ok (.getstatic 38, 3)) (hn : pc + 3 = pc')
    (kk : J Ω M d c k Z pc' ls (mI 1 :: st) h c0 k0) : J Ω M d c k Z pc ls st h c0 k0 := by
  intro p e s m args below meth cd H locs la X w hS hl
  subst hn
  have q := kk p e s m args below meth cd H locs la X w hS hl
  exact va_gets X.1 X.2.1 X.2.2.2.2.2.2.2.2.2.2.2.2.2.1.1.1 hS X.2.2.2.2.2.1 (X.2.2.2.2.2.2.1 _ hw) (fun x hx => hx) hd q
theorem j_sFmt (hw : Cond.fieldLink M.1.cls 1053 RJ3 "SIOOBE_FORMATTER" "Ljava/util/function/BiFunction;" ∈ WSg) (hd : decode M.2.1 pc = .ok (.getstatic 1053, 3)) (hn : pc + 3 = pc')
    (kk : ∀ v : mV, c1 v = true → J Ω M d c k Z pc' ls (v :: st) h c0 k0) : J Ω M d c k Z pc ls st h c0 k0 := by
  intro p e s m args below meth cd H locs la X w hS hl
  subst hn
  rcases X.2.2.2.2.2.2.2.2.2.2.2.2.2.1.1.2.1 with hz | hz
  · have q := kk mN rfl p e s m args below meth cd H locs la X w hS hl
    exact va_gets X.1 X.2.1 hz hS X.2.2.2.2.2.1 (X.2.2.2.2.2.2.1 _ hw) (fun x hx => hx) hd q
  · have q := kk (mR (1000000 + 99)) rfl p e s m args below meth cd H locs la X w hS hl
    rw [List.map_cons, cv_str] at q
    exact va_gets X.1 X.2.1 hz hS X.2.2.2.2.2.1 (X.2.2.2.2.2.2.1 _ hw) (fun x hx => hx) hd q
theorem mBy_len {tx : String} : (mBy tx).length = tx.toList.length := by unfold mBy; rw [List.length_map]
theorem j_sLen (hs : si < 81) (hd : decode M.2.1 pc = .ok (.arraylength, 1)) (hn : pc + 1 = pc')
    (kk : J Ω M d c k Z pc' ls (mI (sLen si) :: st) h c0 k0) : J Ω M d c k Z pc ls (mR (1000000 + (100 + si)) :: st) h c0 k0 := by
  intro p e s m args below meth cd H locs la X w hS hl
  subst hn
  have q := kk p e s m args below meth cd H locs la X w hS hl
  obtain ⟨q1, hq1, hq2, -⟩ := mStr_at hs
  have hX := X.2.2.2.2.2.2.2.2.2.2.2
  have h5 := hX.2.2.2.2.1 si q1 hq1
  have htie := hX.2.2.1.1.2.2 si hs
  rw [List.map_cons, cv_str, htie]
  refine va_tlen X.1 X.2.1 h5.2.2.2 hS (v := Int32.ofInt (sLen si)) ?_ hd q
  unfold sLen
  rw [hq2, List.length_map, mBy_len, Int32.ofInt_eq_ofNat]
theorem j_sByte {i : Int} (hs : si < 81) (h0 : 0 ≤ i) (h1 : i < sLen si) (hd : decode M.2.1 pc = .ok (.baload, 1)) (hn : pc + 1 = pc')
    (kk : J Ω M d c k Z pc' ls (mI (sAt si i) :: st) h c0 k0) : J Ω M d c k Z pc ls (mI i :: mR (1000000 + (100 + si)) :: st) h c0 k0 := by
  intro p e s m args below meth cd H locs la X w hS hl
  subst hn
  have q := kk p e s m args below meth cd H locs la X w hS hl
  obtain ⟨q1, hq1, hq2, -⟩ := mStr_at hs
  have hX := X.2.2.2.2.2.2.2.2.2.2.2
  have h5 := hX.2.2.2.2.1 si q1 hq1
  have htie := hX.2.2.1.1.2.2 si hs
  have hl2 := (sTx_small hs).1
  have hlen : sLen si = ((mBy q1.2.2).length : Int) := by unfold sLen; rw [hq2, List.length_map, mBy_len]
  rw [List.map_cons, List.map_cons, cv_str, htie]
  refine va_tb X.1 X.2.1 h5.2.2.2 hS (i := Int32.ofInt i) (ti_in h0 (by omega) (by omega)) (v := .int (Int32.ofInt (sAt si i))) ?_ hd q
  rw [ti_cl ⟨by omega, by omega⟩]
  congr 1
  unfold sAt mBy
  rw [hq2, List.getD_eq_getElem?_getD, List.getD_eq_getElem?_getD, List.getElem?_map, List.getElem?_map]
  cases q1.2.2.toList[i.toNat]? with
  | none => rfl
  | some x => simp [Int32.ofInt_eq_ofNat]
theorem j_nret {ty : FieldType} {z : Int} (hd : decode M.2.1 pc = .ok (.ireturn, 1)) (hr : M.2.2.2.1 = some ty) (hn : narrow ty (.int (Int32.ofInt z)) = .int (Int32.ofInt z)) (hc : c0 ≤ c) (hk : k0 ≤ k) (hz : Z (.inl (some (mI z))) h) : J Ω M d c k Z pc ls [mI z] h c0 k0 := by
  intro p e s m args below meth cd H locs la X w hS hl
  refine vx_ret (W.widen hc hk ?_)
  exact W.zret X.1 X.2.1 (by rw [X.2.2.2.1]; exact hr) hn (mQr_of (m := m) (meth := meth) (cd := cd) (p := p) w hS hz) hS.2.2 hd X.2.2.2.2.1
/-- a call of a text's own method -/
theorem k_cStr {i n : Nat} {v : Int} (hs : si < 81) (as rest : List mV) (hM : CM d' 0 0 M' (mR (1000000 + si) :: as) (SK, D, false) (rI v D1)) (w : Cw M.1.cls M' i n) (hi : Cond.instanceMethod M'.1 ∈ WSg) (hsl : Cond.selects "java/lang/String" M'.1 M'.1 ∈ WSg)
    (hd : decode M.2.1 pc = .ok (.invokevirtual i, 3)) (hn : pc + 3 = pc') (hdd : d' + 1 ≤ d) (hlen : as.length = n) (ht : M.2.2.2.2 = []) (hst : as.reverse ++ mR (1000000 + si) :: rest = st) (hrs : (rest.all c1 && Nat.ble rest.length 8) = true) (hcc : c0 ≤ c) (hkk : k0 ≤ k)
    (kk : J Ω M d c k Z pc' ls (mI v :: rest) (SK, D1, false) c0 k0) : J Ω M d c k Z pc ls st (SK, D, false) c0 k0 := by
  intro p e s m args below meth cd H locs la X w0 hS hl
  subst hn; subst hst
  obtain ⟨q1, hq1, -, -⟩ := mStr_at hs
  have hX := X.2.2.2.2.2.2.2.2.2.2.2
  have h5 := hX.2.2.2.2.1 si q1 hq1
  have hrecv : ∃ cell : Cell, H[oS Ω si]? = some cell ∧ cell.vm.isStatics = false ∧ s.vm.findClass "java/lang/String" = some cell.cls := by
    obtain ⟨cell, g1, g2, g3, -⟩ := h5.1.kept hS.2.1
    exact ⟨cell, g1, g2, g3⟩
  have hpre := mPc_at (as := mR (1000000 + si) :: as) w0 hX hS
  rw [List.map_cons, cv_str] at hpre
  refine j_after (c' := 0) (k' := 0) X hS hl ht (show c0 + 0 ≤ c from hcc) (show k0 + 0 ≤ k from hkk) (vx_runV (As := as.map (cv Ω)) (rest := rest.map (cv Ω)) (b := oS Ω si) (C := "java/lang/String") (nL := M.2.2.1) ⟨X.1, X.2.1, X.2.2.1, X.2.2.2.2.2.1, X.2.2.2.2.2.2.1⟩ (hM Ω X.2.2.2.2.2.2.2.2.2.1) ⟨w.B X.2.2.2.2.2.2.1 hdd, X.2.2.2.2.2.2.1 _ hi, X.2.2.2.2.2.2.1 _ hsl⟩ ⟨mPc_blind, hrecv, hpre⟩ rfl (by rw [List.length_map]; exact hlen) hl.1 ?_ (lv_room (hrs_of hrs)) hd ⟨hcc, hkk⟩) (fun v' h' hz => by obtain ⟨e1, e2⟩ := hz; cases e1; cases e2; exact kk) (fun i h' hz => by cases hz.1)
  show ((as.reverse ++ mR (1000000 + si) :: rest).map (cv Ω)) = _
  rw [List.map_append, List.map_reverse, List.map_cons, cv_str]
theorem shr0 {z : Int} (hz : nR z) : bShr z 0 = z := by
  unfold bShr
  rw [show ((Int32.ofInt 0) &&& 31) = 0 by decide]
  rw [show Int32.ofInt z >>> (0 : Int32) = Int32.ofInt z by
    apply Int32.toBitVec_inj.mp
    simp]
  exact ti hz
theorem k_coder (hs : si < 81) {d : Nat} (_ : 1 ≤ d) : CM d 0 0 M_J0_coder_7d493 [mR (1000000 + si)] (SK, D, false) (rI 0 D) := by
  refine CM.intro (by decide +kernel) rfl rfl (Nat.le_of_ble_eq_true rfl) (fun Ω => ?_)
  refine j_sCompact (pc' := 3) w_751 dJ0_coder_7d493_0 rfl (j_if_eq (tgt := 13) (pc' := 6) dJ0_coder_7d493_3 rfl rfl (by decide) (fun q => absurd q (by decide)) (fun _ => ?_))
  exact j_aload_n (pc' := 7) dJ0_coder_7d493_6 rfl rfl (j_sCoder (pc' := 10) hs w_2234 dJ0_coder_7d493_7 rfl (j_goto (tgt := 14) dJ0_coder_7d493_10 rfl (j_nret dJ0_coder_7d493_14 rfl (by decide +kernel) (Nat.le_refl _) (Nat.le_refl _) ⟨rfl, rfl⟩)))
theorem k_isL1 (hs : si < 81) {d : Nat} (_ : 1 ≤ d) : CM d 0 0 M_J0_isLatin1_aae02 [mR (1000000 + si)] (SK, D, false) (rI 1 D) := by
  refine CM.intro (by decide +kernel) rfl rfl (Nat.le_of_ble_eq_true rfl) (fun Ω => ?_)
  refine j_sCompact (pc' := 3) w_751 dJ0_isLatin1_aae02_0 rfl (j_if_eq (tgt := 17) (pc' := 6) dJ0_isLatin1_aae02_3 rfl rfl (by decide) (fun q => absurd q (by decide)) (fun _ => ?_))
  refine j_aload_n (pc' := 7) dJ0_isLatin1_aae02_6 rfl rfl (j_sCoder (pc' := 10) hs w_2234 dJ0_isLatin1_aae02_7 rfl (j_if_ne (tgt := 17) (pc' := 13) dJ0_isLatin1_aae02_10 rfl rfl (by decide) (fun q => absurd rfl q) (fun _ => ?_)))
  exact j_iconst (pc' := 14) dJ0_isLatin1_aae02_13 rfl (j_goto (tgt := 18) dJ0_isLatin1_aae02_14 rfl (j_zret dJ0_isLatin1_aae02_18 rfl (Or.inr rfl) (Nat.le_refl _) (Nat.le_refl _) ⟨rfl, rfl⟩))
theorem sLen_nR (hs : si < 81) : nR (sLen si) := by
  have h1 := (sTx_small hs).1
  have h2 : 0 ≤ sLen si := Int.natCast_nonneg _
  constructor <;> omega
theorem k_length (hs : si < 81) {d : Nat} (hd : 2 ≤ d) : CM d 0 0 M_J0_length_8abf5 [mR (1000000 + si)] (SK, D, false) (rI (sLen si) D) := by
  refine CM.intro (by decide +kernel) rfl rfl (Nat.le_of_ble_eq_true rfl) (fun Ω => ?_)
  refine j_aload_n (pc' := 1) dJ0_length_8abf5_0 rfl rfl (j_sVal (pc' := 4) hs w_2233 dJ0_length_8abf5_1 rfl (j_sLen (pc' := 5) hs dJ0_length_8abf5_4 rfl (j_aload_n (pc' := 6) dJ0_length_8abf5_5 rfl rfl ?_)))
  refine k_cStr (d' := 1) (pc' := 9) hs [] [mI (sLen si)] (k_coder hs (Nat.le_refl _)) cw_J0_335 w_748 w_749 dJ0_length_8abf5_6 rfl (by omega) rfl rfl rfl rfl (Nat.le_refl _) (Nat.le_refl _) ?_
  refine j_ishr (pc' := 10) dJ0_length_8abf5_9 rfl ?_
  rw [shr0 (sLen_nR hs)]
  exact j_iret dJ0_length_8abf5_10 rfl (Nat.le_refl _) (Nat.le_refl _) ⟨rfl, rfl⟩
theorem k_pci {i n : Int} {v : mV} (hv : c1 v = true) (hi : nR i) (hn : nR n) (h0 : 0 ≤ i) (h1 : i < n) {d : Nat} (_ : 1 ≤ d) : CM d 0 0 M_J3_checkIndex_8e157 [mI i, mI n, v] (SK, D, false) (rI i D) := by
  refine CM.intro (by decide +kernel) rfl (by show (true && (true && (c1 v && true))) = true; rw [hv]; rfl) (Nat.le_of_ble_eq_true rfl) (fun Ω => ?_)
  refine j_iload_n (pc' := 1) dJ3_checkIndex_8e157_0 rfl rfl (j_if_lt (tgt := 9) (pc' := 4) dJ3_checkIndex_8e157_1 rfl rfl hi (fun q => absurd q (by omega)) (fun _ => ?_))
  refine j_iload_n (pc' := 5) dJ3_checkIndex_8e157_4 rfl rfl (j_iload_n (pc' := 6) dJ3_checkIndex_8e157_5 rfl rfl (j_icmp_lt (tgt := 16) (pc' := 9) dJ3_checkIndex_8e157_6 rfl rfl hi hn (fun _ => ?_) (fun q => absurd h1 q)))
  exact j_iload_n (pc' := 17) dJ3_checkIndex_8e157_16 rfl rfl (j_iret dJ3_checkIndex_8e157_17 rfl (Nat.le_refl _) (Nat.le_refl _) ⟨rfl, rfl⟩)
theorem k_chk {i n : Int} (hi : nR i) (hn : nR n) (h0 : 0 ≤ i) (h1 : i < n) {d : Nat} (hd : 2 ≤ d) : CM d 0 0 M_J0_checkIndex_df160 [mI i, mI n] (SK, D, false) (rV D) := by
  refine CM.intro (by decide +kernel) rfl rfl (Nat.le_of_ble_eq_true rfl) (fun Ω => ?_)
  refine j_iload_n (pc' := 1) dJ0_checkIndex_df160_0 rfl rfl (j_iload_n (pc' := 2) dJ0_checkIndex_df160_1 rfl rfl (j_sFmt (pc' := 5) w_767 dJ0_checkIndex_df160_2 rfl (fun v hv => ?_)))
  refine k_cS (d' := 1) (pc' := 8) [mI i, mI n, v] [] (k_pci hv hi hn h0 h1 (Nat.le_refl _)) cw_J0_1059 w_770 dJ0_checkIndex_df160_5 rfl (by omega) rfl rfl rfl rfl (Nat.le_refl _) (Nat.le_refl _) ?_
  exact j_pop (pc' := 9) dJ0_checkIndex_df160_8 rfl rfl (j_vret dJ0_checkIndex_df160_9 rfl (Nat.le_refl _) (Nat.le_refl _) ⟨rfl, rfl⟩)
theorem and255 : ∀ n : Nat, n < 128 → bAnd (n : Int) 255 = n := by decide +kernel
theorem i2c_small : ∀ n : Nat, n < 128 → ((Int32.ofInt (n : Int)).toUInt32 % 65536).toInt32 = Int32.ofInt (n : Int) := by decide +kernel
theorem nar_small : ∀ n : Nat, n < 128 → narrow .char (.int (Int32.ofInt (n : Int))) = .int (Int32.ofInt (n : Int)) := by decide +kernel
theorem j_i2cS {z : Int} (hz0 : 0 ≤ z) (hz : z < 128) (hd : decode M.2.1 pc = .ok (.i2c, 1)) (hn : pc + 1 = pc') (kk : J Ω M d c k Z pc' ls (mI z :: st) h c0 k0) : J Ω M d c k Z pc ls (mI z :: st) h c0 k0 := by
  intro p e s m args below meth cd H locs la X w hS hl
  subst hn
  have q := kk p e s m args below meth cd H locs la X w hS hl
  obtain ⟨n, rfl⟩ := Int.eq_ofNat_of_zero_le hz0
  exact lv_i2c X.1 X.2.1 hd (i2c_small n (by omega)) q
theorem nar_at (hs : si < 81) (i : Int) : narrow .char (.int (Int32.ofInt (sAt si i))) = .int (Int32.ofInt (sAt si i)) := by
  obtain ⟨h1, h2⟩ := sAt_small hs i
  obtain ⟨n, hn⟩ := Int.eq_ofNat_of_zero_le h1
  rw [hn]
  exact nar_small n (by omega)
theorem k_chL1 (hs : si < 81) {i : Int} (h0 : 0 ≤ i) (h1 : i < sLen si) {d : Nat} (hd : 3 ≤ d) : CM d 0 0 M_J1_charAt_3b067 [mR (1000000 + (100 + si)), mI i] (SK, D, false) (rI (sAt si i) D) := by
  have hl := (sTx_small hs).1
  obtain ⟨g1, g2⟩ := sAt_small hs i
  refine CM.intro (by decide +kernel) rfl rfl (Nat.le_of_ble_eq_true rfl) (fun Ω => ?_)
  refine j_iload_n (pc' := 1) dJ1_charAt_3b067_0 rfl rfl (j_aload_n (pc' := 2) dJ1_charAt_3b067_1 rfl rfl (j_sLen (pc' := 3) hs dJ1_charAt_3b067_2 rfl ?_))
  refine k_cSv (d' := 2) (pc' := 6) [mI i, mI (sLen si)] [] (k_chk (D := D) ⟨by omega, by omega⟩ (sLen_nR hs) h0 h1 (Nat.le_refl _)) cw_J1_9 w_765 dJ1_charAt_3b067_3 rfl (by omega) rfl rfl rfl rfl (Nat.le_refl _) (Nat.le_refl _) ?_
  refine j_aload_n (pc' := 7) dJ1_charAt_3b067_6 rfl rfl (j_iload_n (pc' := 8) dJ1_charAt_3b067_7 rfl rfl (j_sByte (pc' := 9) hs h0 h1 dJ1_charAt_3b067_8 rfl (j_sipush (pc' := 12) dJ1_charAt_3b067_9 rfl rfl (j_iand (pc' := 13) dJ1_charAt_3b067_12 rfl ?_))))
  have e : bAnd (sAt si i) 255 = sAt si i := by
    obtain ⟨n, hn⟩ := Int.eq_ofNat_of_zero_le g1
    rw [hn]
    exact and255 n (by omega)
  rw [e]
  exact j_i2cS (pc' := 14) g1 g2 dJ1_charAt_3b067_13 rfl (j_nret dJ1_charAt_3b067_14 rfl (nar_at hs i) (Nat.le_refl _) (Nat.le_refl _) ⟨rfl, rfl⟩)
theorem k_charAt (hs : si < 81) {i : Int} (h0 : 0 ≤ i) (h1 : i < sLen si) {d : Nat} (hd : 4 ≤ d) : CM d 0 0 M_J0_charAt_5068e [mR (1000000 + si), mI i] (SK, D, false) (rI (sAt si i) D) := by
  refine CM.intro (by decide +kernel) rfl rfl (Nat.le_of_ble_eq_true rfl) (fun Ω => ?_)
  refine j_aload_n (pc' := 1) dJ0_charAt_5068e_0 rfl rfl ?_
  refine k_cStr (d' := 1) (pc' := 4) hs [] [] (k_isL1 (D := D) hs (Nat.le_refl _)) cw_J0_492 w_758 w_759 dJ0_charAt_5068e_1 rfl (by omega) rfl rfl rfl rfl (Nat.le_refl _) (Nat.le_refl _) ?_
  refine j_if_eq (tgt := 16) (pc' := 7) dJ0_charAt_5068e_4 rfl rfl (by decide) (fun q => absurd q (by decide)) (fun _ => ?_)
  refine j_aload_n (pc' := 8) dJ0_charAt_5068e_7 rfl rfl (j_sVal (pc' := 11) hs w_2233 dJ0_charAt_5068e_8 rfl (j_iload_n (pc' := 12) dJ0_charAt_5068e_11 rfl rfl ?_))
  refine k_cS (d' := 3) (pc' := 15) [mR (1000000 + (100 + si)), mI i] [] (k_chL1 (D := D) hs h0 h1 (Nat.le_refl _)) cw_J0_495 w_762 dJ0_charAt_5068e_12 rfl (by omega) rfl rfl rfl rfl (Nat.le_refl _) (Nat.le_refl _) ?_
  exact j_nret dJ0_charAt_5068e_15 rfl (nar_at hs i) (Nat.le_refl _) (Nat.le_refl _) ⟨rfl, rfl⟩
theorem k_strlen {i : Nat} (hs : si < 81) (w : Cw M.1.cls M_J0_length_8abf5 i 0) (hd : decode M.2.1 pc = .ok (.invokevirtual i, 3)) (hn : pc + 3 = pc') (hdd : 3 ≤ d) (ht : M.2.2.2.2 = []) (hrs : (rest.all c1 && Nat.ble rest.length 8) = true) (hcc : c0 ≤ c) (hkk : k0 ≤ k)
    (kk : J Ω M d c k Z pc' ls (mI (sLen si) :: rest) (SK, D, false) c0 k0) : J Ω M d c k Z pc ls (mR (1000000 + si) :: rest) (SK, D, false) c0 k0 :=
  k_cStr (d' := 2) hs [] rest (k_length hs (Nat.le_refl _)) w w_744 w_745 hd hn hdd rfl ht rfl hrs hcc hkk kk
theorem k_strchr {i : Nat} {z : Int} (hs : si < 81) (h0 : 0 ≤ z) (h1 : z < sLen si) (w : Cw M.1.cls M_J0_charAt_5068e i 1) (hd : decode M.2.1 pc = .ok (.invokevirtual i, 3)) (hn : pc + 3 = pc') (hdd : 5 ≤ d) (ht : M.2.2.2.2 = []) (hrs : (rest.all c1 && Nat.ble rest.length 8) = true) (hcc : c0 ≤ c) (hkk : k0 ≤ k)
    (kk : J Ω M d c k Z pc' ls (mI (sAt si z) :: rest) (SK, D, false) c0 k0) : J Ω M d c k Z pc ls (mI z :: mR (1000000 + si) :: rest) (SK, D, false) c0 k0 :=
  k_cStr (d' := 4) hs [mI z] rest (k_charAt hs h0 h1 (Nat.le_refl _)) w w_754 w_755 hd hn hdd rfl ht rfl hrs hcc hkk kk
end MK2
