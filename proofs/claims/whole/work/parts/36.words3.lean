/-! WORDS of inherited calls, of throws -/
theorem w_797 : Cond.instanceMethod yX9_readNumber ∈ WSg := wk 797 (by decide +kernel) (by decide +kernel)
theorem w_798 : mWord M_X9_readNumber ∈ WSg := wk 798 (by decide +kernel) (by decide +kernel)
theorem cu_X3_37_L : Cu RX3 RX3 M_X9_readNumber 37 2 := ⟨RX9, ⟨"SignBoard$LawReader", "readNumber", "(II)I"⟩, w_793, w_794, by decide +kernel, w_796, w_797, w_11, w_798, by decide +kernel, by decide +kernel, rfl, by decide⟩
theorem cu_X7_64_S : Cu RX7 RX7 M_X9_readNumber 64 2 := ⟨RX9, ⟨"SignBoard$ShopReader", "readNumber", "(II)I"⟩, w_879, w_880, by decide +kernel, w_881, w_797, w_11, w_798, by decide +kernel, by decide +kernel, rfl, by decide⟩
theorem w_860 : Cond.instanceMethod yX7_readsLine ∈ WSg := wk 860 (by decide +kernel) (by decide +kernel)
theorem w_861 : mWord M_X7_readsLine ∈ WSg := wk 861 (by decide +kernel) (by decide +kernel)
theorem cu_X9_27_S : Cu RX9 RX7 M_X7_readsLine 27 0 := ⟨RX9, ⟨"SignBoard$TextReader", "readsLine", "()Z"⟩, w_732, w_734, by decide +kernel, w_859, w_860, w_12, w_861, by decide +kernel, by decide +kernel, rfl, by decide⟩
theorem w_736 : Cond.instanceMethod yX3_readsLine ∈ WSg := wk 736 (by decide +kernel) (by decide +kernel)
theorem w_737 : mWord M_X3_readsLine ∈ WSg := wk 737 (by decide +kernel) (by decide +kernel)
theorem cu_X9_27_L : Cu RX9 RX3 M_X3_readsLine 27 0 := ⟨RX9, ⟨"SignBoard$TextReader", "readsLine", "()Z"⟩, w_732, w_734, by decide +kernel, w_735, w_736, w_13, w_737, by decide +kernel, by decide +kernel, rfl, by decide⟩
theorem w_719 : Cond.instanceMethod yX9_readsText ∈ WSg := wk 719 (by decide +kernel) (by decide +kernel)
theorem w_720 : mWord M_X9_readsText ∈ WSg := wk 720 (by decide +kernel) (by decide +kernel)
theorem cu_X11_122_S : Cu RX11 RX7 M_X9_readsText 122 0 := ⟨RX9, ⟨"SignBoard$ShopReader", "readsText", "()Z"⟩, w_715, w_716, by decide +kernel, w_718, w_719, w_11, w_720, by decide +kernel, by decide +kernel, rfl, by decide⟩
theorem cu_X11_165_L : Cu RX11 RX3 M_X9_readsText 165 0 := ⟨RX9, ⟨"SignBoard$LawReader", "readsText", "()Z"⟩, w_1029, w_1030, by decide +kernel, w_1031, w_719, w_11, w_720, by decide +kernel, by decide +kernel, rfl, by decide⟩
def okT (w : Cond) : Bool := (decide (w ∈ lw_tbl) && goodWord w) || (mDec.any (fun q => decide (w = .declares q)) || mCas.any (fun q => decide (w = .castable q.1 q.2)))
theorem okT_of {ws : List Cond} (h : ws.all okT = true) : ∀ w ∈ ws, w ∈ WSg ∨ (∃ q ∈ mDec, w = .declares q) ∨ ∃ q ∈ mCas, w = .castable q.1 q.2 := by
  intro w hw
  have h1 := List.all_eq_true.mp h w hw
  unfold okT at h1
  simp only [Bool.or_eq_true, Bool.and_eq_true, decide_eq_true_eq, List.any_eq_true] at h1
  rcases h1 with h1 | h1 | h1
  · exact Or.inl (WSg_mem h1.1 h1.2)
  · exact Or.inr (Or.inl h1)
  · exact Or.inr (Or.inr h1)
theorem tw_X11_130_134 : Tw RX11 130 134 0 := ⟨w_931, w_23, okT_of (by decide +kernel), by decide +kernel⟩
theorem tw_X11_140_144 : Tw RX11 140 144 3 := ⟨w_1001, w_24, okT_of (by decide +kernel), by decide +kernel⟩
theorem tn_X11_196_200 : TwN RX11 196 200 := ⟨w_1068, w_26, okT_of (by decide +kernel), by decide +kernel⟩
theorem tw_X11_322_326 : Tw RX11 322 326 1 := ⟨w_1201, w_28, okT_of (by decide +kernel), by decide +kernel⟩
theorem tw_X11_437_441 : Tw RX11 437 441 2 := ⟨w_1046, w_25, okT_of (by decide +kernel), by decide +kernel⟩
