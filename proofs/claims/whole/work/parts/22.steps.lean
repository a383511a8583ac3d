/-! THE STEPS: an instruction, a row -/
section MJ2
variable {Ω : mO} {M : mM} {d c k : Nat} {Z : mZ} {pc pc' : Nat} {ls : List (Option mV)} {st : List mV} {h : mH} {c0 k0 : Nat}
theorem j_iconst {n : Int} (hd : decode M.2.1 pc = .ok (.iconst n, 1)) (hn : pc + 1 = pc') (kk : J Ω M d c k Z pc' ls (mI n :: st) h c0 k0) : J Ω M d c k Z pc ls st h c0 k0 := by
  intro p e s m args below meth cd H locs la C w hS hl
  subst hn
  exact lv_iconst C.1 C.2.1 hd rfl (kk p e s m args below meth cd H locs la C w hS hl)
theorem j_bipush {n : Int} (hd : decode M.2.1 pc = .ok (.bipush n, 2)) (hv : (Int8.ofInt n).toInt32 = Int32.ofInt n) (hn : pc + 2 = pc') (kk : J Ω M d c k Z pc' ls (mI n :: st) h c0 k0) : J Ω M d c k Z pc ls st h c0 k0 := by
  intro p e s m args below meth cd H locs la C w hS hl
  subst hn
  exact lv_bipush C.1 C.2.1 hd hv (kk p e s m args below meth cd H locs la C w hS hl)
theorem j_sipush {n : Int} (hd : decode M.2.1 pc = .ok (.sipush n, 3)) (hv : (Int16.ofInt n).toInt32 = Int32.ofInt n) (hn : pc + 3 = pc') (kk : J Ω M d c k Z pc' ls (mI n :: st) h c0 k0) : J Ω M d c k Z pc ls st h c0 k0 := by
  intro p e s m args below meth cd H locs la C w hS hl
  subst hn
  exact lv_sipush C.1 C.2.1 hd hv (kk p e s m args below meth cd H locs la C w hS hl)
theorem j_ldcI {i : Nat} {n : Int} (hw : Cond.constant M.1.cls i (Int32.ofInt n) ∈ WSg) (hd : decode M.2.1 pc = .ok (.ldc i, 2)) (hn : pc + 2 = pc') (kk : J Ω M d c k Z pc' ls (mI n :: st) h c0 k0) : J Ω M d c k Z pc ls st h c0 k0 := by
  intro p e s m args below meth cd H locs la C w hS hl
  subst hn
  exact lv_ldc C.1 C.2.1 C.2.2.2.2.2.1 (C.2.2.2.2.2.2.1 _ hw) hd (kk p e s m args below meth cd H locs la C w hS hl)
theorem j_ldcwI {i : Nat} {n : Int} (hw : Cond.constant M.1.cls i (Int32.ofInt n) ∈ WSg) (hd : decode M.2.1 pc = .ok (.ldc_w i, 3)) (hn : pc + 3 = pc') (kk : J Ω M d c k Z pc' ls (mI n :: st) h c0 k0) : J Ω M d c k Z pc ls st h c0 k0 := by
  intro p e s m args below meth cd H locs la C w hS hl
  subst hn
  exact lv_ldcw C.1 C.2.1 C.2.2.2.2.2.1 (C.2.2.2.2.2.2.1 _ hw) hd (kk p e s m args below meth cd H locs la C w hS hl)
theorem j_lconst {n : Fin 2} (hd : decode M.2.1 pc = .ok (.lconst n, 1)) (hn : pc + 1 = pc') (kk : J Ω M d c k Z pc' ls (mL (n : Nat) :: st) h c0 k0) : J Ω M d c k Z pc ls st h c0 k0 := by
  intro p e s m args below meth cd H locs la C w hS hl
  subst hn
  exact lv_lconst C.1 C.2.1 hd (by rfl) (kk p e s m args below meth cd H locs la C w hS hl)
theorem j_iload_n {i : Fin 4} {z : Int} (hd : decode M.2.1 pc = .ok (.iload_n i, 1)) (hn : pc + 1 = pc') (hv : ls[(i : Nat)]? = some (some (mI z))) (kk : J Ω M d c k Z pc' ls (mI z :: st) h c0 k0) : J Ω M d c k Z pc ls st h c0 k0 := by
  intro p e s m args below meth cd H locs la C w hS hl
  subst hn
  exact lv_iload_n C.1 C.2.1 hd rfl (lvs_at hl hv rfl) (kk p e s m args below meth cd H locs la C w hS hl)
theorem j_iload {i : Nat} {z : Int} (hd : decode M.2.1 pc = .ok (.iload i, 2)) (hn : pc + 2 = pc') (hv : ls[i]? = some (some (mI z))) (kk : J Ω M d c k Z pc' ls (mI z :: st) h c0 k0) : J Ω M d c k Z pc ls st h c0 k0 := by
  intro p e s m args below meth cd H locs la C w hS hl
  subst hn
  exact lv_iload C.1 C.2.1 hd (lvs_at hl hv rfl) (kk p e s m args below meth cd H locs la C w hS hl)
theorem j_aload_n {i : Fin 4} {a : Nat} (hd : decode M.2.1 pc = .ok (.aload_n i, 1)) (hn : pc + 1 = pc') (hv : ls[(i : Nat)]? = some (some (mR a))) (kk : J Ω M d c k Z pc' ls (mR a :: st) h c0 k0) : J Ω M d c k Z pc ls st h c0 k0 := by
  intro p e s m args below meth cd H locs la C w hS hl
  subst hn
  exact lv_aload_n C.1 C.2.1 hd rfl (lvs_at hl hv rfl) (kk p e s m args below meth cd H locs la C w hS hl)
theorem j_aload {i : Nat} {a : Nat} (hd : decode M.2.1 pc = .ok (.aload i, 2)) (hn : pc + 2 = pc') (hv : ls[i]? = some (some (mR a))) (kk : J Ω M d c k Z pc' ls (mR a :: st) h c0 k0) : J Ω M d c k Z pc ls st h c0 k0 := by
  intro p e s m args below meth cd H locs la C w hS hl
  subst hn
  exact lv_aload C.1 C.2.1 hd (lvs_at hl hv rfl) (kk p e s m args below meth cd H locs la C w hS hl)
theorem j_istore_n {i : Fin 4} {z : Int} (hd : decode M.2.1 pc = .ok (.istore_n i, 1)) (hn : pc + 1 = pc') (hi : (i : Nat) < M.2.2.1) {ls' : List (Option mV)} (hl' : ls.set (i : Nat) (some (mI z)) = ls') (kk : J Ω M d c k Z pc' ls' st h c0 k0) : J Ω M d c k Z pc ls (mI z :: st) h c0 k0 := by
  intro p e s m args below meth cd H locs la C w hS hl
  subst hn; subst hl'
  exact lv_istore_n C.1 C.2.1 hd rfl hl hi rfl (fun la' hl' => kk p e s m args below meth cd H locs la' C w hS (lv_less hl' (fun q hq => lvs_set hq)))
theorem j_istore {i : Nat} {z : Int} (hd : decode M.2.1 pc = .ok (.istore i, 2)) (hn : pc + 2 = pc') (hi : i < M.2.2.1) {ls' : List (Option mV)} (hl' : ls.set i (some (mI z)) = ls') (kk : J Ω M d c k Z pc' ls' st h c0 k0) : J Ω M d c k Z pc ls (mI z :: st) h c0 k0 := by
  intro p e s m args below meth cd H locs la C w hS hl
  subst hn; subst hl'
  exact lv_istore C.1 C.2.1 hd hl hi rfl (fun la' hl' => kk p e s m args below meth cd H locs la' C w hS (lv_less hl' (fun q hq => lvs_set hq)))
theorem j_astore_n {i : Fin 4} {a : Nat} (hd : decode M.2.1 pc = .ok (.astore_n i, 1)) (hn : pc + 1 = pc') (hi : (i : Nat) < M.2.2.1) {ls' : List (Option mV)} (hl' : ls.set (i : Nat) (some (mR a)) = ls') (kk : J Ω M d c k Z pc' ls' st h c0 k0) : J Ω M d c k Z pc ls (mR a :: st) h c0 k0 := by
  intro p e s m args below meth cd H locs la C w hS hl
  subst hn; subst hl'
  exact lv_astore_n C.1 C.2.1 hd rfl hl hi rfl (fun la' hl' => kk p e s m args below meth cd H locs la' C w hS (lv_less hl' (fun q hq => lvs_set hq)))
theorem j_astore {i : Nat} {a : Nat} (hd : decode M.2.1 pc = .ok (.astore i, 2)) (hn : pc + 2 = pc') (hi : i < M.2.2.1) {ls' : List (Option mV)} (hl' : ls.set i (some (mR a)) = ls') (kk : J Ω M d c k Z pc' ls' st h c0 k0) : J Ω M d c k Z pc ls (mR a :: st) h c0 k0 := by
  intro p e s m args below meth cd H locs la C w hS hl
  subst hn; subst hl'
  exact lv_astore C.1 C.2.1 hd hl hi rfl (fun la' hl' => kk p e s m args below meth cd H locs la' C w hS (lv_less hl' (fun q hq => lvs_set hq)))
theorem j_iinc {i : Nat} {n z z' : Int} (hd : decode M.2.1 pc = .ok (.iinc i n, 3)) (hn : pc + 3 = pc') (hv : ls[i]? = some (some (mI z))) (hz : z + n = z') (hi : i < M.2.2.1) {ls' : List (Option mV)} (hl' : ls.set i (some (mI z')) = ls') (kk : J Ω M d c k Z pc' ls' st h c0 k0) : J Ω M d c k Z pc ls st h c0 k0 := by
  intro p e s m args below meth cd H locs la C w hS hl
  subst hn; subst hl'; subst hz
  have hm : (i, Value.int (Int32.ofInt z)) ∈ lvs Ω ls := lvs_mem.mpr ⟨mI z, hv, rfl, rfl⟩
  obtain ⟨k1, hk1⟩ := List.getElem?_of_mem hm
  exact lv_iinc C.1 C.2.1 hd hl hk1 (v := Int32.ofInt (z + n)) (by rw [Int32.ofInt_add]) hi rfl (fun la' hl' => kk p e s m args below meth cd H locs la' C w hS (lv_less hl' (fun q hq => lvs_set hq)))
theorem j_goto {off : Int} {tgt : Nat} (hd : decode M.2.1 pc = .ok (.goto off, 3)) (ht : (pc : Int) + off = (tgt : Int)) (kk : J Ω M d c k Z tgt ls st h c0 k0) : J Ω M d c k Z pc ls st h c0 k0 := by
  intro p e s m args below meth cd H locs la C w hS hl
  exact lv_goto C.1 C.2.1 hd ht (kk p e s m args below meth cd H locs la C w hS hl)
theorem j_dup {v : mV} (hd : decode M.2.1 pc = .ok (.dup, 1)) (hn : pc + 1 = pc') (hv : c1 v = true) (kk : J Ω M d c k Z pc' ls (v :: v :: st) h c0 k0) : J Ω M d c k Z pc ls (v :: st) h c0 k0 := by
  intro p e s m args below meth cd H locs la C w hS hl
  subst hn
  exact lv_dup C.1 C.2.1 hd (cv_cat hv) (kk p e s m args below meth cd H locs la C w hS hl)
theorem j_dup2 {v u : mV} (hd : decode M.2.1 pc = .ok (.dup2, 1)) (hn : pc + 1 = pc') (hv : c1 v = true) (hu : c1 u = true) (kk : J Ω M d c k Z pc' ls (v :: u :: v :: u :: st) h c0 k0) : J Ω M d c k Z pc ls (v :: u :: st) h c0 k0 := by
  intro p e s m args below meth cd H locs la C w hS hl
  subst hn
  exact lv_dup2_11 C.1 C.2.1 hd (cv_cat hv) (cv_cat hu) (kk p e s m args below meth cd H locs la C w hS hl)
theorem j_pop {v : mV} (hd : decode M.2.1 pc = .ok (.pop, 1)) (hn : pc + 1 = pc') (hv : c1 v = true) (kk : J Ω M d c k Z pc' ls st h c0 k0) : J Ω M d c k Z pc ls (v :: st) h c0 k0 := by
  intro p e s m args below meth cd H locs la C w hS hl
  subst hn
  exact lv_pop C.1 C.2.1 hd (cv_cat hv) (kk p e s m args below meth cd H locs la C w hS hl)
theorem j_iadd {a b : Int} (hd : decode M.2.1 pc = .ok (.iadd, 1)) (hn : pc + 1 = pc') (kk : J Ω M d c k Z pc' ls (mI (a + b) :: st) h c0 k0) : J Ω M d c k Z pc ls (mI b :: mI a :: st) h c0 k0 := by
  intro p e s m args below meth cd H locs la C w hS hl
  subst hn
  have q := kk p e s m args below meth cd H locs la C w hS hl
  rw [List.map_cons, show cv Ω (mI (a + b)) = .int (Int32.ofInt a + Int32.ofInt b) by show Value.int _ = _; rw [Int32.ofInt_add]] at q
  exact lv_iadd C.1 C.2.1 hd q
theorem j_isub {a b : Int} (hd : decode M.2.1 pc = .ok (.isub, 1)) (hn : pc + 1 = pc') (kk : J Ω M d c k Z pc' ls (mI (a - b) :: st) h c0 k0) : J Ω M d c k Z pc ls (mI b :: mI a :: st) h c0 k0 := by
  intro p e s m args below meth cd H locs la C w hS hl
  subst hn
  have q := kk p e s m args below meth cd H locs la C w hS hl
  rw [List.map_cons, show cv Ω (mI (a - b)) = .int (Int32.ofInt a - Int32.ofInt b) by show Value.int _ = _; rw [Int32.ofInt_sub]] at q
  exact lv_isub C.1 C.2.1 hd q
theorem j_imul {a b : Int} (hd : decode M.2.1 pc = .ok (.imul, 1)) (hn : pc + 1 = pc') (kk : J Ω M d c k Z pc' ls (mI (a * b) :: st) h c0 k0) : J Ω M d c k Z pc ls (mI b :: mI a :: st) h c0 k0 := by
  intro p e s m args below meth cd H locs la C w hS hl
  subst hn
  have q := kk p e s m args below meth cd H locs la C w hS hl
  rw [List.map_cons, show cv Ω (mI (a * b)) = .int (Int32.ofInt a * Int32.ofInt b) by show Value.int _ = _; rw [Int32.ofInt_mul]] at q
  exact lv_imul C.1 C.2.1 hd q
theorem j_ineg {a : Int} (hd : decode M.2.1 pc = .ok (.ineg, 1)) (hn : pc + 1 = pc') (kk : J Ω M d c k Z pc' ls (mI (-a) :: st) h c0 k0) : J Ω M d c k Z pc ls (mI a :: st) h c0 k0 := by
  intro p e s m args below meth cd H locs la C w hS hl
  subst hn
  have q := kk p e s m args below meth cd H locs la C w hS hl
  rw [List.map_cons, show cv Ω (mI (-a)) = .int (-(Int32.ofInt a)) by show Value.int _ = _; rw [Int32.ofInt_neg]] at q
  exact lv_ineg C.1 C.2.1 hd q
theorem j_iand {a b : Int} (hd : decode M.2.1 pc = .ok (.iand, 1)) (hn : pc + 1 = pc') (kk : J Ω M d c k Z pc' ls (mI (bAnd a b) :: st) h c0 k0) : J Ω M d c k Z pc ls (mI b :: mI a :: st) h c0 k0 := by
  intro p e s m args below meth cd H locs la C w hS hl
  subst hn
  have q := kk p e s m args below meth cd H locs la C w hS hl
  rw [List.map_cons, show cv Ω (mI (bAnd a b)) = .int ((Int32.ofInt a) &&& (Int32.ofInt b)) by show Value.int _ = _; unfold bAnd; rw [it]] at q
  exact lv_iand C.1 C.2.1 hd q
theorem j_ior {a b : Int} (hd : decode M.2.1 pc = .ok (.ior, 1)) (hn : pc + 1 = pc') (kk : J Ω M d c k Z pc' ls (mI (bOr a b) :: st) h c0 k0) : J Ω M d c k Z pc ls (mI b :: mI a :: st) h c0 k0 := by
  intro p e s m args below meth cd H locs la C w hS hl
  subst hn
  have q := kk p e s m args below meth cd H locs la C w hS hl
  rw [List.map_cons, show cv Ω (mI (bOr a b)) = .int ((Int32.ofInt a) ||| (Int32.ofInt b)) by show Value.int _ = _; unfold bOr; rw [it]] at q
  exact lv_ior C.1 C.2.1 hd q
theorem j_ixor {a b : Int} (hd : decode M.2.1 pc = .ok (.ixor, 1)) (hn : pc + 1 = pc') (kk : J Ω M d c k Z pc' ls (mI (bXor a b) :: st) h c0 k0) : J Ω M d c k Z pc ls (mI b :: mI a :: st) h c0 k0 := by
  intro p e s m args below meth cd H locs la C w hS hl
  subst hn
  have q := kk p e s m args below meth cd H locs la C w hS hl
  rw [List.map_cons, show cv Ω (mI (bXor a b)) = .int ((Int32.ofInt a) ^^^ (Int32.ofInt b)) by show Value.int _ = _; unfold bXor; rw [it]] at q
  exact lv_ixor C.1 C.2.1 hd q
theorem j_ishl {a b : Int} (hd : decode M.2.1 pc = .ok (.ishl, 1)) (hn : pc + 1 = pc') (kk : J Ω M d c k Z pc' ls (mI (bShl a b) :: st) h c0 k0) : J Ω M d c k Z pc ls (mI b :: mI a :: st) h c0 k0 := by
  intro p e s m args below meth cd H locs la C w hS hl
  subst hn
  have q := kk p e s m args below meth cd H locs la C w hS hl
  rw [List.map_cons, show cv Ω (mI (bShl a b)) = .int ((Int32.ofInt a) <<< ((Int32.ofInt b) &&& 31)) by show Value.int _ = _; unfold bShl; rw [it]] at q
  exact lv_ishl C.1 C.2.1 hd q
theorem j_ishr {a b : Int} (hd : decode M.2.1 pc = .ok (.ishr, 1)) (hn : pc + 1 = pc') (kk : J Ω M d c k Z pc' ls (mI (bShr a b) :: st) h c0 k0) : J Ω M d c k Z pc ls (mI b :: mI a :: st) h c0 k0 := by
  intro p e s m args below meth cd H locs la C w hS hl
  subst hn
  have q := kk p e s m args below meth cd H locs la C w hS hl
  rw [List.map_cons, show cv Ω (mI (bShr a b)) = .int ((Int32.ofInt a) >>> ((Int32.ofInt b) &&& 31)) by show Value.int _ = _; unfold bShr; rw [it]] at q
  exact lv_ishr C.1 C.2.1 hd q
theorem j_iushr {a b : Int} (hd : decode M.2.1 pc = .ok (.iushr, 1)) (hn : pc + 1 = pc') (kk : J Ω M d c k Z pc' ls (mI (bUshr a b) :: st) h c0 k0) : J Ω M d c k Z pc ls (mI b :: mI a :: st) h c0 k0 := by
  intro p e s m args below meth cd H locs la C w hS hl
  subst hn
  have q := kk p e s m args below meth cd H locs la C w hS hl
  rw [List.map_cons, show cv Ω (mI (bUshr a b)) = .int (((Int32.ofInt a).toUInt32 >>> ((Int32.ofInt b).toUInt32 &&& Int32.toUInt32 31)).toInt32) by show Value.int _ = _; unfold bUshr; rw [it]] at q
  exact lv_iushr C.1 C.2.1 hd rfl q
theorem div0 {a b : Int} (ha : nR a) (hb : nR b) (h0 : 0 ≤ a) (h1 : 0 < b) : Int32.ofInt a / Int32.ofInt b = Int32.ofInt (a / b) := by
  apply Int32.toInt_inj.mp
  rw [Int32.toInt_div, ti ha, ti hb, Int32.toInt_ofInt, Int.tdiv_eq_ediv_of_nonneg h0]
theorem divt {a b : Int} (ha : nR a) (hb : nR b) : Int32.ofInt a / Int32.ofInt b = Int32.ofInt (a.tdiv b) := by
  apply Int32.toInt_inj.mp
  rw [Int32.toInt_div, ti ha, ti hb, Int32.toInt_ofInt]
theorem j_idiv {a b : Int} (hd : decode M.2.1 pc = .ok (.idiv, 1)) (hn : pc + 1 = pc') (ha : nR a) (hb : nR b) (h0 : 0 ≤ a) (h1 : 0 < b) (kk : J Ω M d c k Z pc' ls (mI (a / b) :: st) h c0 k0) : J Ω M d c k Z pc ls (mI b :: mI a :: st) h c0 k0 := by
  intro p e s m args below meth cd H locs la C w hS hl
  subst hn
  have q := kk p e s m args below meth cd H locs la C w hS hl
  rw [List.map_cons, show cv Ω (mI (a / b)) = .int (Int32.ofInt a / Int32.ofInt b) by show Value.int _ = _; rw [div0 ha hb h0 h1]] at q
  exact lv_idiv C.1 C.2.1 hd (fun e => by have := (ti_eq hb (by decide : nR 0)).mp e; omega) q
theorem j_irem {a b : Int} (hd : decode M.2.1 pc = .ok (.irem, 1)) (hn : pc + 1 = pc') (ha : nR a) (hb : nR b) (h0 : 0 ≤ a) (h1 : 0 < b) (kk : J Ω M d c k Z pc' ls (mI (a % b) :: st) h c0 k0) : J Ω M d c k Z pc ls (mI b :: mI a :: st) h c0 k0 := by
  intro p e s m args below meth cd H locs la C w hS hl
  subst hn
  have q := kk p e s m args below meth cd H locs la C w hS hl
  rw [List.map_cons, show cv Ω (mI (a % b)) = .int (Int32.ofInt a - Int32.ofInt a / Int32.ofInt b * Int32.ofInt b) by show Value.int _ = _; rw [div0 ha hb h0 h1, ← Int32.ofInt_mul, ← Int32.ofInt_sub, Int.emod_def, Int.mul_comm b]] at q
  exact lv_irem C.1 C.2.1 hd (fun e => by have := (ti_eq hb (by decide : nR 0)).mp e; omega) q
theorem j_iremT {a b : Int} (hd : decode M.2.1 pc = .ok (.irem, 1)) (hn : pc + 1 = pc') (ha : nR a) (hb : nR b) (h1 : b ≠ 0) (kk : J Ω M d c k Z pc' ls (mI (a.tmod b) :: st) h c0 k0) : J Ω M d c k Z pc ls (mI b :: mI a :: st) h c0 k0 := by
  intro p e s m args below meth cd H locs la C w hS hl
  subst hn
  have q := kk p e s m args below meth cd H locs la C w hS hl
  rw [List.map_cons, show cv Ω (mI (a.tmod b)) = .int (Int32.ofInt a - Int32.ofInt a / Int32.ofInt b * Int32.ofInt b) by show Value.int _ = _; rw [divt ha hb, ← Int32.ofInt_mul, ← Int32.ofInt_sub, Int.tmod_def, Int.mul_comm b]] at q
  exact lv_irem C.1 C.2.1 hd (fun e => by have := (ti_eq hb (by decide : nR 0)).mp e; omega) q
theorem j_i2l {a : Int} (hd : decode M.2.1 pc = .ok (.i2l, 1)) (hn : pc + 1 = pc') (ha : nR a) (kk : J Ω M d c k Z pc' ls (mL a :: st) h c0 k0) : J Ω M d c k Z pc ls (mI a :: st) h c0 k0 := by
  intro p e s m args below meth cd H locs la C w hS hl
  subst hn
  exact lv_i2l C.1 C.2.1 hd (by apply Int64.toInt_inj.mp; rw [Int32.toInt_toInt64, ti ha, tl ha]) (kk p e s m args below meth cd H locs la C w hS hl)
theorem j_i2b {a : Int} (hd : decode M.2.1 pc = .ok (.i2b, 1)) (hn : pc + 1 = pc') (kk : J Ω M d c k Z pc' ls (mI (bI2b a) :: st) h c0 k0) : J Ω M d c k Z pc ls (mI a :: st) h c0 k0 := by
  intro p e s m args below meth cd H locs la C w hS hl
  subst hn
  exact lv_i2b C.1 C.2.1 hd (by unfold bI2b; rw [it]) (kk p e s m args below meth cd H locs la C w hS hl)
def bCmp (a b : Int) : Int := (lg_cmp (Int64.ofInt a) (Int64.ofInt b)).toInt
theorem j_lcmp {a b : Int} (hd : decode M.2.1 pc = .ok (.lcmp, 1)) (hn : pc + 1 = pc') (kk : J Ω M d c k Z pc' ls (mI (bCmp a b) :: st) h c0 k0) : J Ω M d c k Z pc ls (mL b :: mL a :: st) h c0 k0 := by
  intro p e s m args below meth cd H locs la C w hS hl
  subst hn
  have q := kk p e s m args below meth cd H locs la C w hS hl
  rw [List.map_cons, show cv Ω (mI (bCmp a b)) = .int (lg_cmp (Int64.ofInt a) (Int64.ofInt b)) by show Value.int _ = _; unfold bCmp; rw [it]] at q
  exact W.lcmp C.1 C.2.1 hd q
theorem Z0 : nR 0 := by decide
theorem j_if_eq {a : Int} {off : Int} {tgt : Nat} (hd : decode M.2.1 pc = .ok (.ifCond .eq off, 3)) (ht : (pc : Int) + off = (tgt : Int)) (hn : pc + 3 = pc') (ha : nR a) (kt : a = 0 → J Ω M d c k Z tgt ls st h c0 k0) (kf : ¬ a = 0 → J Ω M d c k Z pc' ls st h c0 k0) : J Ω M d c k Z pc ls (mI a :: st) h c0 k0 := by
  intro p e s m args below meth cd H locs la C w hS hl
  subst hn
  exact lv_if_eq C.1 C.2.1 hd ht (fun q => kt ((ti_eq ha Z0).mp q) p e s m args below meth cd H locs la C w hS hl) (fun q => kf (fun q2 => q ((ti_eq ha Z0).mpr q2)) p e s m args below meth cd H locs la C w hS hl)
theorem j_icmp_eq {a b : Int} {off : Int} {tgt : Nat} (hd : decode M.2.1 pc = .ok (.if_icmp .eq off, 3)) (ht : (pc : Int) + off = (tgt : Int)) (hn : pc + 3 = pc') (ha : nR a) (hb : nR b) (kt : a = b → J Ω M d c k Z tgt ls st h c0 k0) (kf : ¬ a = b → J Ω M d c k Z pc' ls st h c0 k0) : J Ω M d c k Z pc ls (mI b :: mI a :: st) h c0 k0 := by
  intro p e s m args below meth cd H locs la C w hS hl
  subst hn
  exact lv_icmp_eq C.1 C.2.1 hd ht (fun q => kt ((ti_eq ha hb).mp q) p e s m args below meth cd H locs la C w hS hl) (fun q => kf (fun q2 => q ((ti_eq ha hb).mpr q2)) p e s m args below meth cd H locs la C w hS hl)
theorem j_if_ne {a : Int} {off : Int} {tgt : Nat} (hd : decode M.2.1 pc = .ok (.ifCond .ne off, 3)) (ht : (pc : Int) + off = (tgt : Int)) (hn : pc + 3 = pc') (ha : nR a) (kt : ¬ a = 0 → J Ω M d c k Z tgt ls st h c0 k0) (kf : a = 0 → J Ω M d c k Z pc' ls st h c0 k0) : J Ω M d c k Z pc ls (mI a :: st) h c0 k0 := by
  intro p e s m args below meth cd H locs la C w hS hl
  subst hn
  exact lv_if_ne C.1 C.2.1 hd ht (fun q => kt (fun q2 => q ((ti_eq ha Z0).mpr q2)) p e s m args below meth cd H locs la C w hS hl) (fun q => kf ((ti_eq ha Z0).mp q) p e s m args below meth cd H locs la C w hS hl)
theorem j_icmp_ne {a b : Int} {off : Int} {tgt : Nat} (hd : decode M.2.1 pc = .ok (.if_icmp .ne off, 3)) (ht : (pc : Int) + off = (tgt : Int)) (hn : pc + 3 = pc') (ha : nR a) (hb : nR b) (kt : ¬ a = b → J Ω M d c k Z tgt ls st h c0 k0) (kf : a = b → J Ω M d c k Z pc' ls st h c0 k0) : J Ω M d c k Z pc ls (mI b :: mI a :: st) h c0 k0 := by
  intro p e s m args below meth cd H locs la C w hS hl
  subst hn
  exact lv_icmp_ne C.1 C.2.1 hd ht (fun q => kt (fun q2 => q ((ti_eq ha hb).mpr q2)) p e s m args below meth cd H locs la C w hS hl) (fun q => kf ((ti_eq ha hb).mp q) p e s m args below meth cd H locs la C w hS hl)
theorem j_if_lt {a : Int} {off : Int} {tgt : Nat} (hd : decode M.2.1 pc = .ok (.ifCond .lt off, 3)) (ht : (pc : Int) + off = (tgt : Int)) (hn : pc + 3 = pc') (ha : nR a) (kt : a < 0 → J Ω M d c k Z tgt ls st h c0 k0) (kf : ¬ a < 0 → J Ω M d c k Z pc' ls st h c0 k0) : J Ω M d c k Z pc ls (mI a :: st) h c0 k0 := by
  intro p e s m args below meth cd H locs la C w hS hl
  subst hn
  exact lv_if_lt C.1 C.2.1 hd ht (fun q => kt ((ti_lt ha Z0).mp q) p e s m args below meth cd H locs la C w hS hl) (fun q => kf (fun q2 => q ((ti_lt ha Z0).mpr q2)) p e s m args below meth cd H locs la C w hS hl)
theorem j_icmp_lt {a b : Int} {off : Int} {tgt : Nat} (hd : decode M.2.1 pc = .ok (.if_icmp .lt off, 3)) (ht : (pc : Int) + off = (tgt : Int)) (hn : pc + 3 = pc') (ha : nR a) (hb : nR b) (kt : a < b → J Ω M d c k Z tgt ls st h c0 k0) (kf : ¬ a < b → J Ω M d c k Z pc' ls st h c0 k0) : J Ω M d c k Z pc ls (mI b :: mI a :: st) h c0 k0 := by
  intro p e s m args below meth cd H locs la C w hS hl
  subst hn
  exact lv_icmp_lt C.1 C.2.1 hd ht (fun q => kt ((ti_lt ha hb).mp q) p e s m args below meth cd H locs la C w hS hl) (fun q => kf (fun q2 => q ((ti_lt ha hb).mpr q2)) p e s m args below meth cd H locs la C w hS hl)
theorem j_if_ge {a : Int} {off : Int} {tgt : Nat} (hd : decode M.2.1 pc = .ok (.ifCond .ge off, 3)) (ht : (pc : Int) + off = (tgt : Int)) (hn : pc + 3 = pc') (ha : nR a) (kt : 0 ≤ a → J Ω M d c k Z tgt ls st h c0 k0) (kf : ¬ 0 ≤ a → J Ω M d c k Z pc' ls st h c0 k0) : J Ω M d c k Z pc ls (mI a :: st) h c0 k0 := by
  intro p e s m args below meth cd H locs la C w hS hl
  subst hn
  exact lv_if_ge C.1 C.2.1 hd ht (fun q => kt ((ti_le Z0 ha).mp q) p e s m args below meth cd H locs la C w hS hl) (fun q => kf (fun q2 => q ((ti_le Z0 ha).mpr q2)) p e s m args below meth cd H locs la C w hS hl)
theorem j_icmp_ge {a b : Int} {off : Int} {tgt : Nat} (hd : decode M.2.1 pc = .ok (.if_icmp .ge off, 3)) (ht : (pc : Int) + off = (tgt : Int)) (hn : pc + 3 = pc') (ha : nR a) (hb : nR b) (kt : b ≤ a → J Ω M d c k Z tgt ls st h c0 k0) (kf : ¬ b ≤ a → J Ω M d c k Z pc' ls st h c0 k0) : J Ω M d c k Z pc ls (mI b :: mI a :: st) h c0 k0 := by
  intro p e s m args below meth cd H locs la C w hS hl
  subst hn
  exact lv_icmp_ge C.1 C.2.1 hd ht (fun q => kt ((ti_le hb ha).mp q) p e s m args below meth cd H locs la C w hS hl) (fun q => kf (fun q2 => q ((ti_le hb ha).mpr q2)) p e s m args below meth cd H locs la C w hS hl)
theorem j_if_gt {a : Int} {off : Int} {tgt : Nat} (hd : decode M.2.1 pc = .ok (.ifCond .gt off, 3)) (ht : (pc : Int) + off = (tgt : Int)) (hn : pc + 3 = pc') (ha : nR a) (kt : 0 < a → J Ω M d c k Z tgt ls st h c0 k0) (kf : ¬ 0 < a → J Ω M d c k Z pc' ls st h c0 k0) : J Ω M d c k Z pc ls (mI a :: st) h c0 k0 := by
  intro p e s m args below meth cd H locs la C w hS hl
  subst hn
  exact lv_if_gt C.1 C.2.1 hd ht (fun q => kt ((ti_lt Z0 ha).mp q) p e s m args below meth cd H locs la C w hS hl) (fun q => kf (fun q2 => q ((ti_lt Z0 ha).mpr q2)) p e s m args below meth cd H locs la C w hS hl)
theorem j_icmp_gt {a b : Int} {off : Int} {tgt : Nat} (hd : decode M.2.1 pc = .ok (.if_icmp .gt off, 3)) (ht : (pc : Int) + off = (tgt : Int)) (hn : pc + 3 = pc') (ha : nR a) (hb : nR b) (kt : b < a → J Ω M d c k Z tgt ls st h c0 k0) (kf : ¬ b < a → J Ω M d c k Z pc' ls st h c0 k0) : J Ω M d c k Z pc ls (mI b :: mI a :: st) h c0 k0 := by
  intro p e s m args below meth cd H locs la C w hS hl
  subst hn
  exact lv_icmp_gt C.1 C.2.1 hd ht (fun q => kt ((ti_lt hb ha).mp q) p e s m args below meth cd H locs la C w hS hl) (fun q => kf (fun q2 => q ((ti_lt hb ha).mpr q2)) p e s m args below meth cd H locs la C w hS hl)
theorem j_if_le {a : Int} {off : Int} {tgt : Nat} (hd : decode M.2.1 pc = .ok (.ifCond .le off, 3)) (ht : (pc : Int) + off = (tgt : Int)) (hn : pc + 3 = pc') (ha : nR a) (kt : a ≤ 0 → J Ω M d c k Z tgt ls st h c0 k0) (kf : ¬ a ≤ 0 → J Ω M d c k Z pc' ls st h c0 k0) : J Ω M d c k Z pc ls (mI a :: st) h c0 k0 := by
  intro p e s m args below meth cd H locs la C w hS hl
  subst hn
  exact lv_if_le C.1 C.2.1 hd ht (fun q => kt ((ti_le ha Z0).mp q) p e s m args below meth cd H locs la C w hS hl) (fun q => kf (fun q2 => q ((ti_le ha Z0).mpr q2)) p e s m args below meth cd H locs la C w hS hl)
theorem j_icmp_le {a b : Int} {off : Int} {tgt : Nat} (hd : decode M.2.1 pc = .ok (.if_icmp .le off, 3)) (ht : (pc : Int) + off = (tgt : Int)) (hn : pc + 3 = pc') (ha : nR a) (hb : nR b) (kt : a ≤ b → J Ω M d c k Z tgt ls st h c0 k0) (kf : ¬ a ≤ b → J Ω M d c k Z pc' ls st h c0 k0) : J Ω M d c k Z pc ls (mI b :: mI a :: st) h c0 k0 := by
  intro p e s m args below meth cd H locs la C w hS hl
  subst hn
  exact lv_icmp_le C.1 C.2.1 hd ht (fun q => kt ((ti_le ha hb).mp q) p e s m args below meth cd H locs la C w hS hl) (fun q => kf (fun q2 => q ((ti_le ha hb).mpr q2)) p e s m args below meth cd H locs la C w hS hl)
theorem j_tabOut {a : Int} {dflt lo hi : Int} {offs : Array Int} {len tgt : Nat} (hd : decode M.2.1 pc = .ok (.tableswitch dflt lo hi offs, len)) (ha : nR a) (ho : a < lo ∨ hi < a) (ht : (pc : Int) + dflt = (tgt : Int)) (kk : J Ω M d c k Z tgt ls st h c0 k0) : J Ω M d c k Z pc ls (mI a :: st) h c0 k0 := by
  intro p e s m args below meth cd H locs la C w hS hl
  exact lv_tableOut C.1 C.2.1 hd (by rw [ti ha]; exact ho) ht (kk p e s m args below meth cd H locs la C w hS hl)
theorem j_tabIn {a : Int} {dflt lo hi off : Int} {offs : Array Int} {len tgt : Nat} (hd : decode M.2.1 pc = .ok (.tableswitch dflt lo hi offs, len)) (ha : nR a) (h1 : lo ≤ a) (h2 : a ≤ hi) (ho : offs[(a - lo).toNat]? = some off) (ht : (pc : Int) + off = (tgt : Int)) (kk : J Ω M d c k Z tgt ls st h c0 k0) : J Ω M d c k Z pc ls (mI a :: st) h c0 k0 := by
  intro p e s m args below meth cd H locs la C w hS hl
  exact lv_tableIn C.1 C.2.1 hd (by rw [ti ha]; omega) (by rw [ti ha]; omega) (by rw [ti ha]; exact ho) ht (kk p e s m args below meth cd H locs la C w hS hl)
end MJ2
