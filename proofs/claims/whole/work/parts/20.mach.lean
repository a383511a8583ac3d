/-! THE ABSTRACT HEAP: a skeleton of cells, and whole numbers in their slots; an address is its cell's place above a base -/
section MJ0
/-- int, long, reference -/
abbrev mV : Type := Int ⊕ (Int ⊕ Option Nat)
abbrev mI (z : Int) : mV := Sum.inl z
abbrev mL (z : Int) : mV := Sum.inr (Sum.inl z)
abbrev mR (k : Nat) : mV := Sum.inr (Sum.inr (some k))
abbrev mN : mV := Sum.inr (Sum.inr none)
/-- kind (a class's number; 20 int[], 21 byte[], 22 long[], 23 Work[]), length, slots of references (none: an int's slot; 0: null; k + 1: cell k) -/
abbrev mC : Type := Nat × Nat × List (Option Nat)
/-- skeleton, data, whether nothing else has been made -/
abbrev mH : Type := List mC × mD × Bool
/-- launch, base, strings' addresses, their rows', the world's class ids, the array classes, the script's length and numbers -/
abbrev mO : Type := Launch × Nat × (Nat → Nat) × (Nat → Nat) × va_G × ClassId × ClassId × ClassId × ClassId × Nat × (Nat → Int32)
def oL (Ω : mO) : Launch := Ω.1
def oB (Ω : mO) : Nat := Ω.2.1
def oS (Ω : mO) : Nat → Nat := Ω.2.2.1
def oT (Ω : mO) : Nat → Nat := Ω.2.2.2.1
def oG (Ω : mO) : va_G := Ω.2.2.2.2.1
def oI (Ω : mO) : ClassId := Ω.2.2.2.2.2.1
def oY (Ω : mO) : ClassId := Ω.2.2.2.2.2.2.1
def oJ (Ω : mO) : ClassId := Ω.2.2.2.2.2.2.2.1
def oW (Ω : mO) : ClassId := Ω.2.2.2.2.2.2.2.2.1
def oPn (Ω : mO) : Nat := Ω.2.2.2.2.2.2.2.2.2.1
def oPx (Ω : mO) : Nat → Int32 := Ω.2.2.2.2.2.2.2.2.2.2
abbrev oA (Ω : mO) : Nat → Prop := fun q => oB Ω ≤ q
abbrev oK (Ω : mO) : List (ClassId × FieldType) := [(oI Ω, .int), (oY Ω, .byte), (oJ Ω, .long), (oW Ω, .object "SignBoard$Work")]
def ca (Ω : mO) (k : Nat) : Nat := if k < 1000000 then oB Ω + k else oS Ω (k - 1000000)
def cv (Ω : mO) : mV → Value
  | .inl z => .int (Int32.ofInt z)
  | .inr (.inl z) => .long (Int64.ofInt z)
  | .inr (.inr none) => .null
  | .inr (.inr (some k)) => .ref (ca Ω k)
abbrev mCl : List vw_C := [(RX0, TX0, 6), (RX1, TX1, 3), (RX2, TX2, 6), (RX3, TX3, 3), (RX4, TX4, 6), (RX5, TX5, 5), (RX6, TX6, 17), (RX7, TX7, 4), (RX8, TX8, 5), (RX10, TX10, 11), (RX11, TX11, 16), (RX12, TX12, 28)]
def cs (Ω : mO) (r : Option Nat) (z : Int) : Value := match r with
  | none => .int (Int32.ofInt z)
  | some 0 => .null
  | some (k + 1) => .ref (oB Ω + k)
def cf (Ω : mO) (rs : List (Option Nat)) (n : Nat) (f : Int → Int) : List Value := (List.range n).map (fun j => cs Ω (rs.getD j none) (f (j : Int)))
def cq (Ω : mO) (rs : List (Option Nat)) (j : Nat) : Option Nat := match rs.getD j none with
  | some (k + 1) => some (oB Ω + k)
  | _ => none
def ce (Ω : mO) (c : mC) (f : Int → Int) : va_E :=
  if c.1 = 20 then .inl (oI Ω, c.2.1, .inl (fun j => Int32.ofInt (f (j : Int))))
  else if c.1 = 21 then .inl (oY Ω, c.2.1, .inl (fun j => Int32.ofInt (f (j : Int))))
  else if c.1 = 22 then .inl (oJ Ω, c.2.1, .inr (.inl (fun j => Int64.ofInt (f (j : Int)))))
  else if c.1 = 23 then .inl (oW Ω, c.2.1, .inr (.inr (.inr (.inr (cq Ω c.2.2)))))
  else .inr (c.1, cf Ω c.2.2 c.2.1 f)
def cw (Ω : mO) (h : mH) : va_W := h.1.mapIdx (fun k c => (oB Ω + k, ce Ω c (h.2.1 k)))
theorem cw_at {Ω : mO} {h : mH} {k : Nat} {c : mC} (hk : h.1[k]? = some c) : (cw Ω h)[k]? = some (oB Ω + k, ce Ω c (h.2.1 k)) := by
  unfold cw
  rw [List.getElem?_mapIdx, hk]
  rfl
theorem cw_of {Ω : mO} {h : mH} {k : Nat} {q : Nat × va_E} (hk : (cw Ω h)[k]? = some q) : ∃ c, h.1[k]? = some c ∧ q = (oB Ω + k, ce Ω c (h.2.1 k)) := by
  unfold cw at hk
  rw [List.getElem?_mapIdx] at hk
  cases hc : h.1[k]? with
  | none => rw [hc] at hk; cases hk
  | some c => rw [hc] at hk; exact ⟨c, rfl, (Option.some.inj hk).symm⟩
theorem cw_D (Ω : mO) (h : mH) : va_D (oA Ω) (cw Ω h) := by
  refine ⟨fun i j p q hi hj e => ?_, fun k q hk => ?_⟩
  · obtain ⟨c, -, rfl⟩ := cw_of hi
    obtain ⟨c', -, rfl⟩ := cw_of hj
    have e' : oB Ω + i = oB Ω + j := e
    omega
  · obtain ⟨c, -, rfl⟩ := cw_of hk
    exact Nat.le_add_right _ _
theorem cw_set {Ω : mO} {sk : List mC} {D : mD} {g : Bool} {k : Nat} {c c' : mC} (hk : sk[k]? = some c) (f : Int → Int) : cw Ω (sk.set k c', sA D k f, g) = (cw Ω (sk, D, g)).set k (oB Ω + k, ce Ω c' f) := by
  have hl : k < sk.length := (List.getElem?_eq_some_iff.mp hk).1
  apply List.ext_getElem?
  intro j
  unfold cw
  rw [List.getElem?_mapIdx, List.getElem?_set, List.getElem?_set, List.getElem?_mapIdx]
  by_cases hj : k = j
  · subst hj
    simp [sA, hl]
  · have hj' : ¬ j = k := fun e => hj e.symm
    simp [hj, sA, hj']
theorem set_self {sk : List mC} {k : Nat} {c : mC} (hk : sk[k]? = some c) : sk.set k c = sk := by
  apply List.ext_getElem?
  intro j
  rw [List.getElem?_set]
  by_cases hj : k = j
  · subst hj
    rw [if_pos rfl, if_pos (List.getElem?_eq_some_iff.mp hk).1, hk]
  · rw [if_neg hj]
theorem cw_setD {Ω : mO} {sk : List mC} {D : mD} {g : Bool} {k : Nat} {c : mC} (hk : sk[k]? = some c) (f : Int → Int) : cw Ω (sk, sA D k f, g) = (cw Ω (sk, D, g)).set k (oB Ω + k, ce Ω c f) := by
  have h := cw_set (Ω := Ω) (D := D) (g := g) (c' := c) hk f
  rw [set_self hk] at h
  exact h
theorem cw_push {Ω : mO} {sk : List mC} {D : mD} {g g' : Bool} (c : mC) (f : Int → Int) : cw Ω (sk ++ [c], sA D sk.length f, g') = cw Ω (sk, D, g) ++ [(oB Ω + sk.length, ce Ω c f)] := by
  apply List.ext_getElem?
  intro j
  unfold cw
  rw [List.getElem?_mapIdx]
  by_cases hj : j < sk.length
  · rw [List.getElem?_append_left hj, List.getElem?_append_left (by simpa using hj), List.getElem?_mapIdx]
    have hj' : ¬ j = sk.length := by omega
    simp [sA, hj']
  · rw [List.getElem?_append_right (by omega), List.getElem?_append_right (by simpa using hj)]
    by_cases hj2 : j = sk.length
    · subst hj2
      simp [sA]
    · have : ¬ j - sk.length = 0 := by omega
      obtain ⟨n, hn⟩ : ∃ n, j - sk.length = n + 1 := ⟨j - sk.length - 1, by omega⟩
      simp [hn]
theorem ti {z : Int} (h : nR z) : (Int32.ofInt z).toInt = z := by
  rw [Int32.toInt_ofInt, show Int32.size = 4294967296 from rfl]
  apply Int.bmod_eq_of_le <;> omega
theorem tl {z : Int} (h : nR z) : (Int64.ofInt z).toInt = z := by
  rw [Int64.toInt_ofInt, show Int64.size = 18446744073709551616 from rfl]
  apply Int.bmod_eq_of_le <;> omega
theorem it (x : Int32) : Int32.ofInt x.toInt = x := Int32.ofInt_toInt x
theorem itR (x : Int32) : nR x.toInt := ⟨by have := Int32.le_toInt x; omega, by have := Int32.toInt_lt x; omega⟩
theorem ti_eq {a b : Int} (ha : nR a) (hb : nR b) : Int32.ofInt a = Int32.ofInt b ↔ a = b := by
  rw [← Int32.toInt_inj, ti ha, ti hb]
theorem ti_lt {a b : Int} (ha : nR a) (hb : nR b) : Int32.ofInt a < Int32.ofInt b ↔ a < b := by
  rw [Int32.lt_iff_toInt_lt, ti ha, ti hb]
theorem ti_le {a b : Int} (ha : nR a) (hb : nR b) : Int32.ofInt a ≤ Int32.ofInt b ↔ a ≤ b := by
  rw [Int32.le_iff_toInt_le, ti ha, ti hb]
theorem ti_cl {z : Int} (h : nR z) : (Int32.ofInt z).toNatClampNeg = z.toNat := by
  show (Int32.ofInt z).toInt.toNat = z.toNat
  rw [ti h]
theorem ti_in {z : Int} {n : Nat} (h0 : 0 ≤ z) (h1 : z < n) (hn : n < 2147483648) : vp_in (Int32.ofInt z) n := by
  rw [vp_in_iff, ti ⟨by omega, by omega⟩]
  exact ⟨h0, h1⟩
end MJ0
