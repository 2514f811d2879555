/-! what a walk over the marks adds up, as a fold over their list -/
/-- a loop over the slots: the state at slot j is the fold over the marks below j -/
theorem gx_loop {σ : Type} (W : Nat → σ → Nat → Prop) (f : Int32 × Int32 × Int32 → σ → σ) (z0 : σ) (a b c : Nat → Int32) (n : Nat)
    (hx : ∀ k, W (k + 1) (List.foldr f z0 (gx_l a b c n)) n)
    (hs : ∀ k j z, j < n → W k (f (a j, b j, c j) z) (j + 1) → W (k + 1) z j) :
    ∀ d j : Nat, j + d = n → W (d + 1) (List.foldr f z0 (gx_l a b c j)) j
  | 0, j, h => by
    have e : j = n := h
    rw [e]; exact hx 0
  | d + 1, j, h => by
    have ih := gx_loop W f z0 a b c n hx hs d (j + 1) (by omega)
    rw [gx_l, List.foldr_cons] at ih
    exact hs (d + 1) j _ (by omega) ih
def gx_bt (v a b : Int32) : Bool := if b < a then (decide (b ≤ v) && decide (v ≤ a)) else (decide (a ≤ v) && decide (v ≤ b))
def gx_in (x1 y1 x2 y2 : Int32) (t : Int32 × Int32 × Int32) : Bool := gx_bt t.1 x1 x2 && gx_bt t.2.1 y1 y2
def gx_num (t : Int32 × Int32 × Int32) : Int32 := 64 * t.1 + t.2.1
def gx_df (a b : Int32) : Int32 := if a ≤ b then b - a else a - b
def gx_ds (x y : Int32) (t : Int32 × Int32 × Int32) : Int32 := if gx_df t.1 x ≤ gx_df t.2.1 y then gx_df t.2.1 y else gx_df t.1 x
def gx_cs (p : Int32 × Int32 × Int32 → Bool) (t : Int32 × Int32 × Int32) (z : Int32) : Int32 := if p t = true then z + 1 else z
def gx_ss (p : Int32 × Int32 × Int32 → Bool) (t : Int32 × Int32 × Int32) (z : Int32) : Int32 := if p t = true then z + t.2.2 else z
def gx_fX (p : Int32 × Int32 × Int32 → Bool) (t : Int32 × Int32 × Int32) (z : Int32) : Int32 := if p t = true then (if z = -1 then gx_num t else if z ≤ gx_num t then z else gx_num t) else z
def gx_fY (p : Int32 × Int32 × Int32 → Bool) (t : Int32 × Int32 × Int32) (z : Int32) : Int32 := if p t = true then (if z < 0 then gx_num t else if z ≤ gx_num t then z else gx_num t) else z
def gx_ns (x y : Int32) (t : Int32 × Int32 × Int32) (z : Int32 × Int32) : Int32 × Int32 := if gx_ds x y t < z.2 then (gx_num t, gx_ds x y t) else if gx_ds x y t = z.2 then (if z.1 ≤ gx_num t then z else (gx_num t, gx_ds x y t)) else z
theorem gx_cs_perm {l m : List (Int32 × Int32 × Int32)} (p : Int32 × Int32 × Int32 → Bool) (h : List.Perm l m) (z : Int32) : List.foldr (gx_cs p) z l = List.foldr (gx_cs p) z m :=
  h.foldr_eq' (fun s _ t _ z => by unfold gx_cs; split <;> split <;> rfl) z
theorem gx_ss_perm {l m : List (Int32 × Int32 × Int32)} (p : Int32 × Int32 × Int32 → Bool) (h : List.Perm l m) (z : Int32) : List.foldr (gx_ss p) z l = List.foldr (gx_ss p) z m :=
  h.foldr_eq' (fun s _ t _ z => by
    unfold gx_ss
    split <;> split <;> first | rfl | (rw [Int32.add_assoc, Int32.add_assoc, Int32.add_comm s.2.2])) z
theorem gx_0 : (0 : Int32).toInt = 0 := by decide
theorem gx_64 : (64 : Int32).toInt = 64 := by decide
theorem gx_63 : (63 : Int32).toInt = 63 := by decide
theorem gx_m1 : (-1 : Int32).toInt = -1 := by decide
/-- a mark's number is never below nought -/
theorem gx_num0 {t : Int32 × Int32 × Int32} (h : gx_on t.1 t.2.1) : 0 ≤ (gx_num t).toInt := by
  obtain ⟨h1, h2, h3, h4⟩ := h
  unfold gx_num
  rw [Int32.toInt_add, Int32.toInt_mul, gx_64, Int.bmod_eq_of_le (n := (64 : Int) * t.1.toInt) (by omega) (by omega), Int.bmod_eq_of_le (by omega) (by omega)]
  omega
theorem gx_fX_perm {l m : List (Int32 × Int32 × Int32)} (p : Int32 × Int32 × Int32 → Bool) (hl : ∀ t ∈ l, gx_on t.1 t.2.1) (h : List.Perm l m) (z : Int32) : List.foldr (gx_fX p) z l = List.foldr (gx_fX p) z m :=
  h.foldr_eq' (fun s hs t ht z => by
    have a := gx_num0 (hl s hs)
    have b := gx_num0 (hl t ht)
    unfold gx_fX
    generalize gx_num s = u at *
    generalize gx_num t = v at *
    simp only [← Int32.toInt_inj, Int32.le_iff_toInt_le, gx_m1]
    split <;> split <;> (repeat' split) <;> omega) z
theorem gx_fXY (p : Int32 × Int32 × Int32 → Bool) : ∀ {l : List (Int32 × Int32 × Int32)}, (∀ t ∈ l, gx_on t.1 t.2.1) → List.foldr (gx_fY p) (-1) l = List.foldr (gx_fX p) (-1) l ∧ (List.foldr (gx_fX p) (-1) l = -1 ∨ 0 ≤ (List.foldr (gx_fX p) (-1) l).toInt)
  | [], _ => ⟨rfl, Or.inl rfl⟩
  | t :: l, h => by
    obtain ⟨e, hz⟩ := gx_fXY p (l := l) (fun s hs => h s (List.mem_cons_of_mem _ hs))
    have a := gx_num0 (h t List.mem_cons_self)
    rw [List.foldr_cons, List.foldr_cons, e]
    generalize List.foldr (gx_fX p) (-1) l = z at *
    unfold gx_fY gx_fX
    generalize gx_num t = u at *
    simp only [← Int32.toInt_inj, Int32.le_iff_toInt_le, Int32.lt_iff_toInt_lt, gx_m1, gx_0] at *
    constructor
    · split
      · (repeat' split) <;> omega
      · rfl
    · (repeat' split) <;> omega
theorem gx_ns_perm {l m : List (Int32 × Int32 × Int32)} (x y : Int32) (h : List.Perm l m) (z : Int32 × Int32) : List.foldr (gx_ns x y) z l = List.foldr (gx_ns x y) z m :=
  h.foldr_eq' (fun s _ t _ z => by
    unfold gx_ns
    generalize gx_num s = u
    generalize gx_num t = v
    generalize gx_ds x y s = d
    generalize gx_ds x y t = e
    obtain ⟨z1, z2⟩ := z
    have hp : ∀ q r : Int32 × Int32, q.1.toInt = r.1.toInt → q.2.toInt = r.2.toInt → q = r := fun q r h1 h2 => Prod.ext (Int32.toInt_inj.mp h1) (Int32.toInt_inj.mp h2)
    simp only [← Int32.toInt_inj, Int32.le_iff_toInt_le, Int32.lt_iff_toInt_lt]
    apply hp <;> (repeat' split) <;> simp only [] at * <;> omega) z
