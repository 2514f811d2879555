section
/-! the marks of a state as a list of triples (x, y, value), the last slot first -/
def gx_l (a b c : Nat → Int32) : Nat → List (Int32 × Int32 × Int32)
  | 0 => []
  | n + 1 => (a n, b n, c n) :: gx_l a b c n
theorem gx_us {f : Nat → Int32} {k : Nat} {x : Int32} : upd f k x k = x := if_pos rfl
theorem gx_un {f : Nat → Int32} {k j : Nat} {x : Int32} (h : j ≠ k) : upd f k x j = f j := if_neg h
theorem gx_uself (f : Nat → Int32) (k : Nat) : upd f k (f k) = f := by
  funext j
  by_cases h : j = k
  · rw [h, gx_us]
  · rw [gx_un h]
theorem gx_len (a b c : Nat → Int32) : ∀ n : Nat, (gx_l a b c n).length = n
  | 0 => rfl
  | n + 1 => by rw [gx_l, List.length_cons, gx_len a b c n]
theorem gx_mem {a b c : Nat → Int32} {i : Nat} : ∀ {n : Nat}, i < n → (a i, b i, c i) ∈ gx_l a b c n
  | 0, h => absurd h (Nat.not_lt_zero i)
  | n + 1, h => by
    rw [gx_l]
    by_cases e : i = n
    · rw [e]; exact List.mem_cons_self
    · exact List.mem_cons_of_mem _ (gx_mem (by omega))
theorem gx_of_mem {a b c : Nat → Int32} {t : Int32 × Int32 × Int32} : ∀ {n : Nat}, t ∈ gx_l a b c n → ∃ i, i < n ∧ t = (a i, b i, c i)
  | 0, h => by rw [gx_l] at h; exact absurd h List.not_mem_nil
  | n + 1, h => by
    rw [gx_l] at h
    rcases List.mem_cons.mp h with e | h'
    · exact ⟨n, by omega, e⟩
    · obtain ⟨i, hi, e⟩ := gx_of_mem h'
      exact ⟨i, by omega, e⟩
theorem gx_cong {a b c a' b' c' : Nat → Int32} : ∀ {n : Nat}, (∀ i, i < n → a i = a' i ∧ b i = b' i ∧ c i = c' i) → gx_l a b c n = gx_l a' b' c' n
  | 0, _ => rfl
  | n + 1, h => by
    obtain ⟨h1, h2, h3⟩ := h n (by omega)
    rw [gx_l, gx_l, h1, h2, h3, gx_cong (fun i hi => h i (by omega))]
/-- slots at or above n don't show -/
theorem gx_above {a b c : Nat → Int32} {x y v : Int32} {n i : Nat} (h : n ≤ i) : gx_l (upd a i x) (upd b i y) (upd c i v) n = gx_l a b c n :=
  gx_cong (fun j hj => ⟨gx_un (by omega), gx_un (by omega), gx_un (by omega)⟩)
/-- a slot overwritten: the old mark ahead of the new list is the new mark ahead of the old -/
theorem gx_set {a b c : Nat → Int32} {x y v : Int32} {i : Nat} : ∀ {n : Nat}, i < n → List.Perm ((a i, b i, c i) :: gx_l (upd a i x) (upd b i y) (upd c i v) n) ((x, y, v) :: gx_l a b c n)
  | 0, h => absurd h (Nat.not_lt_zero i)
  | n + 1, h => by
    by_cases e : i = n
    · subst e
      rw [gx_l, gx_l, gx_above (Nat.le_refl i), gx_us, gx_us, gx_us]
      exact List.Perm.swap _ _ _
    · have hi : n ≠ i := fun z => e z.symm
      rw [gx_l, gx_l, gx_un hi, gx_un hi, gx_un hi]
      refine (List.Perm.swap _ _ _).trans ?_
      refine (List.Perm.cons _ (gx_set (n := n) (by omega))).trans ?_
      exact List.Perm.swap _ _ _
/-- removal by moving the last mark into the gap -/
theorem gx_rem {a b c : Nat → Int32} {i n : Nat} (h : i < n + 1) : List.Perm ((a i, b i, c i) :: gx_l (upd a i (a n)) (upd b i (b n)) (upd c i (c n)) n) (gx_l a b c (n + 1)) := by
  by_cases e : i = n
  · subst e
    rw [gx_above (Nat.le_refl i), gx_l]
  · rw [gx_l]
    exact gx_set (by omega)
/-- the value alone overwritten -/
theorem gx_setv {a b c : Nat → Int32} {v : Int32} {i n : Nat} (h : i < n) : List.Perm ((a i, b i, c i) :: gx_l a b (upd c i v) n) ((a i, b i, v) :: gx_l a b c n) := by
  have := gx_set (a := a) (b := b) (c := c) (x := a i) (y := b i) (v := v) h
  rw [gx_uself, gx_uself] at this
  exact this
/-- a new last mark -/
theorem gx_new {a b c : Nat → Int32} {x y v : Int32} {n : Nat} : gx_l (upd a n x) (upd b n y) (upd c n v) (n + 1) = (x, y, v) :: gx_l a b c n := by
  rw [gx_l, gx_above (Nat.le_refl n), gx_us, gx_us, gx_us]
def gx_on (x y : Int32) : Prop := 0 ≤ x.toInt ∧ x.toInt < 64 ∧ 0 ≤ y.toInt ∧ y.toInt < 64
def gx_pl (t : Int32 × Int32 × Int32) : Int32 × Int32 := (t.1, t.2.1)
/-- distinct places, all on the board -/
def gx_Ok (l : List (Int32 × Int32 × Int32)) : Prop := (l.map gx_pl).Nodup ∧ ∀ t ∈ l, gx_on t.1 t.2.1
theorem gx_ok_perm {l m : List (Int32 × Int32 × Int32)} (p : List.Perm l m) (h : gx_Ok l) : gx_Ok m :=
  ⟨(p.map gx_pl).nodup h.1, fun t ht => h.2 t (p.mem_iff.mpr ht)⟩
theorem gx_ok_tail {t : Int32 × Int32 × Int32} {l : List (Int32 × Int32 × Int32)} (h : gx_Ok (t :: l)) : gx_Ok l :=
  ⟨(List.nodup_cons.mp (by simpa only [List.map_cons] using h.1)).2, fun s hs => h.2 s (List.mem_cons_of_mem _ hs)⟩
theorem gx_ok_cons {t : Int32 × Int32 × Int32} {l : List (Int32 × Int32 × Int32)} (h : gx_Ok l) (ht : gx_on t.1 t.2.1) (hn : ∀ s ∈ l, ¬ (s.1 = t.1 ∧ s.2.1 = t.2.1)) : gx_Ok (t :: l) := by
  refine ⟨?_, ?_⟩
  · rw [List.map_cons, List.nodup_cons]
    refine ⟨fun hm => ?_, h.1⟩
    obtain ⟨s, hs, e⟩ := List.mem_map.mp hm
    unfold gx_pl at e
    have e1 : s.1 = t.1 := (Prod.mk.inj e).1
    have e2 : s.2.1 = t.2.1 := (Prod.mk.inj e).2
    exact hn s hs ⟨e1, e2⟩
  · intro s hs
    rcases List.mem_cons.mp hs with e | hs'
    · rw [e]; exact ht
    · exact h.2 s hs'
theorem gx_ok_filter {l : List (Int32 × Int32 × Int32)} (p : Int32 × Int32 × Int32 → Bool) (h : gx_Ok l) : gx_Ok (l.filter p) :=
  ⟨h.1.sublist (List.Sublist.map gx_pl List.filter_sublist), fun t ht => h.2 t (List.mem_filter.mp ht).1⟩
theorem gx_uniq {s t : Int32 × Int32 × Int32} : ∀ {l : List (Int32 × Int32 × Int32)}, (l.map gx_pl).Nodup → s ∈ l → t ∈ l → s.1 = t.1 → s.2.1 = t.2.1 → s = t
  | [], _, hs, _, _, _ => absurd hs List.not_mem_nil
  | w :: l, h, hs, ht, e1, e2 => by
    rw [List.map_cons, List.nodup_cons] at h
    have ep : gx_pl s = gx_pl t := by unfold gx_pl; rw [e1, e2]
    rcases List.mem_cons.mp hs with a | a
    · rcases List.mem_cons.mp ht with b | b
      · rw [a, b]
      · exact absurd (List.mem_map.mpr ⟨t, b, by rw [← ep, a]⟩) h.1
    · rcases List.mem_cons.mp ht with b | b
      · exact absurd (List.mem_map.mpr ⟨s, a, by rw [ep, b]⟩) h.1
      · exact gx_uniq h.2 a b e1 e2
/-- one list's mark changed its value only -/
theorem gx_ok_val {a b c : Nat → Int32} {v : Int32} {i n : Nat} (hi : i < n) (h : gx_Ok (gx_l a b c n)) : gx_Ok (gx_l a b (upd c i v) n) := by
  have p := gx_setv (a := a) (b := b) (c := c) (v := v) hi
  have q : List.Perm ((gx_l a b (upd c i v) n).map gx_pl) ((gx_l a b c n).map gx_pl) := by
    have := p.map gx_pl
    rw [List.map_cons, List.map_cons] at this
    exact List.Perm.cons_inv this
  refine ⟨q.symm.nodup h.1, fun t ht => ?_⟩
  obtain ⟨j, hj, e⟩ := gx_of_mem ht
  have := h.2 _ (gx_mem (a := a) (b := b) (c := c) hj)
  rw [e]
  exact this
end
section
/-! what a walk over the marks adds up, as a fold over their list -/
/-- a loop over the slots: the state at slot j is the fold over the marks below j -/
theorem gx_loop {σ : Type} (W : Nat → σ → Nat → Prop) (f : Int32 × Int32 × Int32 → σ → σ) (z0 : σ) (a b c : Nat → Int32) (n : Nat)
    (hx : ∀ k, W (k + 1) (List.foldr f z0 (gx_l a b c n)) n)
    (hs : ∀ k j z, j < n → W k (f (a j, b j, c j) z) (j + 1) → W (k + 1) z j) :
    ∀ d j : Nat, j + d = n → W (d + 1) (List.foldr f z0 (gx_l a b c j)) j
  | 0, j, h => by
    have e : j = n := h
    rw [e]; exact hx 0
  | d + 1, j, h => by
    have ih := gx_loop W f z0 a b c n hx hs d (j + 1) (by omega)
    rw [gx_l, List.foldr_cons] at ih
    exact hs (d + 1) j _ (by omega) ih
def gx_bt (v a b : Int32) : Bool := if b < a then (decide (b ≤ v) && decide (v ≤ a)) else (decide (a ≤ v) && decide (v ≤ b))
def gx_in (x1 y1 x2 y2 : Int32) (t : Int32 × Int32 × Int32) : Bool := gx_bt t.1 x1 x2 && gx_bt t.2.1 y1 y2
def gx_num (t : Int32 × Int32 × Int32) : Int32 := 64 * t.1 + t.2.1
def gx_df (a b : Int32) : Int32 := if a ≤ b then b - a else a - b
def gx_ds (x y : Int32) (t : Int32 × Int32 × Int32) : Int32 := if gx_df t.1 x ≤ gx_df t.2.1 y then gx_df t.2.1 y else gx_df t.1 x
def gx_cs (p : Int32 × Int32 × Int32 → Bool) (t : Int32 × Int32 × Int32) (z : Int32) : Int32 := if p t = true then z + 1 else z
def gx_ss (p : Int32 × Int32 × Int32 → Bool) (t : Int32 × Int32 × Int32) (z : Int32) : Int32 := if p t = true then z + t.2.2 else z
def gx_fX (p : Int32 × Int32 × Int32 → Bool) (t : Int32 × Int32 × Int32) (z : Int32) : Int32 := if p t = true then (if z = -1 then gx_num t else if z ≤ gx_num t then z else gx_num t) else z
def gx_fY (p : Int32 × Int32 × Int32 → Bool) (t : Int32 × Int32 × Int32) (z : Int32) : Int32 := if p t = true then (if z < 0 then gx_num t else if z ≤ gx_num t then z else gx_num t) else z
def gx_ns (x y : Int32) (t : Int32 × Int32 × Int32) (z : Int32 × Int32) : Int32 × Int32 := if gx_ds x y t < z.2 then (gx_num t, gx_ds x y t) else if gx_ds x y t = z.2 then (if z.1 ≤ gx_num t then z else (gx_num t, gx_ds x y t)) else z
theorem gx_cs_perm {l m : List (Int32 × Int32 × Int32)} (p : Int32 × Int32 × Int32 → Bool) (h : List.Perm l m) (z : Int32) : List.foldr (gx_cs p) z l = List.foldr (gx_cs p) z m :=
  h.foldr_eq' (fun s _ t _ z => by unfold gx_cs; split <;> split <;> rfl) z
theorem gx_ss_perm {l m : List (Int32 × Int32 × Int32)} (p : Int32 × Int32 × Int32 → Bool) (h : List.Perm l m) (z : Int32) : List.foldr (gx_ss p) z l = List.foldr (gx_ss p) z m :=
  h.foldr_eq' (fun s _ t _ z => by
    unfold gx_ss
    split <;> split <;> first | rfl | (rw [Int32.add_assoc, Int32.add_assoc, Int32.add_comm s.2.2])) z
theorem gx_0 : (0 : Int32).toInt = 0 := by decide
theorem gx_64 : (64 : Int32).toInt = 64 := by decide
theorem gx_63 : (63 : Int32).toInt = 63 := by decide
theorem gx_m1 : (-1 : Int32).toInt = -1 := by decide
/-- a mark's number is never below nought -/
theorem gx_num0 {t : Int32 × Int32 × Int32} (h : gx_on t.1 t.2.1) : 0 ≤ (gx_num t).toInt := by
  obtain ⟨h1, h2, h3, h4⟩ := h
  unfold gx_num
  rw [Int32.toInt_add, Int32.toInt_mul, gx_64, Int.bmod_eq_of_le (n := (64 : Int) * t.1.toInt) (by omega) (by omega), Int.bmod_eq_of_le (by omega) (by omega)]
  omega
theorem gx_fX_perm {l m : List (Int32 × Int32 × Int32)} (p : Int32 × Int32 × Int32 → Bool) (hl : ∀ t ∈ l, gx_on t.1 t.2.1) (h : List.Perm l m) (z : Int32) : List.foldr (gx_fX p) z l = List.foldr (gx_fX p) z m :=
  h.foldr_eq' (fun s hs t ht z => by
    have a := gx_num0 (hl s hs)
    have b := gx_num0 (hl t ht)
    unfold gx_fX
    generalize gx_num s = u at *
    generalize gx_num t = v at *
    simp only [← Int32.toInt_inj, Int32.le_iff_toInt_le, gx_m1]
    split <;> split <;> (try rfl) <;> apply Int32.toInt_inj.mp <;> (repeat' split) <;> omega) z
theorem gx_fXY (p : Int32 × Int32 × Int32 → Bool) : ∀ {l : List (Int32 × Int32 × Int32)}, (∀ t ∈ l, gx_on t.1 t.2.1) → List.foldr (gx_fY p) (-1) l = List.foldr (gx_fX p) (-1) l ∧ (List.foldr (gx_fX p) (-1) l = -1 ∨ 0 ≤ (List.foldr (gx_fX p) (-1) l).toInt)
  | [], _ => ⟨rfl, Or.inl rfl⟩
  | t :: l, h => by
    obtain ⟨e, hz⟩ := gx_fXY p (l := l) (fun s hs => h s (List.mem_cons_of_mem _ hs))
    have a := gx_num0 (h t List.mem_cons_self)
    rw [List.foldr_cons, List.foldr_cons, e]
    generalize List.foldr (gx_fX p) (-1) l = z at *
    unfold gx_fY gx_fX
    generalize gx_num t = u at *
    simp only [← Int32.toInt_inj, Int32.le_iff_toInt_le, Int32.lt_iff_toInt_lt, gx_m1, gx_0] at *
    constructor
    · split
      · (repeat' split) <;> omega
      · rfl
    · (repeat' split) <;> omega
theorem gx_ns_perm {l m : List (Int32 × Int32 × Int32)} (x y : Int32) (h : List.Perm l m) (z : Int32 × Int32) : List.foldr (gx_ns x y) z l = List.foldr (gx_ns x y) z m :=
  h.foldr_eq' (fun s _ t _ z => by
    unfold gx_ns
    generalize gx_num s = u
    generalize gx_num t = v
    generalize gx_ds x y s = d
    generalize gx_ds x y t = e
    obtain ⟨z1, z2⟩ := z
    have hp : ∀ q r : Int32 × Int32, q.1.toInt = r.1.toInt → q.2.toInt = r.2.toInt → q = r := fun q r h1 h2 => Prod.ext (Int32.toInt_inj.mp h1) (Int32.toInt_inj.mp h2)
    simp only [← Int32.toInt_inj, Int32.le_iff_toInt_le, Int32.lt_iff_toInt_lt]
    apply hp <;> (repeat' split) <;> simp only [] at * <;> omega) z
end
section
theorem gx_dummy : True := trivial
end
