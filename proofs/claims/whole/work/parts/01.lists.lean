/-! the marks of a state as a list of triples (x, y, value), the last slot first -/
def gx_l (a b c : Nat → Int32) : Nat → List (Int32 × Int32 × Int32)
  | 0 => []
  | n + 1 => (a n, b n, c n) :: gx_l a b c n
theorem gx_us {f : Nat → Int32} {k : Nat} {x : Int32} : upd f k x k = x := if_pos rfl
theorem gx_un {f : Nat → Int32} {k j : Nat} {x : Int32} (h : j ≠ k) : upd f k x j = f j := if_neg h
theorem gx_uself (f : Nat → Int32) (k : Nat) : upd f k (f k) = f := by
  funext j
  by_cases h : j = k
  · rw [h, gx_us]
  · rw [gx_un h]
theorem gx_len (a b c : Nat → Int32) : ∀ n : Nat, (gx_l a b c n).length = n
  | 0 => rfl
  | n + 1 => by rw [gx_l, List.length_cons, gx_len a b c n]
theorem gx_mem {a b c : Nat → Int32} {i : Nat} : ∀ {n : Nat}, i < n → (a i, b i, c i) ∈ gx_l a b c n
  | 0, h => absurd h (Nat.not_lt_zero i)
  | n + 1, h => by
    rw [gx_l]
    by_cases e : i = n
    · rw [e]; exact List.mem_cons_self
    · exact List.mem_cons_of_mem _ (gx_mem (by omega))
theorem gx_of_mem {a b c : Nat → Int32} {t : Int32 × Int32 × Int32} : ∀ {n : Nat}, t ∈ gx_l a b c n → ∃ i, i < n ∧ t = (a i, b i, c i)
  | 0, h => by rw [gx_l] at h; exact absurd h List.not_mem_nil
  | n + 1, h => by
    rw [gx_l] at h
    rcases List.mem_cons.mp h with e | h'
    · exact ⟨n, by omega, e⟩
    · obtain ⟨i, hi, e⟩ := gx_of_mem h'
      exact ⟨i, by omega, e⟩
theorem gx_cong {a b c a' b' c' : Nat → Int32} : ∀ {n : Nat}, (∀ i, i < n → a i = a' i ∧ b i = b' i ∧ c i = c' i) → gx_l a b c n = gx_l a' b' c' n
  | 0, _ => rfl
  | n + 1, h => by
    obtain ⟨h1, h2, h3⟩ := h n (by omega)
    rw [gx_l, gx_l, h1, h2, h3, gx_cong (fun i hi => h i (by omega))]
/-- slots at or above n don't show -/
theorem gx_above {a b c : Nat → Int32} {x y v : Int32} {n i : Nat} (h : n ≤ i) : gx_l (upd a i x) (upd b i y) (upd c i v) n = gx_l a b c n :=
  gx_cong (fun j hj => ⟨gx_un (by omega), gx_un (by omega), gx_un (by omega)⟩)
/-- a slot overwritten: the old mark ahead of the new list is the new mark ahead of the old -/
theorem gx_set {a b c : Nat → Int32} {x y v : Int32} {i : Nat} : ∀ {n : Nat}, i < n → List.Perm ((a i, b i, c i) :: gx_l (upd a i x) (upd b i y) (upd c i v) n) ((x, y, v) :: gx_l a b c n)
  | 0, h => absurd h (Nat.not_lt_zero i)
  | n + 1, h => by
    by_cases e : i = n
    · subst e
      rw [gx_l, gx_l, gx_above (Nat.le_refl i), gx_us, gx_us, gx_us]
      exact List.Perm.swap _ _ _
    · have hi : n ≠ i := fun z => e z.symm
      rw [gx_l, gx_l, gx_un hi, gx_un hi, gx_un hi]
      refine (List.Perm.swap _ _ _).trans ?_
      refine (List.Perm.cons _ (gx_set (n := n) (by omega))).trans ?_
      exact List.Perm.swap _ _ _
/-- removal by moving the last mark into the gap -/
theorem gx_rem {a b c : Nat → Int32} {i n : Nat} (h : i < n + 1) : List.Perm ((a i, b i, c i) :: gx_l (upd a i (a n)) (upd b i (b n)) (upd c i (c n)) n) (gx_l a b c (n + 1)) := by
  by_cases e : i = n
  · subst e
    rw [gx_above (Nat.le_refl i), gx_l]
  · rw [gx_l]
    exact gx_set (by omega)
/-- the value alone overwritten -/
theorem gx_setv {a b c : Nat → Int32} {v : Int32} {i n : Nat} (h : i < n) : List.Perm ((a i, b i, c i) :: gx_l a b (upd c i v) n) ((a i, b i, v) :: gx_l a b c n) := by
  have := gx_set (a := a) (b := b) (c := c) (x := a i) (y := b i) (v := v) h
  rw [gx_uself, gx_uself] at this
  exact this
/-- a new last mark -/
theorem gx_new {a b c : Nat → Int32} {x y v : Int32} {n : Nat} : gx_l (upd a n x) (upd b n y) (upd c n v) (n + 1) = (x, y, v) :: gx_l a b c n := by
  rw [gx_l, gx_above (Nat.le_refl n), gx_us, gx_us, gx_us]
def gx_on (x y : Int32) : Prop := 0 ≤ x.toInt ∧ x.toInt < 64 ∧ 0 ≤ y.toInt ∧ y.toInt < 64
def gx_pl (t : Int32 × Int32 × Int32) : Int32 × Int32 := (t.1, t.2.1)
/-- distinct places, all on the board -/
def gx_Ok (l : List (Int32 × Int32 × Int32)) : Prop := (l.map gx_pl).Nodup ∧ ∀ t ∈ l, gx_on t.1 t.2.1
theorem gx_ok_perm {l m : List (Int32 × Int32 × Int32)} (p : List.Perm l m) (h : gx_Ok l) : gx_Ok m :=
  ⟨(p.map gx_pl).nodup h.1, fun t ht => h.2 t (p.mem_iff.mpr ht)⟩
theorem gx_ok_tail {t : Int32 × Int32 × Int32} {l : List (Int32 × Int32 × Int32)} (h : gx_Ok (t :: l)) : gx_Ok l :=
  ⟨(List.nodup_cons.mp (by simpa only [List.map_cons] using h.1)).2, fun s hs => h.2 s (List.mem_cons_of_mem _ hs)⟩
theorem gx_ok_cons {t : Int32 × Int32 × Int32} {l : List (Int32 × Int32 × Int32)} (h : gx_Ok l) (ht : gx_on t.1 t.2.1) (hn : ∀ s ∈ l, ¬ (s.1 = t.1 ∧ s.2.1 = t.2.1)) : gx_Ok (t :: l) := by
  refine ⟨?_, ?_⟩
  · rw [List.map_cons, List.nodup_cons]
    refine ⟨fun hm => ?_, h.1⟩
    obtain ⟨s, hs, e⟩ := List.mem_map.mp hm
    unfold gx_pl at e
    have e1 : s.1 = t.1 := (Prod.mk.inj e).1
    have e2 : s.2.1 = t.2.1 := (Prod.mk.inj e).2
    exact hn s hs ⟨e1, e2⟩
  · intro s hs
    rcases List.mem_cons.mp hs with e | hs'
    · rw [e]; exact ht
    · exact h.2 s hs'
theorem gx_ok_filter {l : List (Int32 × Int32 × Int32)} (p : Int32 × Int32 × Int32 → Bool) (h : gx_Ok l) : gx_Ok (l.filter p) :=
  ⟨h.1.sublist (List.Sublist.map gx_pl List.filter_sublist), fun t ht => h.2 t (List.mem_filter.mp ht).1⟩
theorem gx_uniq {s t : Int32 × Int32 × Int32} : ∀ {l : List (Int32 × Int32 × Int32)}, (l.map gx_pl).Nodup → s ∈ l → t ∈ l → s.1 = t.1 → s.2.1 = t.2.1 → s = t
  | [], _, hs, _, _, _ => absurd hs List.not_mem_nil
  | w :: l, h, hs, ht, e1, e2 => by
    rw [List.map_cons, List.nodup_cons] at h
    have ep : gx_pl s = gx_pl t := by unfold gx_pl; rw [e1, e2]
    rcases List.mem_cons.mp hs with a | a
    · rcases List.mem_cons.mp ht with b | b
      · rw [a, b]
      · exact absurd (List.mem_map.mpr ⟨t, b, by rw [← ep, a]⟩) h.1
    · rcases List.mem_cons.mp ht with b | b
      · exact absurd (List.mem_map.mpr ⟨s, a, by rw [ep, b]⟩) h.1
      · exact gx_uniq h.2 a b e1 e2
/-- one list's mark changed its value only -/
theorem gx_ok_val {a b c : Nat → Int32} {v : Int32} {i n : Nat} (hi : i < n) (h : gx_Ok (gx_l a b c n)) : gx_Ok (gx_l a b (upd c i v) n) := by
  have p := gx_setv (a := a) (b := b) (c := c) (v := v) hi
  have q : List.Perm ((gx_l a b (upd c i v) n).map gx_pl) ((gx_l a b c n).map gx_pl) := by
    have := p.map gx_pl
    rw [List.map_cons, List.map_cons] at this
    exact List.Perm.cons_inv this
  refine ⟨q.symm.nodup h.1, fun t ht => ?_⟩
  obtain ⟨j, hj, e⟩ := gx_of_mem ht
  have := h.2 _ (gx_mem (a := a) (b := b) (c := c) hj)
  rw [e]
  exact this
