section
/-! the marks of a state as a list of triples (x, y, value), the last slot first -/
def gx_l (a b c : Nat → Int32) : Nat → List (Int32 × Int32 × Int32)
  | 0 => []
  | n + 1 => (a n, b n, c n) :: gx_l a b c n
theorem gx_us {f : Nat → Int32} {k : Nat} {x : Int32} : upd f k x k = x := if_pos rfl
theorem gx_un {f : Nat → Int32} {k j : Nat} {x : Int32} (h : j ≠ k) : upd f k x j = f j := if_neg h
theorem gx_uself (f : Nat → Int32) (k : Nat) : upd f k (f k) = f := by
  funext j
  by_cases h : j = k
  · rw [h, gx_us]
  · rw [gx_un h]
theorem gx_len (a b c : Nat → Int32) : ∀ n : Nat, (gx_l a b c n).length = n
  | 0 => rfl
  | n + 1 => by rw [gx_l, List.length_cons, gx_len a b c n]
theorem gx_mem {a b c : Nat → Int32} {i : Nat} : ∀ {n : Nat}, i < n → (a i, b i, c i) ∈ gx_l a b c n
  | 0, h => absurd h (Nat.not_lt_zero i)
  | n + 1, h => by
    rw [gx_l]
    by_cases e : i = n
    · rw [e]; exact List.mem_cons_self
    · exact List.mem_cons_of_mem _ (gx_mem (by omega))
theorem gx_of_mem {a b c : Nat → Int32} {t : Int32 × Int32 × Int32} : ∀ {n : Nat}, t ∈ gx_l a b c n → ∃ i, i < n ∧ t = (a i, b i, c i)
  | 0, h => by rw [gx_l] at h; exact absurd h List.not_mem_nil
  | n + 1, h => by
    rw [gx_l] at h
    rcases List.mem_cons.mp h with e | h'
    · exact ⟨n, by omega, e⟩
    · obtain ⟨i, hi, e⟩ := gx_of_mem h'
      exact ⟨i, by omega, e⟩
theorem gx_cong {a b c a' b' c' : Nat → Int32} : ∀ {n : Nat}, (∀ i, i < n → a i = a' i ∧ b i = b' i ∧ c i = c' i) → gx_l a b c n = gx_l a' b' c' n
  | 0, _ => rfl
  | n + 1, h => by
    obtain ⟨h1, h2, h3⟩ := h n (by omega)
    rw [gx_l, gx_l, h1, h2, h3, gx_cong (fun i hi => h i (by omega))]
/-- slots at or above n don't show -/
theorem gx_above {a b c : Nat → Int32} {x y v : Int32} {n i : Nat} (h : n ≤ i) : gx_l (upd a i x) (upd b i y) (upd c i v) n = gx_l a b c n :=
  gx_cong (fun j hj => ⟨gx_un (by omega), gx_un (by omega), gx_un (by omega)⟩)
/-- a slot overwritten: the old mark ahead of the new list is the new mark ahead of the old -/
theorem gx_set {a b c : Nat → Int32} {x y v : Int32} {i : Nat} : ∀ {n : Nat}, i < n → List.Perm ((a i, b i, c i) :: gx_l (upd a i x) (upd b i y) (upd c i v) n) ((x, y, v) :: gx_l a b c n)
  | 0, h => absurd h (Nat.not_lt_zero i)
  | n + 1, h => by
    by_cases e : i = n
    · subst e
      rw [gx_l, gx_l, gx_above (Nat.le_refl i), gx_us, gx_us, gx_us]
      exact List.Perm.swap _ _ _
    · have hi : n ≠ i := fun z => e z.symm
      rw [gx_l, gx_l, gx_un hi, gx_un hi, gx_un hi]
      refine (List.Perm.swap _ _ _).trans ?_
      refine (List.Perm.cons _ (gx_set (n := n) (by omega))).trans ?_
      exact List.Perm.swap _ _ _
/-- removal by moving the last mark into the gap -/
theorem gx_rem {a b c : Nat → Int32} {i n : Nat} (h : i < n + 1) : List.Perm ((a i, b i, c i) :: gx_l (upd a i (a n)) (upd b i (b n)) (upd c i (c n)) n) (gx_l a b c (n + 1)) := by
  by_cases e : i = n
  · subst e
    rw [gx_above (Nat.le_refl i), gx_l]
  · rw [gx_l]
    exact gx_set (by omega)
/-- the value alone overwritten -/
theorem gx_setv {a b c : Nat → Int32} {v : Int32} {i n : Nat} (h : i < n) : List.Perm ((a i, b i, c i) :: gx_l a b (upd c i v) n) ((a i, b i, v) :: gx_l a b c n) := by
  have := gx_set (a := a) (b := b) (c := c) (x := a i) (y := b i) (v := v) h
  rw [gx_uself, gx_uself] at this
  exact this
/-- a new last mark -/
theorem gx_new {a b c : Nat → Int32} {x y v : Int32} {n : Nat} : gx_l (upd a n x) (upd b n y) (upd c n v) (n + 1) = (x, y, v) :: gx_l a b c n := by
  rw [gx_l, gx_above (Nat.le_refl n), gx_us, gx_us, gx_us]
def gx_on (x y : Int32) : Prop := 0 ≤ x.toInt ∧ x.toInt < 64 ∧ 0 ≤ y.toInt ∧ y.toInt < 64
def gx_pl (t : Int32 × Int32 × Int32) : Int32 × Int32 := (t.1, t.2.1)
/-- distinct places, all on the board -/
def gx_Ok (l : List (Int32 × Int32 × Int32)) : Prop := (l.map gx_pl).Nodup ∧ ∀ t ∈ l, gx_on t.1 t.2.1
theorem gx_ok_perm {l m : List (Int32 × Int32 × Int32)} (p : List.Perm l m) (h : gx_Ok l) : gx_Ok m :=
  ⟨(p.map gx_pl).nodup h.1, fun t ht => h.2 t (p.mem_iff.mpr ht)⟩
theorem gx_ok_tail {t : Int32 × Int32 × Int32} {l : List (Int32 × Int32 × Int32)} (h : gx_Ok (t :: l)) : gx_Ok l :=
  ⟨(List.nodup_cons.mp (by simpa only [List.map_cons] using h.1)).2, fun s hs => h.2 s (List.mem_cons_of_mem _ hs)⟩
theorem gx_ok_cons {t : Int32 × Int32 × Int32} {l : List (Int32 × Int32 × Int32)} (h : gx_Ok l) (ht : gx_on t.1 t.2.1) (hn : ∀ s ∈ l, ¬ (s.1 = t.1 ∧ s.2.1 = t.2.1)) : gx_Ok (t :: l) := by
  refine ⟨?_, ?_⟩
  · rw [List.map_cons, List.nodup_cons]
    refine ⟨fun hm => ?_, h.1⟩
    obtain ⟨s, hs, e⟩ := List.mem_map.mp hm
    unfold gx_pl at e
    have e1 : s.1 = t.1 := (Prod.mk.inj e).1
    have e2 : s.2.1 = t.2.1 := (Prod.mk.inj e).2
    exact hn s hs ⟨e1, e2⟩
  · intro s hs
    rcases List.mem_cons.mp hs with e | hs'
    · rw [e]; exact ht
    · exact h.2 s hs'
theorem gx_ok_filter {l : List (Int32 × Int32 × Int32)} (p : Int32 × Int32 × Int32 → Bool) (h : gx_Ok l) : gx_Ok (l.filter p) :=
  ⟨h.1.sublist (List.Sublist.map gx_pl List.filter_sublist), fun t ht => h.2 t (List.mem_filter.mp ht).1⟩
theorem gx_uniq {s t : Int32 × Int32 × Int32} : ∀ {l : List (Int32 × Int32 × Int32)}, (l.map gx_pl).Nodup → s ∈ l → t ∈ l → s.1 = t.1 → s.2.1 = t.2.1 → s = t
  | [], _, hs, _, _, _ => absurd hs List.not_mem_nil
  | w :: l, h, hs, ht, e1, e2 => by
    rw [List.map_cons, List.nodup_cons] at h
    have ep : gx_pl s = gx_pl t := by unfold gx_pl; rw [e1, e2]
    rcases List.mem_cons.mp hs with a | a
    · rcases List.mem_cons.mp ht with b | b
      · rw [a, b]
      · exact absurd (List.mem_map.mpr ⟨t, b, by rw [← ep, a]⟩) h.1
    · rcases List.mem_cons.mp ht with b | b
      · exact absurd (List.mem_map.mpr ⟨s, a, by rw [ep, b]⟩) h.1
      · exact gx_uniq h.2 a b e1 e2
/-- one list's mark changed its value only -/
theorem gx_ok_val {a b c : Nat → Int32} {v : Int32} {i n : Nat} (hi : i < n) (h : gx_Ok (gx_l a b c n)) : gx_Ok (gx_l a b (upd c i v) n) := by
  have p := gx_setv (a := a) (b := b) (c := c) (v := v) hi
  have q : List.Perm ((gx_l a b (upd c i v) n).map gx_pl) ((gx_l a b c n).map gx_pl) := by
    have := p.map gx_pl
    rw [List.map_cons, List.map_cons] at this
    exact List.Perm.cons_inv this
  refine ⟨q.symm.nodup h.1, fun t ht => ?_⟩
  obtain ⟨j, hj, e⟩ := gx_of_mem ht
  have := h.2 _ (gx_mem (a := a) (b := b) (c := c) hj)
  rw [e]
  exact this
end
section
/-! what a walk over the marks adds up, as a fold over their list -/
/-- a loop over the slots: the state at slot j is the fold over the marks below j -/
theorem gx_loop {σ : Type} (W : Nat → σ → Nat → Prop) (f : Int32 × Int32 × Int32 → σ → σ) (z0 : σ) (a b c : Nat → Int32) (n : Nat)
    (hx : ∀ k, W (k + 1) (List.foldr f z0 (gx_l a b c n)) n)
    (hs : ∀ k j z, j < n → W k (f (a j, b j, c j) z) (j + 1) → W (k + 1) z j) :
    ∀ d j : Nat, j + d = n → W (d + 1) (List.foldr f z0 (gx_l a b c j)) j
  | 0, j, h => by
    have e : j = n := h
    rw [e]; exact hx 0
  | d + 1, j, h => by
    have ih := gx_loop W f z0 a b c n hx hs d (j + 1) (by omega)
    rw [gx_l, List.foldr_cons] at ih
    exact hs (d + 1) j _ (by omega) ih
def gx_bt (v a b : Int32) : Bool := if b < a then (decide (b ≤ v) && decide (v ≤ a)) else (decide (a ≤ v) && decide (v ≤ b))
def gx_in (x1 y1 x2 y2 : Int32) (t : Int32 × Int32 × Int32) : Bool := gx_bt t.1 x1 x2 && gx_bt t.2.1 y1 y2
def gx_num (t : Int32 × Int32 × Int32) : Int32 := 64 * t.1 + t.2.1
def gx_df (a b : Int32) : Int32 := if a ≤ b then b - a else a - b
def gx_ds (x y : Int32) (t : Int32 × Int32 × Int32) : Int32 := if gx_df t.1 x ≤ gx_df t.2.1 y then gx_df t.2.1 y else gx_df t.1 x
def gx_cs (p : Int32 × Int32 × Int32 → Bool) (t : Int32 × Int32 × Int32) (z : Int32) : Int32 := if p t = true then z + 1 else z
def gx_ss (p : Int32 × Int32 × Int32 → Bool) (t : Int32 × Int32 × Int32) (z : Int32) : Int32 := if p t = true then z + t.2.2 else z
def gx_fX (p : Int32 × Int32 × Int32 → Bool) (t : Int32 × Int32 × Int32) (z : Int32) : Int32 := if p t = true then (if z = -1 then gx_num t else if z ≤ gx_num t then z else gx_num t) else z
def gx_fY (p : Int32 × Int32 × Int32 → Bool) (t : Int32 × Int32 × Int32) (z : Int32) : Int32 := if p t = true then (if z < 0 then gx_num t else if z ≤ gx_num t then z else gx_num t) else z
def gx_ns (x y : Int32) (t : Int32 × Int32 × Int32) (z : Int32 × Int32) : Int32 × Int32 := if gx_ds x y t < z.2 then (gx_num t, gx_ds x y t) else if gx_ds x y t = z.2 then (if z.1 ≤ gx_num t then z else (gx_num t, gx_ds x y t)) else z
theorem gx_cs_perm {l m : List (Int32 × Int32 × Int32)} (p : Int32 × Int32 × Int32 → Bool) (h : List.Perm l m) (z : Int32) : List.foldr (gx_cs p) z l = List.foldr (gx_cs p) z m :=
  h.foldr_eq' (fun s _ t _ z => by unfold gx_cs; split <;> split <;> rfl) z
theorem gx_ss_perm {l m : List (Int32 × Int32 × Int32)} (p : Int32 × Int32 × Int32 → Bool) (h : List.Perm l m) (z : Int32) : List.foldr (gx_ss p) z l = List.foldr (gx_ss p) z m :=
  h.foldr_eq' (fun s _ t _ z => by
    unfold gx_ss
    split <;> split <;> first | rfl | (rw [Int32.add_assoc, Int32.add_assoc, Int32.add_comm s.2.2])) z
theorem gx_0 : (0 : Int32).toInt = 0 := by decide
theorem gx_64 : (64 : Int32).toInt = 64 := by decide
theorem gx_63 : (63 : Int32).toInt = 63 := by decide
theorem gx_m1 : (-1 : Int32).toInt = -1 := by decide
/-- a mark's number is never below nought -/
theorem gx_num0 {t : Int32 × Int32 × Int32} (h : gx_on t.1 t.2.1) : 0 ≤ (gx_num t).toInt := by
  obtain ⟨h1, h2, h3, h4⟩ := h
  unfold gx_num
  rw [Int32.toInt_add, Int32.toInt_mul, gx_64, Int.bmod_eq_of_le (n := (64 : Int) * t.1.toInt) (by omega) (by omega), Int.bmod_eq_of_le (by omega) (by omega)]
  omega
theorem gx_fX_perm {l m : List (Int32 × Int32 × Int32)} (p : Int32 × Int32 × Int32 → Bool) (hl : ∀ t ∈ l, gx_on t.1 t.2.1) (h : List.Perm l m) (z : Int32) : List.foldr (gx_fX p) z l = List.foldr (gx_fX p) z m :=
  h.foldr_eq' (fun s hs t ht z => by
    have a := gx_num0 (hl s hs)
    have b := gx_num0 (hl t ht)
    unfold gx_fX
    generalize gx_num s = u at *
    generalize gx_num t = v at *
    simp only [← Int32.toInt_inj, Int32.le_iff_toInt_le, gx_m1]
    split <;> split <;> (repeat' split) <;> omega) z
theorem gx_fXY (p : Int32 × Int32 × Int32 → Bool) : ∀ {l : List (Int32 × Int32 × Int32)}, (∀ t ∈ l, gx_on t.1 t.2.1) → List.foldr (gx_fY p) (-1) l = List.foldr (gx_fX p) (-1) l ∧ (List.foldr (gx_fX p) (-1) l = -1 ∨ 0 ≤ (List.foldr (gx_fX p) (-1) l).toInt)
  | [], _ => ⟨rfl, Or.inl rfl⟩
  | t :: l, h => by
    obtain ⟨e, hz⟩ := gx_fXY p (l := l) (fun s hs => h s (List.mem_cons_of_mem _ hs))
    have a := gx_num0 (h t List.mem_cons_self)
    rw [List.foldr_cons, List.foldr_cons, e]
    generalize List.foldr (gx_fX p) (-1) l = z at *
    unfold gx_fY gx_fX
    generalize gx_num t = u at *
    simp only [← Int32.toInt_inj, Int32.le_iff_toInt_le, Int32.lt_iff_toInt_lt, gx_m1, gx_0] at *
    constructor
    · split
      · (repeat' split) <;> omega
      · rfl
    · (repeat' split) <;> omega
theorem gx_ns_perm {l m : List (Int32 × Int32 × Int32)} (x y : Int32) (h : List.Perm l m) (z : Int32 × Int32) : List.foldr (gx_ns x y) z l = List.foldr (gx_ns x y) z m :=
  h.foldr_eq' (fun s _ t _ z => by
    unfold gx_ns
    generalize gx_num s = u
    generalize gx_num t = v
    generalize gx_ds x y s = d
    generalize gx_ds x y t = e
    obtain ⟨z1, z2⟩ := z
    have hp : ∀ q r : Int32 × Int32, q.1.toInt = r.1.toInt → q.2.toInt = r.2.toInt → q = r := fun q r h1 h2 => Prod.ext (Int32.toInt_inj.mp h1) (Int32.toInt_inj.mp h2)
    simp only [← Int32.toInt_inj, Int32.le_iff_toInt_le, Int32.lt_iff_toInt_lt]
    apply hp <;> (repeat' split) <;> simp only [] at * <;> omega) z
end
section
/-! the class's methods, each with a general post -/
theorem gx_boardX {post : Int32 → Prop} {x y : Int32} (h1 : gx_on x y → post 1) (h0 : ¬ gx_on x y → post 0) : wpX_isOnBoard post x y := by
  unfold wpX_isOnBoard
  unfold gx_on at h0 h1
  simp only [Int32.lt_iff_toInt_lt, Int32.le_iff_toInt_le, gx_0, gx_64]
  refine ⟨fun h => h0 (by omega), fun h => ⟨fun h' => h0 (by omega), fun h' => ⟨fun g => h0 (by omega), fun g => ⟨fun g' => h0 (by omega), fun g' => h1 (by omega)⟩⟩⟩⟩
theorem gx_slotX {post : Int32 → Prop} {a b c : Nat → Int32} {n : Nat} {x y : Int32} (hn : n ≤ 40) (hf : ∀ i, i < n → a i = x → b i = y → post (nI i)) (hno : (∀ t ∈ gx_l a b c n, ¬ (t.1 = x ∧ t.2.1 = y)) → post (-1)) : wpX_slotOf post (nI n, a, b, c) x y := by
  have aux : ∀ d j : Nat, j + d = n → (∀ i, i < j → ¬ (a i = x ∧ b i = y)) → wX_slotOf_2 post x y (nI n) a b c (d + 1) (nI j) := by
    intro d
    induction d with
    | zero =>
      intro j hj hm
      refine br_t (nI_le (by omega) (by omega)) (hno ?_)
      intro t ht
      obtain ⟨i, hi, e⟩ := gx_of_mem ht
      rw [e]
      exact hm i (by omega)
    | succ d ih =>
      intro j hj hm
      have hi : vp_in (nI j) 40 := vp_in_nI (by omega) (by omega)
      have hc : (nI j).toNatClampNeg = j := nI_clamp (by omega)
      refine br_f (nI_ge (by omega) (by omega)) ⟨hi, ?_⟩
      rw [hc]
      by_cases e1 : a j = x
      · refine br_t e1 ⟨hi, ?_⟩
        by_cases e2 : b j = y
        · exact br_t e2 (hf j (by omega) e1 e2)
        · refine br_f e2 (nm_r (nI_1 j) (ih (j + 1) (by omega) ?_))
          exact lt_s hm (fun z => e2 z.2)
      · refine br_f e1 (nm_r (nI_1 j) (ih (j + 1) (by omega) ?_))
        exact lt_s hm (fun z => e1 z.1)
  exact ⟨n + 1, aux n 0 (by omega) lt_0⟩
theorem gx_putX {post : Int32 → SX → Prop} {a b c : Nat → Int32} {n : Nat} {x y v : Int32} (hn : n ≤ 40)
    (hoff : ¬ gx_on x y → post (-1) (nI n, a, b, c))
    (hold : gx_on x y → ∀ i, i < n → a i = x → b i = y → post (nI n) (nI n, a, b, upd c i v))
    (hfull : gx_on x y → (∀ t ∈ gx_l a b c n, ¬ (t.1 = x ∧ t.2.1 = y)) → n = 40 → post (-1) (nI n, a, b, c))
    (hnew : gx_on x y → (∀ t ∈ gx_l a b c n, ¬ (t.1 = x ∧ t.2.1 = y)) → n < 40 → post (nI (n + 1)) (nI (n + 1), upd a n x, upd b n y, upd c n v)) : wpX_put post (nI n, a, b, c) x y v := by
  unfold wpX_put
  refine gx_boardX (fun on => br_f (by decide) ?_) (fun off => br_t rfl (hoff off))
  refine gx_slotX hn (fun i hi e1 e2 => ?_) (fun no => ?_)
  · refine br_f (fun z => ?_) ?_
    · have := congrArg Int32.toInt z
      rw [nI_toInt (by omega), gx_m1] at this
      omega
    · unfold wX_put_67
      rw [nI_clamp (by omega)]
      exact ⟨vp_in_nI (by omega) (by omega), nm_e (hold on i hi e1 e2)⟩
  · refine br_t rfl ?_
    by_cases h40 : n < 40
    · have hin : vp_in (nI n) 40 := vp_in_nI h40 (by omega)
      have hc : (nI n).toNatClampNeg = n := nI_clamp (by omega)
      refine br_t (nI_lt (b := 40) h40 (by decide)) ⟨hin, ?_⟩
      rw [hc]
      refine nm_e ⟨hin, nm_e (nm_r (nI_1 n) ?_)⟩
      unfold wX_put_67
      rw [hc]
      exact ⟨hin, nm_e (hnew on no h40)⟩
    · exact br_f (nI_nlt (b := 40) (by omega) (by omega)) (hfull on no (by omega))
theorem gx_moveX {post : SX → Prop} {h : Int32} {a b c : Nat → Int32} {i j : Nat} (hi : i < 40) (hj : j < 40) (p : post (h, upd a j (a i), upd b j (b i), upd c j (c i))) : wpX_moveMark post (h, a, b, c) (nI i) (nI j) := by
  have vi : vp_in (nI i) 40 := vp_in_nI hi (by omega)
  have vj : vp_in (nI j) 40 := vp_in_nI hj (by omega)
  have ci : (nI i).toNatClampNeg = i := nI_clamp (by omega)
  have cj : (nI j).toNatClampNeg = j := nI_clamp (by omega)
  unfold wpX_moveMark
  dsimp only
  rw [ci, cj]
  exact ⟨vi, vj, nm_e ⟨vi, vj, nm_e ⟨vi, vj, nm_e p⟩⟩⟩
theorem gx_ne1 {i : Nat} (h : i < 2 ^ 31) : ¬ nI i = -1 := by
  intro z
  have := congrArg Int32.toInt z
  rw [nI_toInt h, gx_m1] at this
  omega
theorem gx_removeX {post : Int32 → SX → Prop} {a b c : Nat → Int32} {n : Nat} {x y : Int32} (hn : n ≤ 40)
    (hno : (∀ t ∈ gx_l a b c n, ¬ (t.1 = x ∧ t.2.1 = y)) → post (-1) (nI n, a, b, c))
    (hf : ∀ i m, n = m + 1 → i < n → a i = x → b i = y → post (nI m) (nI m, upd a i (a m), upd b i (b m), upd c i (c m))) : wpX_remove post (nI n, a, b, c) x y := by
  unfold wpX_remove
  refine gx_slotX hn (fun i hi e1 e2 => ?_) (fun no => br_t rfl (hno no))
  obtain ⟨m, rfl⟩ : ∃ m, n = m + 1 := ⟨n - 1, by omega⟩
  refine br_f (gx_ne1 (by omega)) (nm_r (nI_pred m) ?_)
  exact gx_moveX (by omega) (by omega) (hf i m rfl hi e1 e2)
theorem gx_hasX {post : Int32 → Prop} {a b c : Nat → Int32} {n : Nat} {x y : Int32} (hn : n ≤ 40)
    (hno : (∀ t ∈ gx_l a b c n, ¬ (t.1 = x ∧ t.2.1 = y)) → post 0)
    (hf : ∀ i, i < n → a i = x → b i = y → post 1) : wpX_has post (nI n, a, b, c) x y := by
  unfold wpX_has
  refine gx_slotX hn (fun i hi e1 e2 => ?_) (fun no => br_t rfl (hno no))
  exact br_f (gx_ne1 (by omega)) (hf i hi e1 e2)
theorem gx_valueX {post : Int32 → Prop} {a b c : Nat → Int32} {n : Nat} {x y : Int32} (hn : n ≤ 40)
    (hno : (∀ t ∈ gx_l a b c n, ¬ (t.1 = x ∧ t.2.1 = y)) → post 0)
    (hf : ∀ i, i < n → a i = x → b i = y → post (c i)) : wpX_value post (nI n, a, b, c) x y := by
  unfold wpX_value
  refine gx_slotX hn (fun i hi e1 e2 => ?_) (fun no => br_t rfl (hno no))
  refine br_f (gx_ne1 (by omega)) ⟨vp_in_nI (by omega) (by omega), ?_⟩
  rw [nI_clamp (by omega)]
  exact hf i hi e1 e2
theorem gx_betwX {post : Int32 → Prop} {v p q : Int32} (h1 : gx_bt v p q = true → post 1) (h0 : gx_bt v p q = false → post 0) : wpX_isBetween post v p q := by
  unfold wpX_isBetween
  unfold gx_bt at h0 h1
  refine ⟨fun g => ?_, fun g => ?_⟩
  · rw [if_pos g] at h0 h1
    refine ⟨fun k => h0 ?_, fun k => ⟨fun k' => h0 ?_, fun k' => h1 ?_⟩⟩
    · simp [Int32.not_le.mpr k]
    · simp [Int32.not_le.mpr k']
    · simp [Int32.not_lt.mp k, Int32.not_lt.mp k']
  · rw [if_neg g] at h0 h1
    refine ⟨fun k => h0 ?_, fun k => ⟨fun k' => h0 ?_, fun k' => h1 ?_⟩⟩
    · simp [Int32.not_le.mpr k]
    · simp [Int32.not_le.mpr k']
    · simp [Int32.not_lt.mp k, Int32.not_lt.mp k']
theorem gx_rectX {post : Int32 → Prop} {h : Int32} {a b c : Nat → Int32} {j : Nat} {x1 y1 x2 y2 : Int32} (hj : j < 40) (h0 : gx_in x1 y1 x2 y2 (a j, b j, c j) = false → post 0) (h1 : gx_in x1 y1 x2 y2 (a j, b j, c j) = true → post 1) : wpX_isInRectangle post (h, a, b, c) (nI j) x1 y1 x2 y2 := by
  have vj : vp_in (nI j) 40 := vp_in_nI hj (by omega)
  have cj : (nI j).toNatClampNeg = j := nI_clamp (by omega)
  unfold gx_in at h0 h1
  unfold wpX_isInRectangle
  dsimp only at h0 h1 ⊢
  rw [cj]
  refine ⟨vj, gx_betwX (fun e => ?_) (fun e => ?_)⟩
  · rw [e] at h0 h1
    refine br_f (by decide) ⟨vj, gx_betwX (fun g => ?_) (fun g => ?_)⟩
    · exact br_f (by decide) (h1 (by rw [g]; rfl))
    · exact br_t rfl (h0 (by rw [g]; rfl))
  · rw [e] at h0
    exact br_t rfl (h0 rfl)
theorem gx_countX {post : Int32 → Prop} {a b c : Nat → Int32} {n : Nat} {x1 y1 x2 y2 : Int32} (hn : n ≤ 40) (h : post (List.foldr (gx_cs (gx_in x1 y1 x2 y2)) 0 (gx_l a b c n))) : wpX_count post (nI n, a, b, c) x1 y1 x2 y2 := by
  refine ⟨n + 1, ?_⟩
  refine gx_loop (fun k z j => wX_count_6 post x1 y1 x2 y2 (nI n) a b c k z (nI j)) (gx_cs (gx_in x1 y1 x2 y2)) 0 a b c n ?_ ?_ n 0 (by omega)
  · intro k
    exact br_t (nI_le (by omega) (by omega)) h
  · intro k j z hj ih
    unfold gx_cs at ih
    refine br_f (nI_ge hj (by omega)) (gx_rectX (by omega) (fun e => ?_) (fun e => ?_))
    · rw [e, if_neg (by decide)] at ih
      exact br_t rfl (nm_r (nI_1 j) ih)
    · rw [if_pos e] at ih
      exact br_f (by decide) (nm_e (nm_r (nI_1 j) ih))
theorem gx_sumX {post : Int32 → Prop} {a b c : Nat → Int32} {n : Nat} {x1 y1 x2 y2 : Int32} (hn : n ≤ 40) (h : post (List.foldr (gx_ss (gx_in x1 y1 x2 y2)) 0 (gx_l a b c n))) : wpX_sum post (nI n, a, b, c) x1 y1 x2 y2 := by
  refine ⟨n + 1, ?_⟩
  refine gx_loop (fun k z j => wX_sum_6 post x1 y1 x2 y2 (nI n) a b c k z (nI j)) (gx_ss (gx_in x1 y1 x2 y2)) 0 a b c n ?_ ?_ n 0 (by omega)
  · intro k
    exact br_t (nI_le (by omega) (by omega)) h
  · intro k j z hj ih
    unfold gx_ss at ih
    refine br_f (nI_ge hj (by omega)) (gx_rectX (by omega) (fun e => ?_) (fun e => ?_))
    · rw [e, if_neg (by decide)] at ih
      exact br_t rfl (nm_r (nI_1 j) ih)
    · rw [if_pos e] at ih
      refine br_f (by decide) ⟨vp_in_nI (by omega) (by omega), ?_⟩
      rw [nI_clamp (by omega)]
      exact nm_e (nm_r (nI_1 j) ih)
theorem gx_numX {post : Int32 → Prop} {h : Int32} {a b c : Nat → Int32} {j : Nat} (hj : j < 40) (p : post (gx_num (a j, b j, c j))) : wpX_placeNumber post (h, a, b, c) (nI j) := by
  have vj : vp_in (nI j) 40 := vp_in_nI hj (by omega)
  have cj : (nI j).toNatClampNeg = j := nI_clamp (by omega)
  unfold wpX_placeNumber
  dsimp only
  rw [cj]
  exact ⟨vj, vj, p⟩
theorem gx_firstX {post : Int32 → Prop} {a b c : Nat → Int32} {n : Nat} {x1 y1 x2 y2 : Int32} (hn : n ≤ 40) (h : post (List.foldr (gx_fX (gx_in x1 y1 x2 y2)) (-1) (gx_l a b c n))) : wpX_first post (nI n, a, b, c) x1 y1 x2 y2 := by
  refine ⟨n + 1, ?_⟩
  refine gx_loop (fun k z j => wX_first_6 post x1 y1 x2 y2 (nI n) a b c k z (nI j)) (gx_fX (gx_in x1 y1 x2 y2)) (-1) a b c n ?_ ?_ n 0 (by omega)
  · intro k
    exact br_t (nI_le (by omega) (by omega)) h
  · intro k j z hj ih
    unfold gx_fX at ih
    refine br_f (nI_ge hj (by omega)) (gx_rectX (by omega) (fun e => ?_) (fun e => ?_))
    · rw [e, if_neg (by decide)] at ih
      exact br_t rfl (nm_r (nI_1 j) ih)
    · rw [if_pos e] at ih
      refine br_f (by decide) (gx_numX (by omega) ?_)
      refine ⟨fun g => ?_, fun g => ⟨fun g' => ?_, fun g' => ?_⟩⟩
      · rw [if_pos g] at ih
        exact nm_r (nI_1 j) ih
      · rw [if_neg g, if_pos g'] at ih
        exact nm_r (nI_1 j) ih
      · rw [if_neg g, if_neg g'] at ih
        exact nm_r (nI_1 j) ih
theorem gx_diffX {post : Int32 → Prop} {p q : Int32} (h : post (gx_df p q)) : wpX_difference post p q := by
  unfold gx_df at h
  refine ⟨fun g => ?_, fun g => ?_⟩
  · rw [if_pos g] at h; exact h
  · rw [if_neg g] at h; exact h
theorem gx_distX {post : Int32 → Prop} {h : Int32} {a b c : Nat → Int32} {j : Nat} {x y : Int32} (hj : j < 40) (p : post (gx_ds x y (a j, b j, c j))) : wpX_distanceTo post (h, a, b, c) (nI j) x y := by
  have vj : vp_in (nI j) 40 := vp_in_nI hj (by omega)
  have cj : (nI j).toNatClampNeg = j := nI_clamp (by omega)
  unfold wpX_distanceTo
  unfold gx_ds at p
  dsimp only at p ⊢
  rw [cj]
  refine ⟨vj, gx_diffX ⟨vj, gx_diffX ⟨fun g => ?_, fun g => ?_⟩⟩⟩
  · rw [if_pos g] at p; exact p
  · rw [if_neg g] at p; exact p
theorem gx_nearX {post : Int32 → Prop} {a b c : Nat → Int32} {n : Nat} {x y : Int32} (hn : n ≤ 40) (hoff : ¬ gx_on x y → post (-1)) (h : gx_on x y → post (List.foldr (gx_ns x y) (-1, 64) (gx_l a b c n)).1) : wpX_nearest post (nI n, a, b, c) x y := by
  unfold wpX_nearest
  refine gx_boardX (fun on => br_f (by decide) ?_) (fun off => br_t rfl (hoff off))
  refine ⟨n + 1, ?_⟩
  refine gx_loop (fun k z j => wX_nearest_19 post x y (nI n) a b c k z.1 z.2 (nI j)) (gx_ns x y) (-1, 64) a b c n ?_ ?_ n 0 (by omega)
  · intro k
    exact br_t (nI_le (by omega) (by omega)) (h on)
  · intro k j z hj ih
    unfold gx_ns at ih
    refine br_f (nI_ge hj (by omega)) (gx_distX (by omega) (gx_numX (by omega) ?_))
    refine ⟨fun g => ?_, fun g => ⟨fun g' => ⟨fun g'' => ?_, fun g'' => ?_⟩, fun g' => ?_⟩⟩
    · rw [if_pos g] at ih
      exact nm_r (nI_1 j) ih
    · rw [if_neg g, if_pos g', if_pos g''] at ih
      exact nm_r (nI_1 j) ih
    · rw [if_neg g, if_pos g', if_neg g''] at ih
      exact nm_r (nI_1 j) ih
    · rw [if_neg g, if_neg g'] at ih
      exact nm_r (nI_1 j) ih
theorem gx_clearX {post : Int32 → SX → Prop} {a b c : Nat → Int32} {n : Nat} {x1 y1 x2 y2 : Int32} (hn : n ≤ 40) (h : ∀ (m : Nat) (a' b' c' : Nat → Int32), m ≤ n → List.Perm (gx_l a' b' c' m) ((gx_l a b c n).filter (fun t => !gx_in x1 y1 x2 y2 t)) → post (nI n - nI m) (nI m, a', b', c')) : wpX_clear post (nI n, a, b, c) x1 y1 x2 y2 := by
  have aux : ∀ (d j m : Nat) (a' b' c' : Nat → Int32), j + d = n → m ≤ j → gx_l a' b' c' m = (gx_l a b c j).filter (fun t => !gx_in x1 y1 x2 y2 t) → (∀ i, j ≤ i → a' i = a i ∧ b' i = b i ∧ c' i = c i) → wX_clear_12 post x1 y1 x2 y2 (nI n) (d + 1) (nI m) (nI j) (nI n) a' b' c' := by
    intro d
    induction d with
    | zero =>
      intro j m a' b' c' hj hm he hs
      have ej : j = n := hj
      subst ej
      exact br_t (nI_le (by omega) (by omega)) (h m a' b' c' hm (List.Perm.of_eq he))
    | succ d ih =>
      intro j m a' b' c' hj hm he hs
      obtain ⟨s1, s2, s3⟩ := hs j (Nat.le_refl j)
      refine br_f (nI_ge (by omega) (by omega)) (gx_rectX (by omega) (fun e => ?_) (fun e => ?_))
      · refine br_t rfl (gx_moveX (by omega) (by omega) ?_)
        refine nm_r (nI_1 m) (nm_r (nI_1 j) (ih (j + 1) (m + 1) _ _ _ (by omega) (by omega) ?_ ?_))
        · rw [gx_new, he, s1, s2, s3, gx_l, List.filter_cons_of_pos]
          rw [s1, s2, s3] at e
          rw [e]; rfl
        · intro i hi
          rw [gx_un (by omega), gx_un (by omega), gx_un (by omega)]
          exact hs i (by omega)
      · refine br_f (by decide) (nm_r (nI_1 j) (ih (j + 1) m a' b' c' (by omega) (by omega) ?_ (fun i hi => hs i (by omega))))
        rw [he, gx_l, List.filter_cons_of_neg]
        rw [s1, s2, s3] at e
        rw [e]; decide
  exact ⟨n + 1, aux n 0 0 a b c (by omega) (by omega) rfl (fun i _ => ⟨rfl, rfl, rfl⟩)⟩
end
section
/-! the reference's methods, each with a general post -/
theorem gx_offY {post : Int32 → Prop} {x y : Int32} (h0 : gx_on x y → post 0) (h1 : ¬ gx_on x y → post 1) : wpY_off post x y := by
  unfold wpY_off
  unfold gx_on at h0 h1
  simp only [Int32.lt_iff_toInt_lt, Int32.le_iff_toInt_le, gx_0, gx_63]
  refine ⟨fun h => h1 (by omega), fun h => ⟨fun h' => h1 (by omega), fun h' => ⟨fun g => h1 (by omega), fun g => ⟨fun g' => h0 (by omega), fun g' => h1 (by omega)⟩⟩⟩⟩
theorem gx_findY {post : Int32 → Prop} {a b c : Nat → Int32} {n : Nat} {x y : Int32} (hn : n ≤ 40) (hf : ∀ i, i < n → a i = x → b i = y → post (nI i)) (hno : (∀ t ∈ gx_l a b c n, ¬ (t.1 = x ∧ t.2.1 = y)) → post (-1)) : wpY_find post (nI n, a, b, c) x y := by
  have aux : ∀ d j : Nat, j + d = n → (∀ i, i < j → ¬ (a i = x ∧ b i = y)) → wY_find_2 post x y (nI n) a b c (d + 1) (nI j) := by
    intro d
    induction d with
    | zero =>
      intro j hj hm
      refine br_t (nI_le (by omega) (by omega)) (hno ?_)
      intro t ht
      obtain ⟨i, hi, e⟩ := gx_of_mem ht
      rw [e]
      exact hm i (by omega)
    | succ d ih =>
      intro j hj hm
      have hi : vp_in (nI j) 40 := vp_in_nI (by omega) (by omega)
      have hc : (nI j).toNatClampNeg = j := nI_clamp (by omega)
      refine br_f (nI_ge (by omega) (by omega)) ⟨hi, ?_⟩
      rw [hc]
      by_cases e1 : a j = x
      · refine br_t e1 ⟨hi, ?_⟩
        by_cases e2 : b j = y
        · exact br_t e2 (hf j (by omega) e1 e2)
        · refine br_f e2 (nm_r (nI_1 j) (ih (j + 1) (by omega) ?_))
          exact lt_s hm (fun z => e2 z.2)
      · refine br_f e1 (nm_r (nI_1 j) (ih (j + 1) (by omega) ?_))
        exact lt_s hm (fun z => e1 z.1)
  exact ⟨n + 1, aux n 0 (by omega) lt_0⟩
theorem gx_n01 : ¬ (0 : Int32) ≤ -1 := by decide
theorem gx_putY {post : Int32 → SY → Prop} {a b c : Nat → Int32} {n : Nat} {x y v : Int32} (hn : n ≤ 40)
    (hoff : ¬ gx_on x y → post (-1) (nI n, a, b, c))
    (hold : gx_on x y → ∀ i, i < n → a i = x → b i = y → post (nI n) (nI n, a, b, upd c i v))
    (hfull : gx_on x y → (∀ t ∈ gx_l a b c n, ¬ (t.1 = x ∧ t.2.1 = y)) → n = 40 → post (-1) (nI n, a, b, c))
    (hnew : gx_on x y → (∀ t ∈ gx_l a b c n, ¬ (t.1 = x ∧ t.2.1 = y)) → n < 40 → post (nI (n + 1)) (nI (n + 1), upd a n x, upd b n y, upd c n v)) : wpY_put post (nI n, a, b, c) x y v := by
  unfold wpY_put
  refine gx_offY (fun on => br_t rfl ?_) (fun off => br_f (by decide) (hoff off))
  refine gx_findY hn (fun i hi e1 e2 => ?_) (fun no => ?_)
  · refine br_t (nI_pos' (by omega)) ?_
    unfold wY_put_34
    refine br_t (nI_pos' (by omega)) ?_
    unfold wY_put_71
    rw [nI_clamp (by omega)]
    exact ⟨vp_in_nI (by omega) (by omega), nm_e (hold on i hi e1 e2)⟩
  · refine br_f gx_n01 ?_
    by_cases h40 : n < 40
    · have hin : vp_in (nI n) 40 := vp_in_nI h40 (by omega)
      have hc : (nI n).toNatClampNeg = n := nI_clamp (by omega)
      have hne : ¬ nI n = 40 := fun z => by
        have := (nI_eq (a := n) (b := 40) (by omega) (by omega)).mp z
        omega
      refine br_f hne ?_
      unfold wY_put_34
      refine br_f gx_n01 ⟨hin, ?_⟩
      rw [hc]
      refine nm_e ⟨hin, nm_e (nm_r (nI_1 n) ?_)⟩
      unfold wY_put_71
      rw [hc]
      exact ⟨hin, nm_e (hnew on no h40)⟩
    · have e : n = 40 := by omega
      refine br_t ?_ (hfull on no e)
      rw [e]; rfl
theorem gx_dropY {post : SY → Prop} {a b c : Nat → Int32} {m i : Nat} (hm : m < 40) (hi : i < 40) (p : post (nI m, upd a i (a m), upd b i (b m), upd c i (c m))) : wpY_drop post (nI (m + 1), a, b, c) (nI i) := by
  have vi : vp_in (nI i) 40 := vp_in_nI hi (by omega)
  have vm : vp_in (nI m) 40 := vp_in_nI hm (by omega)
  have ci : (nI i).toNatClampNeg = i := nI_clamp (by omega)
  have cm : (nI m).toNatClampNeg = m := nI_clamp (by omega)
  unfold wpY_drop
  dsimp only
  refine nm_r (nI_pred m) ?_
  rw [ci, cm]
  exact ⟨vm, vi, nm_e ⟨vm, vi, nm_e ⟨vm, vi, nm_e p⟩⟩⟩
theorem gx_removeY {post : Int32 → SY → Prop} {a b c : Nat → Int32} {n : Nat} {x y : Int32} (hn : n ≤ 40)
    (hno : (∀ t ∈ gx_l a b c n, ¬ (t.1 = x ∧ t.2.1 = y)) → post (-1) (nI n, a, b, c))
    (hf : ∀ i m, n = m + 1 → i < n → a i = x → b i = y → post (nI m) (nI m, upd a i (a m), upd b i (b m), upd c i (c m))) : wpY_remove post (nI n, a, b, c) x y := by
  unfold wpY_remove
  refine gx_findY hn (fun i hi e1 e2 => ?_) (fun no => br_f gx_n01 (hno no))
  obtain ⟨m, rfl⟩ : ∃ m, n = m + 1 := ⟨n - 1, by omega⟩
  refine br_t (nI_pos' (by omega)) ?_
  exact gx_dropY (by omega) (by omega) (hf i m rfl hi e1 e2)
theorem gx_hasY {post : Int32 → Prop} {a b c : Nat → Int32} {n : Nat} {x y : Int32} (hn : n ≤ 40)
    (hno : (∀ t ∈ gx_l a b c n, ¬ (t.1 = x ∧ t.2.1 = y)) → post 0)
    (hf : ∀ i, i < n → a i = x → b i = y → post 1) : wpY_has post (nI n, a, b, c) x y := by
  unfold wpY_has
  refine gx_findY hn (fun i hi e1 e2 => ?_) (fun no => br_t (by decide) (hno no))
  exact br_f (nI_pos (by omega)) (hf i hi e1 e2)
theorem gx_valueY {post : Int32 → Prop} {a b c : Nat → Int32} {n : Nat} {x y : Int32} (hn : n ≤ 40)
    (hno : (∀ t ∈ gx_l a b c n, ¬ (t.1 = x ∧ t.2.1 = y)) → post 0)
    (hf : ∀ i, i < n → a i = x → b i = y → post (c i)) : wpY_value post (nI n, a, b, c) x y := by
  unfold wpY_value
  refine gx_findY hn (fun i hi e1 e2 => ?_) (fun no => br_f gx_n01 (hno no))
  refine br_t (nI_pos' (by omega)) ⟨vp_in_nI (by omega) (by omega), ?_⟩
  rw [nI_clamp (by omega)]
  exact hf i hi e1 e2
/-- where the ends are equal, either order says the same -/
theorem gx_btY (v p q : Int32) : gx_bt v p q = if q ≤ p then (decide (q ≤ v) && decide (v ≤ p)) else (decide (p ≤ v) && decide (v ≤ q)) := by
  unfold gx_bt
  by_cases g : q < p
  · rw [if_pos g, if_pos (Int32.le_of_lt g)]
  · rw [if_neg g]
    by_cases k : q ≤ p
    · have e : q = p := Int32.le_antisymm k (Int32.not_lt.mp g)
      rw [if_pos k, e]
    · rw [if_neg k]
theorem gx_betwY {post : Int32 → Prop} {v p q : Int32} (h1 : gx_bt v p q = true → post 1) (h0 : gx_bt v p q = false → post 0) : wpY_between post v p q := by
  unfold wpY_between
  rw [gx_btY] at h0 h1
  refine ⟨fun g => ?_, fun g => ?_⟩
  · rw [if_pos g] at h0 h1
    refine ⟨fun k => h0 ?_, fun k => ⟨fun k' => h0 ?_, fun k' => h1 ?_⟩⟩
    · simp [Int32.not_le.mpr k]
    · simp [Int32.not_le.mpr k']
    · simp [Int32.not_lt.mp k, Int32.not_lt.mp k']
  · rw [if_neg g] at h0 h1
    refine ⟨fun k => h0 ?_, fun k => ⟨fun k' => h0 ?_, fun k' => h1 ?_⟩⟩
    · simp [Int32.not_le.mpr k]
    · simp [Int32.not_le.mpr k']
    · simp [Int32.not_lt.mp k, Int32.not_lt.mp k']
theorem gx_rectY {post : Int32 → Prop} {h : Int32} {a b c : Nat → Int32} {j : Nat} {x1 y1 x2 y2 : Int32} (hj : j < 40) (h0 : gx_in x1 y1 x2 y2 (a j, b j, c j) = false → post 0) (h1 : gx_in x1 y1 x2 y2 (a j, b j, c j) = true → post 1) : wpY_inside post (h, a, b, c) (nI j) x1 y1 x2 y2 := by
  have vj : vp_in (nI j) 40 := vp_in_nI hj (by omega)
  have cj : (nI j).toNatClampNeg = j := nI_clamp (by omega)
  unfold gx_in at h0 h1
  unfold wpY_inside
  dsimp only at h0 h1 ⊢
  rw [cj]
  refine ⟨vj, gx_betwY (fun e => ?_) (fun e => ?_)⟩
  · rw [e] at h0 h1
    refine br_f (by decide) ⟨vj, gx_betwY (fun g => ?_) (fun g => ?_)⟩
    · exact br_f (by decide) (h1 (by rw [g]; rfl))
    · exact br_t rfl (h0 (by rw [g]; rfl))
  · rw [e] at h0
    exact br_t rfl (h0 rfl)
theorem gx_countY {post : Int32 → Prop} {a b c : Nat → Int32} {n : Nat} {x1 y1 x2 y2 : Int32} (hn : n ≤ 40) (h : post (List.foldr (gx_cs (gx_in x1 y1 x2 y2)) 0 (gx_l a b c n))) : wpY_count post (nI n, a, b, c) x1 y1 x2 y2 := by
  refine ⟨n + 1, ?_⟩
  refine gx_loop (fun k z j => wY_count_6 post x1 y1 x2 y2 (nI n) a b c k z (nI j)) (gx_cs (gx_in x1 y1 x2 y2)) 0 a b c n ?_ ?_ n 0 (by omega)
  · intro k
    exact br_t (nI_le (by omega) (by omega)) h
  · intro k j z hj ih
    unfold gx_cs at ih
    refine br_f (nI_ge hj (by omega)) (gx_rectY (by omega) (fun e => ?_) (fun e => ?_))
    · rw [e, if_neg (by decide)] at ih
      exact br_t rfl (nm_r (nI_1 j) ih)
    · rw [if_pos e] at ih
      exact br_f (by decide) (nm_e (nm_r (nI_1 j) ih))
theorem gx_sumY {post : Int32 → Prop} {a b c : Nat → Int32} {n : Nat} {x1 y1 x2 y2 : Int32} (hn : n ≤ 40) (h : post (List.foldr (gx_ss (gx_in x1 y1 x2 y2)) 0 (gx_l a b c n))) : wpY_sum post (nI n, a, b, c) x1 y1 x2 y2 := by
  refine ⟨n + 1, ?_⟩
  refine gx_loop (fun k z j => wY_sum_6 post x1 y1 x2 y2 (nI n) a b c k z (nI j)) (gx_ss (gx_in x1 y1 x2 y2)) 0 a b c n ?_ ?_ n 0 (by omega)
  · intro k
    exact br_t (nI_le (by omega) (by omega)) h
  · intro k j z hj ih
    unfold gx_ss at ih
    refine br_f (nI_ge hj (by omega)) (gx_rectY (by omega) (fun e => ?_) (fun e => ?_))
    · rw [e, if_neg (by decide)] at ih
      exact br_t rfl (nm_r (nI_1 j) ih)
    · rw [if_pos e] at ih
      refine br_f (by decide) ⟨vp_in_nI (by omega) (by omega), ?_⟩
      rw [nI_clamp (by omega)]
      exact nm_e (nm_r (nI_1 j) ih)
theorem gx_numY {post : Int32 → Prop} {h : Int32} {a b c : Nat → Int32} {j : Nat} (hj : j < 40) (p : post (gx_num (a j, b j, c j))) : wpY_number post (h, a, b, c) (nI j) := by
  have vj : vp_in (nI j) 40 := vp_in_nI hj (by omega)
  have cj : (nI j).toNatClampNeg = j := nI_clamp (by omega)
  unfold wpY_number
  dsimp only
  rw [cj]
  exact ⟨vj, vj, p⟩
theorem gx_firstY {post : Int32 → Prop} {a b c : Nat → Int32} {n : Nat} {x1 y1 x2 y2 : Int32} (hn : n ≤ 40) (h : post (List.foldr (gx_fY (gx_in x1 y1 x2 y2)) (-1) (gx_l a b c n))) : wpY_first post (nI n, a, b, c) x1 y1 x2 y2 := by
  refine ⟨n + 1, ?_⟩
  refine gx_loop (fun k z j => wY_first_6 post x1 y1 x2 y2 (nI n) a b c k z (nI j)) (gx_fY (gx_in x1 y1 x2 y2)) (-1) a b c n ?_ ?_ n 0 (by omega)
  · intro k
    exact br_t (nI_le (by omega) (by omega)) h
  · intro k j z hj ih
    unfold gx_fY at ih
    refine br_f (nI_ge hj (by omega)) (gx_rectY (by omega) (fun e => ?_) (fun e => ?_))
    · rw [e, if_neg (by decide)] at ih
      exact br_t rfl (nm_r (nI_1 j) ih)
    · rw [if_pos e] at ih
      refine br_f (by decide) ⟨fun g => ?_, fun g => gx_numY (by omega) ⟨fun g' => ?_, fun g' => ?_⟩⟩
      · rw [if_pos g] at ih
        unfold wY_first_45
        exact gx_numY (by omega) (nm_r (nI_1 j) ih)
      · rw [if_neg g, if_pos g'] at ih
        exact nm_r (nI_1 j) ih
      · rw [if_neg g, if_neg g'] at ih
        unfold wY_first_45
        exact gx_numY (by omega) (nm_r (nI_1 j) ih)
theorem gx_dfY (p q : Int32) : gx_df p q = if q ≤ p then p - q else q - p := by
  unfold gx_df
  by_cases g : p ≤ q
  · rw [if_pos g]
    by_cases k : q ≤ p
    · have e : p = q := Int32.le_antisymm g k
      rw [if_pos k, e]
    · rw [if_neg k]
  · rw [if_neg g, if_pos (Int32.le_of_lt (Int32.not_le.mp g))]
theorem gx_distY {post : Int32 → Prop} {h : Int32} {a b c : Nat → Int32} {j : Nat} {x y : Int32} (hj : j < 40) (p : post (gx_ds x y (a j, b j, c j))) : wpY_distance post (h, a, b, c) (nI j) x y := by
  have vj : vp_in (nI j) 40 := vp_in_nI hj (by omega)
  have cj : (nI j).toNatClampNeg = j := nI_clamp (by omega)
  have last : ∀ d e : Int32, d = gx_df (a j) x → e = gx_df (b j) y → wY_distance_60 post d e h a b c := by
    intro d e hd he
    unfold gx_ds at p
    dsimp only at p
    rw [← hd, ← he] at p
    refine ⟨fun g => ?_, fun g => ?_⟩
    · rw [if_pos g] at p; exact p
    · rw [if_neg g] at p; exact p
  have mid : ∀ d : Int32, d = gx_df (a j) x → wY_distance_29 post (nI j) y d h a b c := by
    intro d hd
    unfold wY_distance_29
    rw [cj]
    refine ⟨vj, fun g => ⟨vj, last _ _ hd ?_⟩, fun g => ⟨vj, last _ _ hd ?_⟩⟩
    · rw [gx_dfY, if_pos g]
    · rw [gx_dfY, if_neg g]
  unfold wpY_distance
  dsimp only
  rw [cj]
  refine ⟨vj, fun g => ⟨vj, mid _ ?_⟩, fun g => ⟨vj, mid _ ?_⟩⟩
  · rw [gx_dfY, if_pos g]
  · rw [gx_dfY, if_neg g]
theorem gx_nearY {post : Int32 → Prop} {a b c : Nat → Int32} {n : Nat} {x y : Int32} (hn : n ≤ 40) (hoff : ¬ gx_on x y → post (-1)) (h : gx_on x y → post (List.foldr (gx_ns x y) (-1, 64) (gx_l a b c n)).1) : wpY_nearest post (nI n, a, b, c) x y := by
  unfold wpY_nearest
  refine gx_offY (fun on => br_t rfl ?_) (fun off => br_f (by decide) (hoff off))
  refine ⟨n + 1, ?_⟩
  refine gx_loop (fun k z j => wY_nearest_19 post x y (nI n) a b c k z.1 z.2 (nI j)) (gx_ns x y) (-1, 64) a b c n ?_ ?_ n 0 (by omega)
  · intro k
    exact br_t (nI_le (by omega) (by omega)) (h on)
  · intro k j z hj ih
    unfold gx_ns at ih
    refine br_f (nI_ge hj (by omega)) (gx_distY (by omega) ?_)
    refine ⟨fun g => ?_, fun g => ⟨fun g' => gx_numY (by omega) ⟨fun g'' => ?_, fun g'' => ?_⟩, fun g' => ?_⟩⟩
    · rw [if_pos g] at ih
      unfold wY_nearest_62
      exact gx_numY (by omega) (nm_r (nI_1 j) ih)
    · rw [if_neg g, if_pos g', if_pos g''] at ih
      exact nm_r (nI_1 j) ih
    · rw [if_neg g, if_pos g', if_neg g''] at ih
      unfold wY_nearest_62
      exact gx_numY (by omega) (nm_r (nI_1 j) ih)
    · rw [if_neg g, if_neg g'] at ih
      exact nm_r (nI_1 j) ih
theorem gx_clearY {post : Int32 → SY → Prop} {a b c : Nat → Int32} {n : Nat} {x1 y1 x2 y2 : Int32} (hn : n ≤ 40) (h : ∀ (m : Nat) (a' b' c' : Nat → Int32), m ≤ n → List.Perm (gx_l a' b' c' m) ((gx_l a b c n).filter (fun t => !gx_in x1 y1 x2 y2 t)) → post (nI n - nI m) (nI m, a', b', c')) : wpY_clear post (nI n, a, b, c) x1 y1 x2 y2 := by
  have aux : ∀ (j m : Nat) (a' b' c' : Nat → Int32), j ≤ m → m ≤ n → (∀ i, j ≤ i → i < m → gx_in x1 y1 x2 y2 (a' i, b' i, c' i) = false) → List.Perm ((gx_l a' b' c' m).filter (fun t => !gx_in x1 y1 x2 y2 t)) ((gx_l a b c n).filter (fun t => !gx_in x1 y1 x2 y2 t)) → wY_clear_14 post x1 y1 x2 y2 (nI n) (j + 1) (nI j - 1) (nI m) a' b' c' := by
    intro j
    induction j with
    | zero =>
      intro m a' b' c' hj hm ho hp
      refine br_t (by decide) (h m a' b' c' hm ?_)
      rw [List.filter_eq_self.mpr] at hp
      · exact hp
      · intro t ht
        obtain ⟨i, hi, e⟩ := gx_of_mem ht
        rw [e, ho i (Nat.zero_le i) hi]; rfl
    | succ j ih =>
      intro m a' b' c' hj hm ho hp
      rw [nI_pred]
      have en : nI j + (-1) = nI j - 1 := (Int32.sub_eq_add_neg (nI j) 1).symm
      refine br_f (nI_pos (by omega)) (gx_rectY (by omega) (fun e => ?_) (fun e => ?_))
      · refine br_t rfl (nm_r en (ih m a' b' c' (by omega) hm (fun i hi hi' => ?_) hp))
        by_cases ei : i = j
        · rw [ei]; exact e
        · exact ho i (by omega) hi'
      · obtain ⟨p, rfl⟩ : ∃ p, m = p + 1 := ⟨m - 1, by omega⟩
        refine br_f (by decide) (gx_dropY (by omega) (by omega) ?_)
        refine nm_r en (ih p _ _ _ (by omega) (by omega) (fun i hi hi' => ?_) ?_)
        · by_cases ei : i = j
          · rw [ei, gx_us, gx_us, gx_us]
            exact ho p (by omega) (by omega)
          · rw [gx_un ei, gx_un ei, gx_un ei]
            exact ho i (by omega) (by omega)
        · have q := (gx_rem (a := a') (b := b') (c := c') (i := j) (n := p) (by omega)).filter (fun t => !gx_in x1 y1 x2 y2 t)
          rw [List.filter_cons_of_neg (by rw [e]; decide)] at q
          exact q.trans hp
  unfold wpY_clear
  refine nm_e ⟨n + 1, ?_⟩
  exact aux n n a b c (Nat.le_refl n) (Nat.le_refl n) (fun i hi hi' => absurd hi (by omega)) (List.Perm.refl _)
end
section
/-! the relation and what is owed -/
/-- the same number of marks, the same marks in whatever order, distinct places, all on the board -/
def i_Rel (k : Nat) (u : SX) (v : SY) : Prop := ∃ (n : Nat) (a b c a' b' c' : Nat → Int32), n ≤ 40 ∧ u = (nI n, a, b, c) ∧ v = (nI n, a', b', c') ∧ List.Perm (gx_l a b c n) (gx_l a' b' c' n) ∧ gx_Ok (gx_l a b c n)
theorem gx_nope {l m : List (Int32 × Int32 × Int32)} {x y : Int32} (p : List.Perm l m) (no : ∀ t ∈ l, ¬ (t.1 = x ∧ t.2.1 = y)) : ∀ t ∈ m, ¬ (t.1 = x ∧ t.2.1 = y) :=
  fun t ht => no t (p.mem_iff.mpr ht)
theorem gx_same {a b c a' b' c' : Nat → Int32} {n i j : Nat} {x y : Int32} (p : List.Perm (gx_l a b c n) (gx_l a' b' c' n)) (o : gx_Ok (gx_l a b c n)) (hi : i < n) (hj : j < n) (e1 : a i = x) (e2 : b i = y) (f1 : a' j = x) (f2 : b' j = y) : (a i, b i, c i) = (a' j, b' j, c' j) :=
  gx_uniq o.1 (gx_mem hi) (p.mem_iff.mpr (gx_mem hj)) (e1.trans f1.symm) (e2.trans f2.symm)
theorem i_up {k : Nat} {u : SX} {v : SY} (h : i_Rel k u v) : i_Rel (k + 5) u v := h
theorem i_vc0 : wpX_init (fun u => wpY_init (fun v => i_Rel 0 u v)) := by
  exact ⟨0, fun _ => 0, fun _ => 0, fun _ => 0, fun _ => 0, fun _ => 0, fun _ => 0, by omega, rfl, rfl, List.Perm.refl _, List.Pairwise.nil, fun t ht => absurd ht List.not_mem_nil⟩
theorem i_vc_put {k : Nat} {u : SX} {v : SY} (I : i_Rel k u v) (hk : k + 5 ≤ 2560) (v1 : Int32) (v2 : Int32) (v3 : Int32) : wpX_put (fun r u' => wpY_put (fun r' v' => r' = r ∧ i_Rel (k + 5) u' v') v v1 v2 v3) u v1 v2 v3 := by
  obtain ⟨n, a, b, c, a', b', c', hn, rfl, rfl, p, o⟩ := I
  have J : i_Rel (k + 5) (nI n, a, b, c) (nI n, a', b', c') := ⟨n, a, b, c, a', b', c', hn, rfl, rfl, p, o⟩
  refine gx_putX hn (fun off => ?_) (fun on i hi e1 e2 => ?_) (fun on no h40 => ?_) (fun on no h40 => ?_)
  · exact gx_putY hn (fun _ => ⟨rfl, J⟩) (fun on => absurd on off) (fun on => absurd on off) (fun on => absurd on off)
  · have bad : ¬ ∀ t ∈ gx_l a' b' c' n, ¬ (t.1 = v1 ∧ t.2.1 = v2) := fun no => gx_nope p.symm no _ (gx_mem hi) ⟨e1, e2⟩
    refine gx_putY hn (fun off => absurd on off) (fun _ j hj f1 f2 => ⟨rfl, ?_⟩) (fun _ no => absurd no bad) (fun _ no => absurd no bad)
    refine ⟨n, a, b, upd c i v3, a', b', upd c' j v3, hn, rfl, rfl, ?_, gx_ok_val hi o⟩
    have s := gx_same p o hi hj e1 e2 f1 f2
    have q1 := gx_setv (a := a) (b := b) (c := c) (v := v3) hi
    have q2 := gx_setv (a := a') (b := b') (c := c') (v := v3) hj
    rw [← s, f1, f2] at q2
    rw [e1, e2] at q1 q2
    exact List.Perm.cons_inv ((q1.trans (p.cons _)).trans q2.symm)
  · exact gx_putY hn (fun off => absurd on off) (fun _ j hj f1 f2 => absurd ⟨f1, f2⟩ (gx_nope p no _ (gx_mem hj))) (fun _ _ _ => ⟨rfl, J⟩) (fun _ _ h => absurd h (by omega))
  · refine gx_putY hn (fun off => absurd on off) (fun _ j hj f1 f2 => absurd ⟨f1, f2⟩ (gx_nope p no _ (gx_mem hj))) (fun _ _ h => absurd h (by omega)) (fun _ _ _ => ⟨rfl, ?_⟩)
    refine ⟨n + 1, upd a n v1, upd b n v2, upd c n v3, upd a' n v1, upd b' n v2, upd c' n v3, by omega, rfl, rfl, ?_, ?_⟩
    · rw [gx_new, gx_new]
      exact p.cons _
    · rw [gx_new]
      exact gx_ok_cons o on no
theorem i_vc_remove {k : Nat} {u : SX} {v : SY} (I : i_Rel k u v) (hk : k + 5 ≤ 2560) (v1 : Int32) (v2 : Int32) : wpX_remove (fun r u' => wpY_remove (fun r' v' => r' = r ∧ i_Rel (k + 5) u' v') v v1 v2) u v1 v2 := by
  obtain ⟨n, a, b, c, a', b', c', hn, rfl, rfl, p, o⟩ := I
  refine gx_removeX hn (fun no => ?_) (fun i m en hi e1 e2 => ?_)
  · exact gx_removeY hn (fun _ => ⟨rfl, n, a, b, c, a', b', c', hn, rfl, rfl, p, o⟩) (fun j m _ hj f1 f2 => absurd ⟨f1, f2⟩ (gx_nope p no _ (gx_mem hj)))
  · refine gx_removeY hn (fun no => absurd ⟨e1, e2⟩ (gx_nope p.symm no _ (gx_mem hi))) (fun j m' en' hj f1 f2 => ?_)
    obtain rfl : m' = m := by omega
    subst en
    have s := gx_same p o hi hj e1 e2 f1 f2
    have q1 := gx_rem (a := a) (b := b) (c := c) hi
    have q2 := gx_rem (a := a') (b := b') (c := c') hj
    rw [← s] at q2
    exact ⟨rfl, m', _, _, _, _, _, _, by omega, rfl, rfl, List.Perm.cons_inv ((q1.trans p).trans q2.symm), gx_ok_tail (gx_ok_perm q1.symm o)⟩
theorem i_vc_has {k : Nat} {u : SX} {v : SY} (I : i_Rel k u v) (hk : k + 5 ≤ 2560) (v1 : Int32) (v2 : Int32) : wpX_has (fun r => wpY_has (fun r' => r' = r ∧ i_Rel (k + 5) u v) v v1 v2) u v1 v2 := by
  obtain ⟨n, a, b, c, a', b', c', hn, rfl, rfl, p, o⟩ := I
  have J : i_Rel (k + 5) (nI n, a, b, c) (nI n, a', b', c') := ⟨n, a, b, c, a', b', c', hn, rfl, rfl, p, o⟩
  refine gx_hasX hn (fun no => ?_) (fun i hi e1 e2 => ?_)
  · exact gx_hasY hn (fun _ => ⟨rfl, J⟩) (fun j hj f1 f2 => absurd ⟨f1, f2⟩ (gx_nope p no _ (gx_mem hj)))
  · exact gx_hasY hn (fun no => absurd ⟨e1, e2⟩ (gx_nope p.symm no _ (gx_mem hi))) (fun _ _ _ _ => ⟨rfl, J⟩)
theorem i_vc_value {k : Nat} {u : SX} {v : SY} (I : i_Rel k u v) (hk : k + 5 ≤ 2560) (v1 : Int32) (v2 : Int32) : wpX_value (fun r => wpY_value (fun r' => r' = r ∧ i_Rel (k + 5) u v) v v1 v2) u v1 v2 := by
  obtain ⟨n, a, b, c, a', b', c', hn, rfl, rfl, p, o⟩ := I
  have J : i_Rel (k + 5) (nI n, a, b, c) (nI n, a', b', c') := ⟨n, a, b, c, a', b', c', hn, rfl, rfl, p, o⟩
  refine gx_valueX hn (fun no => ?_) (fun i hi e1 e2 => ?_)
  · exact gx_valueY hn (fun _ => ⟨rfl, J⟩) (fun j hj f1 f2 => absurd ⟨f1, f2⟩ (gx_nope p no _ (gx_mem hj)))
  · refine gx_valueY hn (fun no => absurd ⟨e1, e2⟩ (gx_nope p.symm no _ (gx_mem hi))) (fun j hj f1 f2 => ⟨?_, J⟩)
    have s := gx_same p o hi hj e1 e2 f1 f2
    exact (Prod.mk.inj (Prod.mk.inj s).2).2.symm
theorem i_vc_count {k : Nat} {u : SX} {v : SY} (I : i_Rel k u v) (hk : k + 5 ≤ 2560) (v1 : Int32) (v2 : Int32) (v3 : Int32) (v4 : Int32) : wpX_count (fun r => wpY_count (fun r' => r' = r ∧ i_Rel (k + 5) u v) v v1 v2 v3 v4) u v1 v2 v3 v4 := by
  obtain ⟨n, a, b, c, a', b', c', hn, rfl, rfl, p, o⟩ := I
  exact gx_countX hn (gx_countY hn ⟨(gx_cs_perm _ p 0).symm, n, a, b, c, a', b', c', hn, rfl, rfl, p, o⟩)
theorem i_vc_sum {k : Nat} {u : SX} {v : SY} (I : i_Rel k u v) (hk : k + 5 ≤ 2560) (v1 : Int32) (v2 : Int32) (v3 : Int32) (v4 : Int32) : wpX_sum (fun r => wpY_sum (fun r' => r' = r ∧ i_Rel (k + 5) u v) v v1 v2 v3 v4) u v1 v2 v3 v4 := by
  obtain ⟨n, a, b, c, a', b', c', hn, rfl, rfl, p, o⟩ := I
  exact gx_sumX hn (gx_sumY hn ⟨(gx_ss_perm _ p 0).symm, n, a, b, c, a', b', c', hn, rfl, rfl, p, o⟩)
theorem i_vc_first {k : Nat} {u : SX} {v : SY} (I : i_Rel k u v) (hk : k + 5 ≤ 2560) (v1 : Int32) (v2 : Int32) (v3 : Int32) (v4 : Int32) : wpX_first (fun r => wpY_first (fun r' => r' = r ∧ i_Rel (k + 5) u v) v v1 v2 v3 v4) u v1 v2 v3 v4 := by
  obtain ⟨n, a, b, c, a', b', c', hn, rfl, rfl, p, o⟩ := I
  refine gx_firstX hn (gx_firstY hn ⟨?_, n, a, b, c, a', b', c', hn, rfl, rfl, p, o⟩)
  rw [(gx_fXY _ (gx_ok_perm p o).2).1]
  exact (gx_fX_perm _ o.2 p (-1)).symm
theorem i_vc_nearest {k : Nat} {u : SX} {v : SY} (I : i_Rel k u v) (hk : k + 5 ≤ 2560) (v1 : Int32) (v2 : Int32) : wpX_nearest (fun r => wpY_nearest (fun r' => r' = r ∧ i_Rel (k + 5) u v) v v1 v2) u v1 v2 := by
  obtain ⟨n, a, b, c, a', b', c', hn, rfl, rfl, p, o⟩ := I
  have J : i_Rel (k + 5) (nI n, a, b, c) (nI n, a', b', c') := ⟨n, a, b, c, a', b', c', hn, rfl, rfl, p, o⟩
  refine gx_nearX hn (fun off => ?_) (fun on => ?_)
  · exact gx_nearY hn (fun _ => ⟨rfl, J⟩) (fun on => absurd on off)
  · refine gx_nearY hn (fun off => absurd on off) (fun _ => ⟨?_, J⟩)
    rw [gx_ns_perm v1 v2 p (-1, 64)]
theorem i_vc_clear {k : Nat} {u : SX} {v : SY} (I : i_Rel k u v) (hk : k + 5 ≤ 2560) (v1 : Int32) (v2 : Int32) (v3 : Int32) (v4 : Int32) : wpX_clear (fun r u' => wpY_clear (fun r' v' => r' = r ∧ i_Rel (k + 5) u' v') v v1 v2 v3 v4) u v1 v2 v3 v4 := by
  obtain ⟨n, a, b, c, a', b', c', hn, rfl, rfl, p, o⟩ := I
  refine gx_clearX hn (fun m d e f hm q => ?_)
  refine gx_clearY hn (fun m' d' e' f' hm' q' => ?_)
  have r : List.Perm (gx_l d e f m) (gx_l d' e' f' m') := (q.trans (p.filter _)).trans q'.symm
  obtain rfl : m = m' := by
    have := r.length_eq
    rw [gx_len, gx_len] at this
    exact this
  exact ⟨rfl, m, d, e, f, d', e', f', by omega, rfl, rfl, r, gx_ok_perm q.symm (gx_ok_filter _ o)⟩
end
