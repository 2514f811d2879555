/-! the reference's methods, each with a general post -/
theorem gx_offY {post : Int32 → Prop} {x y : Int32} (h0 : gx_on x y → post 0) (h1 : ¬ gx_on x y → post 1) : wpY_off post x y := by
  unfold wpY_off
  unfold gx_on at h0 h1
  simp only [Int32.lt_iff_toInt_lt, Int32.le_iff_toInt_le, gx_0, gx_63]
  refine ⟨fun h => h1 (by omega), fun h => ⟨fun h' => h1 (by omega), fun h' => ⟨fun g => h1 (by omega), fun g => ⟨fun g' => h0 (by omega), fun g' => h1 (by omega)⟩⟩⟩⟩
theorem gx_findY {post : Int32 → Prop} {a b c : Nat → Int32} {n : Nat} {x y : Int32} (hn : n ≤ 40) (hf : ∀ i, i < n → a i = x → b i = y → post (nI i)) (hno : (∀ t ∈ gx_l a b c n, ¬ (t.1 = x ∧ t.2.1 = y)) → post (-1)) : wpY_find post (nI n, a, b, c) x y := by
  have aux : ∀ d j : Nat, j + d = n → (∀ i, i < j → ¬ (a i = x ∧ b i = y)) → wY_find_2 post x y (nI n) a b c (d + 1) (nI j) := by
    intro d
    induction d with
    | zero =>
      intro j hj hm
      refine br_t (nI_le (by omega) (by omega)) (hno ?_)
      intro t ht
      obtain ⟨i, hi, e⟩ := gx_of_mem ht
      rw [e]
      exact hm i (by omega)
    | succ d ih =>
      intro j hj hm
      have hi : vp_in (nI j) 40 := vp_in_nI (by omega) (by omega)
      have hc : (nI j).toNatClampNeg = j := nI_clamp (by omega)
      refine br_f (nI_ge (by omega) (by omega)) ⟨hi, ?_⟩
      rw [hc]
      by_cases e1 : a j = x
      · refine br_t e1 ⟨hi, ?_⟩
        by_cases e2 : b j = y
        · exact br_t e2 (hf j (by omega) e1 e2)
        · refine br_f e2 (nm_r (nI_1 j) (ih (j + 1) (by omega) ?_))
          exact lt_s hm (fun z => e2 z.2)
      · refine br_f e1 (nm_r (nI_1 j) (ih (j + 1) (by omega) ?_))
        exact lt_s hm (fun z => e1 z.1)
  exact ⟨n + 1, aux n 0 (by omega) lt_0⟩
theorem gx_n01 : ¬ (0 : Int32) ≤ -1 := by decide
theorem gx_putY {post : Int32 → SY → Prop} {a b c : Nat → Int32} {n : Nat} {x y v : Int32} (hn : n ≤ 40)
    (hoff : ¬ gx_on x y → post (-1) (nI n, a, b, c))
    (hold : gx_on x y → ∀ i, i < n → a i = x → b i = y → post (nI n) (nI n, a, b, upd c i v))
    (hfull : gx_on x y → (∀ t ∈ gx_l a b c n, ¬ (t.1 = x ∧ t.2.1 = y)) → n = 40 → post (-1) (nI n, a, b, c))
    (hnew : gx_on x y → (∀ t ∈ gx_l a b c n, ¬ (t.1 = x ∧ t.2.1 = y)) → n < 40 → post (nI (n + 1)) (nI (n + 1), upd a n x, upd b n y, upd c n v)) : wpY_put post (nI n, a, b, c) x y v := by
  unfold wpY_put
  refine gx_offY (fun on => br_t rfl ?_) (fun off => br_f (by decide) (hoff off))
  refine gx_findY hn (fun i hi e1 e2 => ?_) (fun no => ?_)
  · refine br_t (nI_pos' (by omega)) ?_
    unfold wY_put_34
    refine br_t (nI_pos' (by omega)) ?_
    unfold wY_put_71
    rw [nI_clamp (by omega)]
    exact ⟨vp_in_nI (by omega) (by omega), nm_e (hold on i hi e1 e2)⟩
  · refine br_f gx_n01 ?_
    by_cases h40 : n < 40
    · have hin : vp_in (nI n) 40 := vp_in_nI h40 (by omega)
      have hc : (nI n).toNatClampNeg = n := nI_clamp (by omega)
      have hne : ¬ nI n = 40 := fun z => by
        have := (nI_eq (a := n) (b := 40) (by omega) (by omega)).mp z
        omega
      refine br_f hne ?_
      unfold wY_put_34
      refine br_f gx_n01 ⟨hin, ?_⟩
      rw [hc]
      refine nm_e ⟨hin, nm_e (nm_r (nI_1 n) ?_)⟩
      unfold wY_put_71
      rw [hc]
      exact ⟨hin, nm_e (hnew on no h40)⟩
    · have e : n = 40 := by omega
      refine br_t ?_ (hfull on no e)
      rw [e]; rfl
theorem gx_dropY {post : SY → Prop} {a b c : Nat → Int32} {m i : Nat} (hm : m < 40) (hi : i < 40) (p : post (nI m, upd a i (a m), upd b i (b m), upd c i (c m))) : wpY_drop post (nI (m + 1), a, b, c) (nI i) := by
  have vi : vp_in (nI i) 40 := vp_in_nI hi (by omega)
  have vm : vp_in (nI m) 40 := vp_in_nI hm (by omega)
  have ci : (nI i).toNatClampNeg = i := nI_clamp (by omega)
  have cm : (nI m).toNatClampNeg = m := nI_clamp (by omega)
  unfold wpY_drop
  dsimp only
  refine nm_r (nI_pred m) ?_
  rw [ci, cm]
  exact ⟨vm, vi, nm_e ⟨vm, vi, nm_e ⟨vm, vi, nm_e p⟩⟩⟩
theorem gx_removeY {post : Int32 → SY → Prop} {a b c : Nat → Int32} {n : Nat} {x y : Int32} (hn : n ≤ 40)
    (hno : (∀ t ∈ gx_l a b c n, ¬ (t.1 = x ∧ t.2.1 = y)) → post (-1) (nI n, a, b, c))
    (hf : ∀ i m, n = m + 1 → i < n → a i = x → b i = y → post (nI m) (nI m, upd a i (a m), upd b i (b m), upd c i (c m))) : wpY_remove post (nI n, a, b, c) x y := by
  unfold wpY_remove
  refine gx_findY hn (fun i hi e1 e2 => ?_) (fun no => br_f gx_n01 (hno no))
  obtain ⟨m, rfl⟩ : ∃ m, n = m + 1 := ⟨n - 1, by omega⟩
  refine br_t (nI_pos' (by omega)) ?_
  exact gx_dropY (by omega) (by omega) (hf i m rfl hi e1 e2)
theorem gx_hasY {post : Int32 → Prop} {a b c : Nat → Int32} {n : Nat} {x y : Int32} (hn : n ≤ 40)
    (hno : (∀ t ∈ gx_l a b c n, ¬ (t.1 = x ∧ t.2.1 = y)) → post 0)
    (hf : ∀ i, i < n → a i = x → b i = y → post 1) : wpY_has post (nI n, a, b, c) x y := by
  unfold wpY_has
  refine gx_findY hn (fun i hi e1 e2 => ?_) (fun no => br_t (by decide) (hno no))
  exact br_f (nI_pos (by omega)) (hf i hi e1 e2)
theorem gx_valueY {post : Int32 → Prop} {a b c : Nat → Int32} {n : Nat} {x y : Int32} (hn : n ≤ 40)
    (hno : (∀ t ∈ gx_l a b c n, ¬ (t.1 = x ∧ t.2.1 = y)) → post 0)
    (hf : ∀ i, i < n → a i = x → b i = y → post (c i)) : wpY_value post (nI n, a, b, c) x y := by
  unfold wpY_value
  refine gx_findY hn (fun i hi e1 e2 => ?_) (fun no => br_f gx_n01 (hno no))
  refine br_t (nI_pos' (by omega)) ⟨vp_in_nI (by omega) (by omega), ?_⟩
  rw [nI_clamp (by omega)]
  exact hf i hi e1 e2
/-- where the ends are equal, either order says the same -/
theorem gx_btY (v p q : Int32) : gx_bt v p q = if q ≤ p then (decide (q ≤ v) && decide (v ≤ p)) else (decide (p ≤ v) && decide (v ≤ q)) := by
  unfold gx_bt
  by_cases g : q < p
  · rw [if_pos g, if_pos (Int32.le_of_lt g)]
  · rw [if_neg g]
    by_cases k : q ≤ p
    · have e : q = p := Int32.le_antisymm k (Int32.not_lt.mp g)
      rw [if_pos k, e]
    · rw [if_neg k]
theorem gx_betwY {post : Int32 → Prop} {v p q : Int32} (h1 : gx_bt v p q = true → post 1) (h0 : gx_bt v p q = false → post 0) : wpY_between post v p q := by
  unfold wpY_between
  rw [gx_btY] at h0 h1
  refine ⟨fun g => ?_, fun g => ?_⟩
  · rw [if_pos g] at h0 h1
    refine ⟨fun k => h0 ?_, fun k => ⟨fun k' => h0 ?_, fun k' => h1 ?_⟩⟩
    · simp [Int32.not_le.mpr k]
    · simp [Int32.not_le.mpr k']
    · simp [Int32.not_lt.mp k, Int32.not_lt.mp k']
  · rw [if_neg g] at h0 h1
    refine ⟨fun k => h0 ?_, fun k => ⟨fun k' => h0 ?_, fun k' => h1 ?_⟩⟩
    · simp [Int32.not_le.mpr k]
    · simp [Int32.not_le.mpr k']
    · simp [Int32.not_lt.mp k, Int32.not_lt.mp k']
theorem gx_rectY {post : Int32 → Prop} {h : Int32} {a b c : Nat → Int32} {j : Nat} {x1 y1 x2 y2 : Int32} (hj : j < 40) (h0 : gx_in x1 y1 x2 y2 (a j, b j, c j) = false → post 0) (h1 : gx_in x1 y1 x2 y2 (a j, b j, c j) = true → post 1) : wpY_inside post (h, a, b, c) (nI j) x1 y1 x2 y2 := by
  have vj : vp_in (nI j) 40 := vp_in_nI hj (by omega)
  have cj : (nI j).toNatClampNeg = j := nI_clamp (by omega)
  unfold gx_in at h0 h1
  unfold wpY_inside
  dsimp only at h0 h1 ⊢
  rw [cj]
  refine ⟨vj, gx_betwY (fun e => ?_) (fun e => ?_)⟩
  · rw [e] at h0 h1
    refine br_f (by decide) ⟨vj, gx_betwY (fun g => ?_) (fun g => ?_)⟩
    · exact br_f (by decide) (h1 (by rw [g]; rfl))
    · exact br_t rfl (h0 (by rw [g]; rfl))
  · rw [e] at h0
    exact br_t rfl (h0 rfl)
theorem gx_countY {post : Int32 → Prop} {a b c : Nat → Int32} {n : Nat} {x1 y1 x2 y2 : Int32} (hn : n ≤ 40) (h : post (List.foldr (gx_cs (gx_in x1 y1 x2 y2)) 0 (gx_l a b c n))) : wpY_count post (nI n, a, b, c) x1 y1 x2 y2 := by
  refine ⟨n + 1, ?_⟩
  refine gx_loop (fun k z j => wY_count_6 post x1 y1 x2 y2 (nI n) a b c k z (nI j)) (gx_cs (gx_in x1 y1 x2 y2)) 0 a b c n ?_ ?_ n 0 (by omega)
  · intro k
    exact br_t (nI_le (by omega) (by omega)) h
  · intro k j z hj ih
    unfold gx_cs at ih
    refine br_f (nI_ge hj (by omega)) (gx_rectY (by omega) (fun e => ?_) (fun e => ?_))
    · rw [e, if_neg (by decide)] at ih
      exact br_t rfl (nm_r (nI_1 j) ih)
    · rw [if_pos e] at ih
      exact br_f (by decide) (nm_e (nm_r (nI_1 j) ih))
theorem gx_sumY {post : Int32 → Prop} {a b c : Nat → Int32} {n : Nat} {x1 y1 x2 y2 : Int32} (hn : n ≤ 40) (h : post (List.foldr (gx_ss (gx_in x1 y1 x2 y2)) 0 (gx_l a b c n))) : wpY_sum post (nI n, a, b, c) x1 y1 x2 y2 := by
  refine ⟨n + 1, ?_⟩
  refine gx_loop (fun k z j => wY_sum_6 post x1 y1 x2 y2 (nI n) a b c k z (nI j)) (gx_ss (gx_in x1 y1 x2 y2)) 0 a b c n ?_ ?_ n 0 (by omega)
  · intro k
    exact br_t (nI_le (by omega) (by omega)) h
  · intro k j z hj ih
    unfold gx_ss at ih
    refine br_f (nI_ge hj (by omega)) (gx_rectY (by omega) (fun e => ?_) (fun e => ?_))
    · rw [e, if_neg (by decide)] at ih
      exact br_t rfl (nm_r (nI_1 j) ih)
    · rw [if_pos e] at ih
      refine br_f (by decide) ⟨vp_in_nI (by omega) (by omega), ?_⟩
      rw [nI_clamp (by omega)]
      exact nm_e (nm_r (nI_1 j) ih)
theorem gx_numY {post : Int32 → Prop} {h : Int32} {a b c : Nat → Int32} {j : Nat} (hj : j < 40) (p : post (gx_num (a j, b j, c j))) : wpY_number post (h, a, b, c) (nI j) := by
  have vj : vp_in (nI j) 40 := vp_in_nI hj (by omega)
  have cj : (nI j).toNatClampNeg = j := nI_clamp (by omega)
  unfold wpY_number
  dsimp only
  rw [cj]
  exact ⟨vj, vj, p⟩
theorem gx_firstY {post : Int32 → Prop} {a b c : Nat → Int32} {n : Nat} {x1 y1 x2 y2 : Int32} (hn : n ≤ 40) (h : post (List.foldr (gx_fY (gx_in x1 y1 x2 y2)) (-1) (gx_l a b c n))) : wpY_first post (nI n, a, b, c) x1 y1 x2 y2 := by
  refine ⟨n + 1, ?_⟩
  refine gx_loop (fun k z j => wY_first_6 post x1 y1 x2 y2 (nI n) a b c k z (nI j)) (gx_fY (gx_in x1 y1 x2 y2)) (-1) a b c n ?_ ?_ n 0 (by omega)
  · intro k
    exact br_t (nI_le (by omega) (by omega)) h
  · intro k j z hj ih
    unfold gx_fY at ih
    refine br_f (nI_ge hj (by omega)) (gx_rectY (by omega) (fun e => ?_) (fun e => ?_))
    · rw [e, if_neg (by decide)] at ih
      exact br_t rfl (nm_r (nI_1 j) ih)
    · rw [if_pos e] at ih
      refine br_f (by decide) ⟨fun g => ?_, fun g => gx_numY (by omega) ⟨fun g' => ?_, fun g' => ?_⟩⟩
      · rw [if_pos g] at ih
        unfold wY_first_45
        exact gx_numY (by omega) (nm_r (nI_1 j) ih)
      · rw [if_neg g, if_pos g'] at ih
        exact nm_r (nI_1 j) ih
      · rw [if_neg g, if_neg g'] at ih
        unfold wY_first_45
        exact gx_numY (by omega) (nm_r (nI_1 j) ih)
theorem gx_dfY (p q : Int32) : gx_df p q = if q ≤ p then p - q else q - p := by
  unfold gx_df
  by_cases g : p ≤ q
  · rw [if_pos g]
    by_cases k : q ≤ p
    · have e : p = q := Int32.le_antisymm g k
      rw [if_pos k, e]
    · rw [if_neg k]
  · rw [if_neg g, if_pos (Int32.le_of_lt (Int32.not_le.mp g))]
theorem gx_distY {post : Int32 → Prop} {h : Int32} {a b c : Nat → Int32} {j : Nat} {x y : Int32} (hj : j < 40) (p : post (gx_ds x y (a j, b j, c j))) : wpY_distance post (h, a, b, c) (nI j) x y := by
  have vj : vp_in (nI j) 40 := vp_in_nI hj (by omega)
  have cj : (nI j).toNatClampNeg = j := nI_clamp (by omega)
  have last : ∀ d e : Int32, d = gx_df (a j) x → e = gx_df (b j) y → wY_distance_60 post d e h a b c := by
    intro d e hd he
    unfold gx_ds at p
    dsimp only at p
    rw [← hd, ← he] at p
    refine ⟨fun g => ?_, fun g => ?_⟩
    · rw [if_pos g] at p; exact p
    · rw [if_neg g] at p; exact p
  have mid : ∀ d : Int32, d = gx_df (a j) x → wY_distance_29 post (nI j) y d h a b c := by
    intro d hd
    unfold wY_distance_29
    rw [cj]
    refine ⟨vj, fun g => ⟨vj, last _ _ hd ?_⟩, fun g => ⟨vj, last _ _ hd ?_⟩⟩
    · rw [gx_dfY, if_pos g]
    · rw [gx_dfY, if_neg g]
  unfold wpY_distance
  dsimp only
  rw [cj]
  refine ⟨vj, fun g => ⟨vj, mid _ ?_⟩, fun g => ⟨vj, mid _ ?_⟩⟩
  · rw [gx_dfY, if_pos g]
  · rw [gx_dfY, if_neg g]
theorem gx_nearY {post : Int32 → Prop} {a b c : Nat → Int32} {n : Nat} {x y : Int32} (hn : n ≤ 40) (hoff : ¬ gx_on x y → post (-1)) (h : gx_on x y → post (List.foldr (gx_ns x y) (-1, 64) (gx_l a b c n)).1) : wpY_nearest post (nI n, a, b, c) x y := by
  unfold wpY_nearest
  refine gx_offY (fun on => br_t rfl ?_) (fun off => br_f (by decide) (hoff off))
  refine ⟨n + 1, ?_⟩
  refine gx_loop (fun k z j => wY_nearest_19 post x y (nI n) a b c k z.1 z.2 (nI j)) (gx_ns x y) (-1, 64) a b c n ?_ ?_ n 0 (by omega)
  · intro k
    exact br_t (nI_le (by omega) (by omega)) (h on)
  · intro k j z hj ih
    unfold gx_ns at ih
    refine br_f (nI_ge hj (by omega)) (gx_distY (by omega) ?_)
    refine ⟨fun g => ?_, fun g => ⟨fun g' => gx_numY (by omega) ⟨fun g'' => ?_, fun g'' => ?_⟩, fun g' => ?_⟩⟩
    · rw [if_pos g] at ih
      unfold wY_nearest_62
      exact gx_numY (by omega) (nm_r (nI_1 j) ih)
    · rw [if_neg g, if_pos g', if_pos g''] at ih
      exact nm_r (nI_1 j) ih
    · rw [if_neg g, if_pos g', if_neg g''] at ih
      unfold wY_nearest_62
      exact gx_numY (by omega) (nm_r (nI_1 j) ih)
    · rw [if_neg g, if_neg g'] at ih
      exact nm_r (nI_1 j) ih
theorem gx_clearY {post : Int32 → SY → Prop} {a b c : Nat → Int32} {n : Nat} {x1 y1 x2 y2 : Int32} (hn : n ≤ 40) (h : ∀ (m : Nat) (a' b' c' : Nat → Int32), m ≤ n → List.Perm (gx_l a' b' c' m) ((gx_l a b c n).filter (fun t => !gx_in x1 y1 x2 y2 t)) → post (nI n - nI m) (nI m, a', b', c')) : wpY_clear post (nI n, a, b, c) x1 y1 x2 y2 := by
  have aux : ∀ (j m : Nat) (a' b' c' : Nat → Int32), j ≤ m → m ≤ n → (∀ i, j ≤ i → i < m → gx_in x1 y1 x2 y2 (a' i, b' i, c' i) = false) → List.Perm ((gx_l a' b' c' m).filter (fun t => !gx_in x1 y1 x2 y2 t)) ((gx_l a b c n).filter (fun t => !gx_in x1 y1 x2 y2 t)) → wY_clear_14 post x1 y1 x2 y2 (nI n) (j + 1) (nI j - 1) (nI m) a' b' c' := by
    intro j
    induction j with
    | zero =>
      intro m a' b' c' hj hm ho hp
      refine br_t (by decide) (h m a' b' c' hm ?_)
      rw [List.filter_eq_self.mpr] at hp
      · exact hp
      · intro t ht
        obtain ⟨i, hi, e⟩ := gx_of_mem ht
        rw [e, ho i (Nat.zero_le i) hi]; rfl
    | succ j ih =>
      intro m a' b' c' hj hm ho hp
      rw [nI_pred]
      have en : nI j + (-1) = nI j - 1 := (Int32.sub_eq_add_neg (nI j) 1).symm
      refine br_f (nI_pos (by omega)) (gx_rectY (by omega) (fun e => ?_) (fun e => ?_))
      · refine br_t rfl (nm_r en (ih m a' b' c' (by omega) hm (fun i hi hi' => ?_) hp))
        by_cases ei : i = j
        · rw [ei]; exact e
        · exact ho i (by omega) hi'
      · obtain ⟨p, rfl⟩ : ∃ p, m = p + 1 := ⟨m - 1, by omega⟩
        refine br_f (by decide) (gx_dropY (by omega) (by omega) ?_)
        refine nm_r en (ih p _ _ _ (by omega) (by omega) (fun i hi hi' => ?_) ?_)
        · by_cases ei : i = j
          · rw [ei, gx_us, gx_us, gx_us]
            exact ho p (by omega) (by omega)
          · rw [gx_un ei, gx_un ei, gx_un ei]
            exact ho i (by omega) (by omega)
        · have q := (gx_rem (a := a') (b := b') (c := c') (i := j) (n := p) (by omega)).filter (fun t => !gx_in x1 y1 x2 y2 t)
          rw [List.filter_cons_of_neg (by rw [e]; decide)] at q
          exact q.trans hp
  unfold wpY_clear
  refine nm_e ⟨n + 1, ?_⟩
  exact aux n n a b c (Nat.le_refl n) (Nat.le_refl n) (fun i hi hi' => absurd hi (by omega)) (List.Perm.refl _)
