/-! the class's methods, each with a general post -/
theorem gx_boardX {post : Int32 → Prop} {x y : Int32} (h1 : gx_on x y → post 1) (h0 : ¬ gx_on x y → post 0) : wpX_isOnBoard post x y := by
  unfold wpX_isOnBoard
  unfold gx_on at h0 h1
  simp only [Int32.lt_iff_toInt_lt, Int32.le_iff_toInt_le, gx_0, gx_64]
  refine ⟨fun h => h0 (by omega), fun h => ⟨fun h' => h0 (by omega), fun h' => ⟨fun g => h0 (by omega), fun g => ⟨fun g' => h0 (by omega), fun g' => h1 (by omega)⟩⟩⟩⟩
theorem gx_slotX {post : Int32 → Prop} {a b c : Nat → Int32} {n : Nat} {x y : Int32} (hn : n ≤ 40) (hf : ∀ i, i < n → a i = x → b i = y → post (nI i)) (hno : (∀ t ∈ gx_l a b c n, ¬ (t.1 = x ∧ t.2.1 = y)) → post (-1)) : wpX_slotOf post (nI n, a, b, c) x y := by
  have aux : ∀ d j : Nat, j + d = n → (∀ i, i < j → ¬ (a i = x ∧ b i = y)) → wX_slotOf_2 post x y (nI n) a b c (d + 1) (nI j) := by
    intro d
    induction d with
    | zero =>
      intro j hj hm
      refine br_t (nI_le (by omega) (by omega)) (hno ?_)
      intro t ht
      obtain ⟨i, hi, e⟩ := gx_of_mem ht
      rw [e]
      exact hm i (by omega)
    | succ d ih =>
      intro j hj hm
      have hi : vp_in (nI j) 40 := vp_in_nI (by omega) (by omega)
      have hc : (nI j).toNatClampNeg = j := nI_clamp (by omega)
      refine br_f (nI_ge (by omega) (by omega)) ⟨hi, ?_⟩
      rw [hc]
      by_cases e1 : a j = x
      · refine br_t e1 ⟨hi, ?_⟩
        by_cases e2 : b j = y
        · exact br_t e2 (hf j (by omega) e1 e2)
        · refine br_f e2 (nm_r (nI_1 j) (ih (j + 1) (by omega) ?_))
          exact lt_s hm (fun z => e2 z.2)
      · refine br_f e1 (nm_r (nI_1 j) (ih (j + 1) (by omega) ?_))
        exact lt_s hm (fun z => e1 z.1)
  exact ⟨n + 1, aux n 0 (by omega) lt_0⟩
theorem gx_putX {post : Int32 → SX → Prop} {a b c : Nat → Int32} {n : Nat} {x y v : Int32} (hn : n ≤ 40)
    (hoff : ¬ gx_on x y → post (-1) (nI n, a, b, c))
    (hold : gx_on x y → ∀ i, i < n → a i = x → b i = y → post (nI n) (nI n, a, b, upd c i v))
    (hfull : gx_on x y → (∀ t ∈ gx_l a b c n, ¬ (t.1 = x ∧ t.2.1 = y)) → n = 40 → post (-1) (nI n, a, b, c))
    (hnew : gx_on x y → (∀ t ∈ gx_l a b c n, ¬ (t.1 = x ∧ t.2.1 = y)) → n < 40 → post (nI (n + 1)) (nI (n + 1), upd a n x, upd b n y, upd c n v)) : wpX_put post (nI n, a, b, c) x y v := by
  unfold wpX_put
  refine gx_boardX (fun on => br_f (by decide) ?_) (fun off => br_t rfl (hoff off))
  refine gx_slotX hn (fun i hi e1 e2 => ?_) (fun no => ?_)
  · refine br_f (fun z => ?_) ?_
    · have := congrArg Int32.toInt z
      rw [nI_toInt (by omega), gx_m1] at this
      omega
    · unfold wX_put_67
      rw [nI_clamp (by omega)]
      exact ⟨vp_in_nI (by omega) (by omega), nm_e (hold on i hi e1 e2)⟩
  · refine br_t rfl ?_
    by_cases h40 : n < 40
    · have hin : vp_in (nI n) 40 := vp_in_nI h40 (by omega)
      have hc : (nI n).toNatClampNeg = n := nI_clamp (by omega)
      refine br_t (nI_lt (b := 40) h40 (by decide)) ⟨hin, ?_⟩
      rw [hc]
      refine nm_e ⟨hin, nm_e (nm_r (nI_1 n) ?_)⟩
      unfold wX_put_67
      rw [hc]
      exact ⟨hin, nm_e (hnew on no h40)⟩
    · exact br_f (nI_nlt (b := 40) (by omega) (by omega)) (hfull on no (by omega))
theorem gx_moveX {post : SX → Prop} {h : Int32} {a b c : Nat → Int32} {i j : Nat} (hi : i < 40) (hj : j < 40) (p : post (h, upd a j (a i), upd b j (b i), upd c j (c i))) : wpX_moveMark post (h, a, b, c) (nI i) (nI j) := by
  have vi : vp_in (nI i) 40 := vp_in_nI hi (by omega)
  have vj : vp_in (nI j) 40 := vp_in_nI hj (by omega)
  have ci : (nI i).toNatClampNeg = i := nI_clamp (by omega)
  have cj : (nI j).toNatClampNeg = j := nI_clamp (by omega)
  unfold wpX_moveMark
  dsimp only
  rw [ci, cj]
  exact ⟨vi, vj, nm_e ⟨vi, vj, nm_e ⟨vi, vj, nm_e p⟩⟩⟩
theorem gx_ne1 {i : Nat} (h : i < 2 ^ 31) : ¬ nI i = -1 := by
  intro z
  have := congrArg Int32.toInt z
  rw [nI_toInt h, gx_m1] at this
  omega
theorem gx_removeX {post : Int32 → SX → Prop} {a b c : Nat → Int32} {n : Nat} {x y : Int32} (hn : n ≤ 40)
    (hno : (∀ t ∈ gx_l a b c n, ¬ (t.1 = x ∧ t.2.1 = y)) → post (-1) (nI n, a, b, c))
    (hf : ∀ i m, n = m + 1 → i < n → a i = x → b i = y → post (nI m) (nI m, upd a i (a m), upd b i (b m), upd c i (c m))) : wpX_remove post (nI n, a, b, c) x y := by
  unfold wpX_remove
  refine gx_slotX hn (fun i hi e1 e2 => ?_) (fun no => br_t rfl (hno no))
  obtain ⟨m, rfl⟩ : ∃ m, n = m + 1 := ⟨n - 1, by omega⟩
  refine br_f (gx_ne1 (by omega)) (nm_r (nI_pred m) ?_)
  exact gx_moveX (by omega) (by omega) (hf i m rfl hi e1 e2)
theorem gx_hasX {post : Int32 → Prop} {a b c : Nat → Int32} {n : Nat} {x y : Int32} (hn : n ≤ 40)
    (hno : (∀ t ∈ gx_l a b c n, ¬ (t.1 = x ∧ t.2.1 = y)) → post 0)
    (hf : ∀ i, i < n → a i = x → b i = y → post 1) : wpX_has post (nI n, a, b, c) x y := by
  unfold wpX_has
  refine gx_slotX hn (fun i hi e1 e2 => ?_) (fun no => br_t rfl (hno no))
  exact br_f (gx_ne1 (by omega)) (hf i hi e1 e2)
theorem gx_valueX {post : Int32 → Prop} {a b c : Nat → Int32} {n : Nat} {x y : Int32} (hn : n ≤ 40)
    (hno : (∀ t ∈ gx_l a b c n, ¬ (t.1 = x ∧ t.2.1 = y)) → post 0)
    (hf : ∀ i, i < n → a i = x → b i = y → post (c i)) : wpX_value post (nI n, a, b, c) x y := by
  unfold wpX_value
  refine gx_slotX hn (fun i hi e1 e2 => ?_) (fun no => br_t rfl (hno no))
  refine br_f (gx_ne1 (by omega)) ⟨vp_in_nI (by omega) (by omega), ?_⟩
  rw [nI_clamp (by omega)]
  exact hf i hi e1 e2
theorem gx_betwX {post : Int32 → Prop} {v p q : Int32} (h1 : gx_bt v p q = true → post 1) (h0 : gx_bt v p q = false → post 0) : wpX_isBetween post v p q := by
  unfold wpX_isBetween
  unfold gx_bt at h0 h1
  refine ⟨fun g => ?_, fun g => ?_⟩
  · rw [if_pos g] at h0 h1
    refine ⟨fun k => h0 ?_, fun k => ⟨fun k' => h0 ?_, fun k' => h1 ?_⟩⟩
    · simp [Int32.not_le.mpr k]
    · simp [Int32.not_le.mpr k']
    · simp [Int32.not_lt.mp k, Int32.not_lt.mp k']
  · rw [if_neg g] at h0 h1
    refine ⟨fun k => h0 ?_, fun k => ⟨fun k' => h0 ?_, fun k' => h1 ?_⟩⟩
    · simp [Int32.not_le.mpr k]
    · simp [Int32.not_le.mpr k']
    · simp [Int32.not_lt.mp k, Int32.not_lt.mp k']
theorem gx_rectX {post : Int32 → Prop} {h : Int32} {a b c : Nat → Int32} {j : Nat} {x1 y1 x2 y2 : Int32} (hj : j < 40) (h0 : gx_in x1 y1 x2 y2 (a j, b j, c j) = false → post 0) (h1 : gx_in x1 y1 x2 y2 (a j, b j, c j) = true → post 1) : wpX_isInRectangle post (h, a, b, c) (nI j) x1 y1 x2 y2 := by
  have vj : vp_in (nI j) 40 := vp_in_nI hj (by omega)
  have cj : (nI j).toNatClampNeg = j := nI_clamp (by omega)
  unfold gx_in at h0 h1
  unfold wpX_isInRectangle
  dsimp only at h0 h1 ⊢
  rw [cj]
  refine ⟨vj, gx_betwX (fun e => ?_) (fun e => ?_)⟩
  · rw [e] at h0 h1
    refine br_f (by decide) ⟨vj, gx_betwX (fun g => ?_) (fun g => ?_)⟩
    · exact br_f (by decide) (h1 (by rw [g]; rfl))
    · exact br_t rfl (h0 (by rw [g]; rfl))
  · rw [e] at h0
    exact br_t rfl (h0 rfl)
theorem gx_countX {post : Int32 → Prop} {a b c : Nat → Int32} {n : Nat} {x1 y1 x2 y2 : Int32} (hn : n ≤ 40) (h : post (List.foldr (gx_cs (gx_in x1 y1 x2 y2)) 0 (gx_l a b c n))) : wpX_count post (nI n, a, b, c) x1 y1 x2 y2 := by
  refine ⟨n + 1, ?_⟩
  refine gx_loop (fun k z j => wX_count_6 post x1 y1 x2 y2 (nI n) a b c k z (nI j)) (gx_cs (gx_in x1 y1 x2 y2)) 0 a b c n ?_ ?_ n 0 (by omega)
  · intro k
    exact br_t (nI_le (by omega) (by omega)) h
  · intro k j z hj ih
    unfold gx_cs at ih
    refine br_f (nI_ge hj (by omega)) (gx_rectX (by omega) (fun e => ?_) (fun e => ?_))
    · rw [e, if_neg (by decide)] at ih
      exact br_t rfl (nm_r (nI_1 j) ih)
    · rw [if_pos e] at ih
      exact br_f (by decide) (nm_e (nm_r (nI_1 j) ih))
theorem gx_sumX {post : Int32 → Prop} {a b c : Nat → Int32} {n : Nat} {x1 y1 x2 y2 : Int32} (hn : n ≤ 40) (h : post (List.foldr (gx_ss (gx_in x1 y1 x2 y2)) 0 (gx_l a b c n))) : wpX_sum post (nI n, a, b, c) x1 y1 x2 y2 := by
  refine ⟨n + 1, ?_⟩
  refine gx_loop (fun k z j => wX_sum_6 post x1 y1 x2 y2 (nI n) a b c k z (nI j)) (gx_ss (gx_in x1 y1 x2 y2)) 0 a b c n ?_ ?_ n 0 (by omega)
  · intro k
    exact br_t (nI_le (by omega) (by omega)) h
  · intro k j z hj ih
    unfold gx_ss at ih
    refine br_f (nI_ge hj (by omega)) (gx_rectX (by omega) (fun e => ?_) (fun e => ?_))
    · rw [e, if_neg (by decide)] at ih
      exact br_t rfl (nm_r (nI_1 j) ih)
    · rw [if_pos e] at ih
      refine br_f (by decide) ⟨vp_in_nI (by omega) (by omega), ?_⟩
      rw [nI_clamp (by omega)]
      exact nm_e (nm_r (nI_1 j) ih)
theorem gx_numX {post : Int32 → Prop} {h : Int32} {a b c : Nat → Int32} {j : Nat} (hj : j < 40) (p : post (gx_num (a j, b j, c j))) : wpX_placeNumber post (h, a, b, c) (nI j) := by
  have vj : vp_in (nI j) 40 := vp_in_nI hj (by omega)
  have cj : (nI j).toNatClampNeg = j := nI_clamp (by omega)
  unfold wpX_placeNumber
  dsimp only
  rw [cj]
  exact ⟨vj, vj, p⟩
theorem gx_firstX {post : Int32 → Prop} {a b c : Nat → Int32} {n : Nat} {x1 y1 x2 y2 : Int32} (hn : n ≤ 40) (h : post (List.foldr (gx_fX (gx_in x1 y1 x2 y2)) (-1) (gx_l a b c n))) : wpX_first post (nI n, a, b, c) x1 y1 x2 y2 := by
  refine ⟨n + 1, ?_⟩
  refine gx_loop (fun k z j => wX_first_6 post x1 y1 x2 y2 (nI n) a b c k z (nI j)) (gx_fX (gx_in x1 y1 x2 y2)) (-1) a b c n ?_ ?_ n 0 (by omega)
  · intro k
    exact br_t (nI_le (by omega) (by omega)) h
  · intro k j z hj ih
    unfold gx_fX at ih
    refine br_f (nI_ge hj (by omega)) (gx_rectX (by omega) (fun e => ?_) (fun e => ?_))
    · rw [e, if_neg (by decide)] at ih
      exact br_t rfl (nm_r (nI_1 j) ih)
    · rw [if_pos e] at ih
      refine br_f (by decide) (gx_numX (by omega) ?_)
      refine ⟨fun g => ?_, fun g => ⟨fun g' => ?_, fun g' => ?_⟩⟩
      · rw [if_pos g] at ih
        exact nm_r (nI_1 j) ih
      · rw [if_neg g, if_pos g'] at ih
        exact nm_r (nI_1 j) ih
      · rw [if_neg g, if_neg g'] at ih
        exact nm_r (nI_1 j) ih
theorem gx_diffX {post : Int32 → Prop} {p q : Int32} (h : post (gx_df p q)) : wpX_difference post p q := by
  unfold gx_df at h
  refine ⟨fun g => ?_, fun g => ?_⟩
  · rw [if_pos g] at h; exact h
  · rw [if_neg g] at h; exact h
theorem gx_distX {post : Int32 → Prop} {h : Int32} {a b c : Nat → Int32} {j : Nat} {x y : Int32} (hj : j < 40) (p : post (gx_ds x y (a j, b j, c j))) : wpX_distanceTo post (h, a, b, c) (nI j) x y := by
  have vj : vp_in (nI j) 40 := vp_in_nI hj (by omega)
  have cj : (nI j).toNatClampNeg = j := nI_clamp (by omega)
  unfold wpX_distanceTo
  unfold gx_ds at p
  dsimp only at p ⊢
  rw [cj]
  refine ⟨vj, gx_diffX ⟨vj, gx_diffX ⟨fun g => ?_, fun g => ?_⟩⟩⟩
  · rw [if_pos g] at p; exact p
  · rw [if_neg g] at p; exact p
theorem gx_nearX {post : Int32 → Prop} {a b c : Nat → Int32} {n : Nat} {x y : Int32} (hn : n ≤ 40) (hoff : ¬ gx_on x y → post (-1)) (h : gx_on x y → post (List.foldr (gx_ns x y) (-1, 64) (gx_l a b c n)).1) : wpX_nearest post (nI n, a, b, c) x y := by
  unfold wpX_nearest
  refine gx_boardX (fun on => br_f (by decide) ?_) (fun off => br_t rfl (hoff off))
  refine ⟨n + 1, ?_⟩
  refine gx_loop (fun k z j => wX_nearest_19 post x y (nI n) a b c k z.1 z.2 (nI j)) (gx_ns x y) (-1, 64) a b c n ?_ ?_ n 0 (by omega)
  · intro k
    exact br_t (nI_le (by omega) (by omega)) (h on)
  · intro k j z hj ih
    unfold gx_ns at ih
    refine br_f (nI_ge hj (by omega)) (gx_distX (by omega) (gx_numX (by omega) ?_))
    refine ⟨fun g => ?_, fun g => ⟨fun g' => ⟨fun g'' => ?_, fun g'' => ?_⟩, fun g' => ?_⟩⟩
    · rw [if_pos g] at ih
      exact nm_r (nI_1 j) ih
    · rw [if_neg g, if_pos g', if_pos g''] at ih
      exact nm_r (nI_1 j) ih
    · rw [if_neg g, if_pos g', if_neg g''] at ih
      exact nm_r (nI_1 j) ih
    · rw [if_neg g, if_neg g'] at ih
      exact nm_r (nI_1 j) ih
theorem gx_clearX {post : Int32 → SX → Prop} {a b c : Nat → Int32} {n : Nat} {x1 y1 x2 y2 : Int32} (hn : n ≤ 40) (h : ∀ (m : Nat) (a' b' c' : Nat → Int32), m ≤ n → List.Perm (gx_l a' b' c' m) ((gx_l a b c n).filter (fun t => !gx_in x1 y1 x2 y2 t)) → post (nI n - nI m) (nI m, a', b', c')) : wpX_clear post (nI n, a, b, c) x1 y1 x2 y2 := by
  have aux : ∀ (d j m : Nat) (a' b' c' : Nat → Int32), j + d = n → m ≤ j → gx_l a' b' c' m = (gx_l a b c j).filter (fun t => !gx_in x1 y1 x2 y2 t) → (∀ i, j ≤ i → a' i = a i ∧ b' i = b i ∧ c' i = c i) → wX_clear_12 post x1 y1 x2 y2 (nI n) (d + 1) (nI m) (nI j) (nI n) a' b' c' := by
    intro d
    induction d with
    | zero =>
      intro j m a' b' c' hj hm he hs
      have ej : j = n := hj
      subst ej
      exact br_t (nI_le (by omega) (by omega)) (h m a' b' c' hm (List.Perm.of_eq he))
    | succ d ih =>
      intro j m a' b' c' hj hm he hs
      obtain ⟨s1, s2, s3⟩ := hs j (Nat.le_refl j)
      refine br_f (nI_ge (by omega) (by omega)) (gx_rectX (by omega) (fun e => ?_) (fun e => ?_))
      · refine br_t rfl (gx_moveX (by omega) (by omega) ?_)
        refine nm_r (nI_1 m) (nm_r (nI_1 j) (ih (j + 1) (m + 1) _ _ _ (by omega) (by omega) ?_ ?_))
        · rw [gx_new, he, s1, s2, s3, gx_l, List.filter_cons_of_pos]
          rw [s1, s2, s3] at e
          rw [e]; rfl
        · intro i hi
          rw [gx_un (by omega), gx_un (by omega), gx_un (by omega)]
          exact hs i (by omega)
      · refine br_f (by decide) (nm_r (nI_1 j) (ih (j + 1) m a' b' c' (by omega) (by omega) ?_ (fun i hi => hs i (by omega))))
        rw [he, gx_l, List.filter_cons_of_neg]
        rw [s1, s2, s3] at e
        rw [e]; decide
  exact ⟨n + 1, aux n 0 0 a b c (by omega) (by omega) rfl (fun i _ => ⟨rfl, rfl, rfl⟩)⟩
