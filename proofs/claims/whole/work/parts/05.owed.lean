/-! the relation and what is owed -/
/-- the same number of marks, the same marks in whatever order, distinct places, all on the board -/
def i_Rel (k : Nat) (u : SX) (v : SY) : Prop := ∃ (n : Nat) (a b c a' b' c' : Nat → Int32), n ≤ 40 ∧ u = (nI n, a, b, c) ∧ v = (nI n, a', b', c') ∧ List.Perm (gx_l a b c n) (gx_l a' b' c' n) ∧ gx_Ok (gx_l a b c n)
theorem gx_nope {l m : List (Int32 × Int32 × Int32)} {x y : Int32} (p : List.Perm l m) (no : ∀ t ∈ l, ¬ (t.1 = x ∧ t.2.1 = y)) : ∀ t ∈ m, ¬ (t.1 = x ∧ t.2.1 = y) :=
  fun t ht => no t (p.mem_iff.mpr ht)
theorem gx_same {a b c a' b' c' : Nat → Int32} {n i j : Nat} {x y : Int32} (p : List.Perm (gx_l a b c n) (gx_l a' b' c' n)) (o : gx_Ok (gx_l a b c n)) (hi : i < n) (hj : j < n) (e1 : a i = x) (e2 : b i = y) (f1 : a' j = x) (f2 : b' j = y) : (a i, b i, c i) = (a' j, b' j, c' j) :=
  gx_uniq o.1 (gx_mem hi) (p.mem_iff.mpr (gx_mem hj)) (e1.trans f1.symm) (e2.trans f2.symm)
theorem i_up {k : Nat} {u : SX} {v : SY} (h : i_Rel k u v) : i_Rel (k + 5) u v := h
theorem i_vc0 : wpX_init (fun u => wpY_init (fun v => i_Rel 0 u v)) := by
  exact ⟨0, fun _ => 0, fun _ => 0, fun _ => 0, fun _ => 0, fun _ => 0, fun _ => 0, by omega, rfl, rfl, List.Perm.refl _, List.Pairwise.nil, fun t ht => absurd ht List.not_mem_nil⟩
theorem i_vc_put {k : Nat} {u : SX} {v : SY} (I : i_Rel k u v) (hk : k + 5 ≤ 2560) (v1 : Int32) (v2 : Int32) (v3 : Int32) : wpX_put (fun r u' => wpY_put (fun r' v' => r' = r ∧ i_Rel (k + 5) u' v') v v1 v2 v3) u v1 v2 v3 := by
  obtain ⟨n, a, b, c, a', b', c', hn, rfl, rfl, p, o⟩ := I
  have J : i_Rel (k + 5) (nI n, a, b, c) (nI n, a', b', c') := ⟨n, a, b, c, a', b', c', hn, rfl, rfl, p, o⟩
  refine gx_putX hn (fun off => ?_) (fun on i hi e1 e2 => ?_) (fun on no h40 => ?_) (fun on no h40 => ?_)
  · exact gx_putY hn (fun _ => ⟨rfl, J⟩) (fun on => absurd on off) (fun on => absurd on off) (fun on => absurd on off)
  · have bad : ¬ ∀ t ∈ gx_l a' b' c' n, ¬ (t.1 = v1 ∧ t.2.1 = v2) := fun no => gx_nope p.symm no _ (gx_mem hi) ⟨e1, e2⟩
    refine gx_putY hn (fun off => absurd on off) (fun _ j hj f1 f2 => ⟨rfl, ?_⟩) (fun _ no => absurd no bad) (fun _ no => absurd no bad)
    refine ⟨n, a, b, upd c i v3, a', b', upd c' j v3, hn, rfl, rfl, ?_, gx_ok_val hi o⟩
    have s := gx_same p o hi hj e1 e2 f1 f2
    have q1 := gx_setv (a := a) (b := b) (c := c) (v := v3) hi
    have q2 := gx_setv (a := a') (b := b') (c := c') (v := v3) hj
    rw [← s, f1, f2] at q2
    rw [e1, e2] at q1 q2
    exact List.Perm.cons_inv ((q1.trans (p.cons _)).trans q2.symm)
  · exact gx_putY hn (fun off => absurd on off) (fun _ j hj f1 f2 => absurd ⟨f1, f2⟩ (gx_nope p no _ (gx_mem hj))) (fun _ _ _ => ⟨rfl, J⟩) (fun _ _ h => absurd h (by omega))
  · refine gx_putY hn (fun off => absurd on off) (fun _ j hj f1 f2 => absurd ⟨f1, f2⟩ (gx_nope p no _ (gx_mem hj))) (fun _ _ h => absurd h (by omega)) (fun _ _ _ => ⟨rfl, ?_⟩)
    refine ⟨n + 1, upd a n v1, upd b n v2, upd c n v3, upd a' n v1, upd b' n v2, upd c' n v3, by omega, rfl, rfl, ?_, ?_⟩
    · rw [gx_new, gx_new]
      exact p.cons _
    · rw [gx_new]
      exact gx_ok_cons o on no
theorem i_vc_remove {k : Nat} {u : SX} {v : SY} (I : i_Rel k u v) (hk : k + 5 ≤ 2560) (v1 : Int32) (v2 : Int32) : wpX_remove (fun r u' => wpY_remove (fun r' v' => r' = r ∧ i_Rel (k + 5) u' v') v v1 v2) u v1 v2 := by
  obtain ⟨n, a, b, c, a', b', c', hn, rfl, rfl, p, o⟩ := I
  refine gx_removeX hn (fun no => ?_) (fun i m en hi e1 e2 => ?_)
  · exact gx_removeY hn (fun _ => ⟨rfl, n, a, b, c, a', b', c', hn, rfl, rfl, p, o⟩) (fun j m _ hj f1 f2 => absurd ⟨f1, f2⟩ (gx_nope p no _ (gx_mem hj)))
  · refine gx_removeY hn (fun no => absurd ⟨e1, e2⟩ (gx_nope p.symm no _ (gx_mem hi))) (fun j m' en' hj f1 f2 => ?_)
    obtain rfl : m' = m := by omega
    subst en
    have s := gx_same p o hi hj e1 e2 f1 f2
    have q1 := gx_rem (a := a) (b := b) (c := c) hi
    have q2 := gx_rem (a := a') (b := b') (c := c') hj
    rw [← s] at q2
    exact ⟨rfl, m', _, _, _, _, _, _, by omega, rfl, rfl, List.Perm.cons_inv ((q1.trans p).trans q2.symm), gx_ok_tail (gx_ok_perm q1.symm o)⟩
theorem i_vc_has {k : Nat} {u : SX} {v : SY} (I : i_Rel k u v) (hk : k + 5 ≤ 2560) (v1 : Int32) (v2 : Int32) : wpX_has (fun r => wpY_has (fun r' => r' = r ∧ i_Rel (k + 5) u v) v v1 v2) u v1 v2 := by
  obtain ⟨n, a, b, c, a', b', c', hn, rfl, rfl, p, o⟩ := I
  have J : i_Rel (k + 5) (nI n, a, b, c) (nI n, a', b', c') := ⟨n, a, b, c, a', b', c', hn, rfl, rfl, p, o⟩
  refine gx_hasX hn (fun no => ?_) (fun i hi e1 e2 => ?_)
  · exact gx_hasY hn (fun _ => ⟨rfl, J⟩) (fun j hj f1 f2 => absurd ⟨f1, f2⟩ (gx_nope p no _ (gx_mem hj)))
  · exact gx_hasY hn (fun no => absurd ⟨e1, e2⟩ (gx_nope p.symm no _ (gx_mem hi))) (fun _ _ _ _ => ⟨rfl, J⟩)
theorem i_vc_value {k : Nat} {u : SX} {v : SY} (I : i_Rel k u v) (hk : k + 5 ≤ 2560) (v1 : Int32) (v2 : Int32) : wpX_value (fun r => wpY_value (fun r' => r' = r ∧ i_Rel (k + 5) u v) v v1 v2) u v1 v2 := by
  obtain ⟨n, a, b, c, a', b', c', hn, rfl, rfl, p, o⟩ := I
  have J : i_Rel (k + 5) (nI n, a, b, c) (nI n, a', b', c') := ⟨n, a, b, c, a', b', c', hn, rfl, rfl, p, o⟩
  refine gx_valueX hn (fun no => ?_) (fun i hi e1 e2 => ?_)
  · exact gx_valueY hn (fun _ => ⟨rfl, J⟩) (fun j hj f1 f2 => absurd ⟨f1, f2⟩ (gx_nope p no _ (gx_mem hj)))
  · refine gx_valueY hn (fun no => absurd ⟨e1, e2⟩ (gx_nope p.symm no _ (gx_mem hi))) (fun j hj f1 f2 => ⟨?_, J⟩)
    have s := gx_same p o hi hj e1 e2 f1 f2
    exact (Prod.mk.inj (Prod.mk.inj s).2).2.symm
theorem i_vc_count {k : Nat} {u : SX} {v : SY} (I : i_Rel k u v) (hk : k + 5 ≤ 2560) (v1 : Int32) (v2 : Int32) (v3 : Int32) (v4 : Int32) : wpX_count (fun r => wpY_count (fun r' => r' = r ∧ i_Rel (k + 5) u v) v v1 v2 v3 v4) u v1 v2 v3 v4 := by
  obtain ⟨n, a, b, c, a', b', c', hn, rfl, rfl, p, o⟩ := I
  exact gx_countX hn (gx_countY hn ⟨(gx_cs_perm _ p 0).symm, n, a, b, c, a', b', c', hn, rfl, rfl, p, o⟩)
theorem i_vc_sum {k : Nat} {u : SX} {v : SY} (I : i_Rel k u v) (hk : k + 5 ≤ 2560) (v1 : Int32) (v2 : Int32) (v3 : Int32) (v4 : Int32) : wpX_sum (fun r => wpY_sum (fun r' => r' = r ∧ i_Rel (k + 5) u v) v v1 v2 v3 v4) u v1 v2 v3 v4 := by
  obtain ⟨n, a, b, c, a', b', c', hn, rfl, rfl, p, o⟩ := I
  exact gx_sumX hn (gx_sumY hn ⟨(gx_ss_perm _ p 0).symm, n, a, b, c, a', b', c', hn, rfl, rfl, p, o⟩)
theorem i_vc_first {k : Nat} {u : SX} {v : SY} (I : i_Rel k u v) (hk : k + 5 ≤ 2560) (v1 : Int32) (v2 : Int32) (v3 : Int32) (v4 : Int32) : wpX_first (fun r => wpY_first (fun r' => r' = r ∧ i_Rel (k + 5) u v) v v1 v2 v3 v4) u v1 v2 v3 v4 := by
  obtain ⟨n, a, b, c, a', b', c', hn, rfl, rfl, p, o⟩ := I
  refine gx_firstX hn (gx_firstY hn ⟨?_, n, a, b, c, a', b', c', hn, rfl, rfl, p, o⟩)
  rw [(gx_fXY _ (gx_ok_perm p o).2).1]
  exact (gx_fX_perm _ o.2 p (-1)).symm
theorem i_vc_nearest {k : Nat} {u : SX} {v : SY} (I : i_Rel k u v) (hk : k + 5 ≤ 2560) (v1 : Int32) (v2 : Int32) : wpX_nearest (fun r => wpY_nearest (fun r' => r' = r ∧ i_Rel (k + 5) u v) v v1 v2) u v1 v2 := by
  obtain ⟨n, a, b, c, a', b', c', hn, rfl, rfl, p, o⟩ := I
  have J : i_Rel (k + 5) (nI n, a, b, c) (nI n, a', b', c') := ⟨n, a, b, c, a', b', c', hn, rfl, rfl, p, o⟩
  refine gx_nearX hn (fun off => ?_) (fun on => ?_)
  · exact gx_nearY hn (fun _ => ⟨rfl, J⟩) (fun on => absurd on off)
  · refine gx_nearY hn (fun off => absurd on off) (fun _ => ⟨?_, J⟩)
    rw [gx_ns_perm v1 v2 p (-1, 64)]
theorem i_vc_clear {k : Nat} {u : SX} {v : SY} (I : i_Rel k u v) (hk : k + 5 ≤ 2560) (v1 : Int32) (v2 : Int32) (v3 : Int32) (v4 : Int32) : wpX_clear (fun r u' => wpY_clear (fun r' v' => r' = r ∧ i_Rel (k + 5) u' v') v v1 v2 v3 v4) u v1 v2 v3 v4 := by
  obtain ⟨n, a, b, c, a', b', c', hn, rfl, rfl, p, o⟩ := I
  refine gx_clearX hn (fun m d e f hm q => ?_)
  refine gx_clearY hn (fun m' d' e' f' hm' q' => ?_)
  have r : List.Perm (gx_l d e f m) (gx_l d' e' f' m') := (q.trans (p.filter _)).trans q'.symm
  obtain rfl : m = m' := by
    have := r.length_eq
    rw [gx_len, gx_len] at this
    exact this
  exact ⟨rfl, m, d, e, f, d', e', f', by omega, rfl, rfl, r, gx_ok_perm q.symm (gx_ok_filter _ o)⟩
