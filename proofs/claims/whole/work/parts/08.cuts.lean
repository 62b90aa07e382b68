/-! the run of cuts over the ring, as arrays hold it -/
def mt_p (xs ys : Nat → Int32) (k : Nat) : gm_P := ((xs k).toInt, (ys k).toInt)
def mt_ab (z : Int) : Int := if z < 0 then -z else z
def mt_T (P : Nat → gm_P) (fc mc lc : Nat → Int32) (n : Nat) : Int := gm_sum (fun t => mt_ab (gm_O (P (fc t).toNatClampNeg) (P (mc t).toNatClampNeg) (P (lc t).toNatClampNeg))) 0 n
def mt_V (cnt : Nat) (fc mc lc : Nat → Int32) (n : Nat) : Prop := ∀ t, t < n → ∃ a b c, a < cnt ∧ b < cnt ∧ c < cnt ∧ fc t = nI a ∧ mc t = nI b ∧ lc t = nI c
def mt_CI (P : Nat → gm_P) (cnt : Nat) (A : Int) (rg : Nat → Int32) (R : Nat → Nat) (left : Nat) (fc mc lc : Nat → Int32) (n : Nat) : Prop :=
  (∀ k, k < left → rg k = nI (R k) ∧ R k < cnt) ∧ (3 ≤ left → gm_Good (fun k => P (R k)) left) ∧ mt_T P fc mc lc n + gm_cy gm_ar (fun k => P (R k)) 0 (left - 1) = A ∧ n + left = cnt ∧ mt_V cnt fc mc lc n
theorem mt_us {f : Nat → Int32} {k : Nat} {x : Int32} : upd f k x k = x := if_pos rfl
theorem mt_un {f : Nat → Int32} {k j : Nat} {x : Int32} (h : j ≠ k) : upd f k x j = f j := if_neg h
theorem mt_skR (P : Nat → gm_P) (R : Nat → Nat) (t : Nat) : (fun k => P (if k < t then R k else R (k + 1))) = gm_sk (fun k => P (R k)) t := by
  funext k
  unfold gm_sk
  split <;> rfl
theorem mt_cut {P : Nat → gm_P} {cnt : Nat} {A : Int} {rg rg' : Nat → Int32} {R : Nat → Nat} {left : Nat} {fc mc lc : Nat → Int32} {n t : Nat} (hc : cnt ≤ 32) (h : mt_CI P cnt A rg R left fc mc lc n) (h3 : 3 ≤ left) (ht : t < left - 1) (he : gm_er (fun k => P (R k)) (left - 1) t) (hr : ∀ k, k < left - 1 → rg' k = if k < t then rg k else rg (k + 1)) : mt_CI P cnt A rg' (fun k => if k < t then R k else R (k + 1)) (left - 1) (upd fc n (nI (R (gm_pv 0 (left - 1) t)))) (upd mc n (nI (R t))) (upd lc n (nI (R (gm_nx 0 (left - 1) t)))) (n + 1) := by
  obtain ⟨c1, c2, c3, c4, c5⟩ := h
  have pi := gm_pv_in (i := 0) (j := left - 1) (k := t) (by omega) (by omega)
  have ni := gm_nx_in (i := 0) (j := left - 1) (k := t) (by omega) (by omega) (by omega)
  have p1 := (c1 (gm_pv 0 (left - 1) t) (by omega)).2
  have p2 := (c1 t (by omega)).2
  have p3 := (c1 (gm_nx 0 (left - 1) t) (by omega)).2
  refine ⟨?_, ?_, ?_, by omega, ?_⟩
  · intro k hk
    rw [hr k hk]
    show _ = nI (if k < t then R k else R (k + 1)) ∧ (if k < t then R k else R (k + 1)) < cnt
    by_cases e : k < t
    · rw [if_pos e, if_pos e]; exact c1 k (by omega)
    · rw [if_neg e, if_neg e]; exact c1 (k + 1) (by omega)
  · intro h4
    have g := gm_good_cut (c2 h3) (by omega) ht he
    rw [← mt_skR] at g
    exact g
  · have ca := gm_cut_area (f := fun k => P (R k)) (j := left - 1) ht (by omega)
    rw [← mt_skR] at ca
    have s := gm_sum_c (F := fun t' => mt_ab (gm_O (P (upd fc n (nI (R (gm_pv 0 (left - 1) t))) t').toNatClampNeg) (P (upd mc n (nI (R t)) t').toNatClampNeg) (P (upd lc n (nI (R (gm_nx 0 (left - 1) t))) t').toNatClampNeg))) (G := fun t' => mt_ab (gm_O (P (fc t').toNatClampNeg) (P (mc t').toNatClampNeg) (P (lc t').toNatClampNeg))) (i := 0) (n := n) (fun k h1 h2 => by
      try dsimp only
      rw [mt_un (show k ≠ n by omega), mt_un (show k ≠ n by omega), mt_un (show k ≠ n by omega)])
    unfold mt_T at c3 ⊢
    simp only [gm_sum, Nat.zero_add]
    rw [s, mt_us, mt_us, mt_us, nI_clamp (by omega), nI_clamp (by omega), nI_clamp (by omega)]
    have pos : 0 < gm_O (P (R (gm_pv 0 (left - 1) t))) (P (R t)) (P (R (gm_nx 0 (left - 1) t))) := he.1
    have ab : mt_ab (gm_O (P (R (gm_pv 0 (left - 1) t))) (P (R t)) (P (R (gm_nx 0 (left - 1) t)))) = gm_O (P (R (gm_pv 0 (left - 1) t))) (P (R t)) (P (R (gm_nx 0 (left - 1) t))) := by
      unfold mt_ab
      rw [if_neg (by omega)]
    rw [ab]
    have ca' : gm_cy gm_ar (fun k => P (R k)) 0 (left - 1) = gm_cy gm_ar (fun k => P (if k < t then R k else R (k + 1))) 0 (left - 1 - 1) + gm_O (P (R (gm_pv 0 (left - 1) t))) (P (R t)) (P (R (gm_nx 0 (left - 1) t))) := ca
    omega
  · intro k hk
    by_cases e : k = n
    · refine ⟨_, _, _, p1, p2, p3, ?_, ?_, ?_⟩
      · rw [e]; exact mt_us
      · rw [e]; exact mt_us
      · rw [e]; exact mt_us
    · obtain ⟨a, b, c, q1, q2, q3, q4, q5, q6⟩ := c5 k (by omega)
      exact ⟨a, b, c, q1, q2, q3, (mt_un e).trans q4, (mt_un e).trans q5, (mt_un e).trans q6⟩
theorem mt_end {P : Nat → gm_P} {cnt : Nat} {A : Int} {rg : Nat → Int32} {R : Nat → Nat} {fc mc lc : Nat → Int32} {n : Nat} (h : mt_CI P cnt A rg R 2 fc mc lc n) : mt_T P fc mc lc n = A ∧ n + 2 = cnt ∧ mt_V cnt fc mc lc n := by
  obtain ⟨_, _, c3, c4, c5⟩ := h
  refine ⟨?_, c4, c5⟩
  rw [show 2 - 1 = 1 from rfl, gm_cy_path] at c3
  have e : gm_sum (fun k => gm_ar (P (R k)) (P (R (k + 1)))) 0 1 = 0 + gm_ar (P (R 0)) (P (R 1)) := rfl
  have a : gm_ar (P (R 1)) (P (R 0)) = - gm_ar (P (R 0)) (P (R 1)) := by unfold gm_ar; grind
  rw [e] at c3
  omega
theorem mt_start1 {P : Nat → gm_P} {cnt : Nat} {rg fc mc lc : Nat → Int32} (h3 : 3 ≤ cnt) (hs : gm_simp P 0 (cnt - 1)) (ha : 0 < gm_cy gm_ar P 0 (cnt - 1)) (hr : ∀ k, k < cnt → rg k = nI k) : mt_CI P cnt (mt_ab (gm_cy gm_ar P 0 (cnt - 1))) rg (fun k => k) cnt fc mc lc 0 := by
  have w := gm_good0 (show 2 ≤ cnt - 1 by omega) hs (by omega)
  refine ⟨fun k hk => ⟨hr k hk, hk⟩, fun _ => ⟨h3, hs, w⟩, ?_, by omega, fun t ht => by omega⟩
  show mt_T P fc mc lc 0 + gm_cy gm_ar P 0 (cnt - 1) = _
  unfold mt_T mt_ab
  rw [if_neg (by omega)]
  simp only [gm_sum]
  omega
theorem mt_start2 {P : Nat → gm_P} {cnt : Nat} {rg fc mc lc : Nat → Int32} (h3 : 3 ≤ cnt) (hs : gm_simp P 0 (cnt - 1)) (ha : gm_cy gm_ar P 0 (cnt - 1) ≤ 0) (hr : ∀ k, k < cnt → rg k = nI (cnt - 1 - k)) : mt_CI P cnt (mt_ab (gm_cy gm_ar P 0 (cnt - 1))) rg (fun k => cnt - 1 - k) cnt fc mc lc 0 := by
  have rs := gm_rev_simp hs
  have ra := gm_rev_area P (cnt - 1)
  have e : gm_rev P (cnt - 1) = fun k => P (cnt - 1 - k) := rfl
  rw [e] at rs ra
  have w := gm_good0 (show 2 ≤ cnt - 1 by omega) rs (by omega)
  have kl : ∀ k, k < cnt → cnt - 1 - k < cnt := fun k hk => by omega
  refine ⟨fun k hk => ⟨hr k hk, kl k hk⟩, fun _ => ⟨h3, rs, w⟩, ?_, by omega, fun t ht => by omega⟩
  show mt_T P fc mc lc 0 + gm_cy gm_ar (fun k => P (cnt - 1 - k)) 0 (cnt - 1) = _
  rw [ra]
  unfold mt_T mt_ab
  simp only [gm_sum]
  split <;> omega
/-- there is an ear ahead of the last place -/
theorem mt_ear {P : Nat → gm_P} {cnt : Nat} {A : Int} {rg : Nat → Int32} {R : Nat → Nat} {left : Nat} {fc mc lc : Nat → Int32} {n : Nat} (h : mt_CI P cnt A rg R left fc mc lc n) (h3 : 3 ≤ left) : ∃ t, t < left - 1 ∧ gm_er (fun k => P (R k)) (left - 1) t := gm_good_ear (h.2.1 h3)
theorem mt_inj {P : Nat → gm_P} {cnt : Nat} {A : Int} {rg : Nat → Int32} {R : Nat → Nat} {left : Nat} {fc mc lc : Nat → Int32} {n : Nat} (h : mt_CI P cnt A rg R left fc mc lc n) (h3 : 3 ≤ left) {a b : Nat} (ha : a < left) (hb : b < left) (e : R a = R b) : a = b :=
  (h.2.1 h3).2.1.1 a b (by omega) (by omega) (by omega) (by omega) (by show P (R a) = P (R b); rw [e])
