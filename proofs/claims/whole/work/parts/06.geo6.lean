/-! cutting an ear off; the area; the run of cuts -/
def gm_sk (f : Nat → gm_P) (t : Nat) : Nat → gm_P := fun k => if k < t then f k else f (k + 1)
def gm_ix (t k : Nat) : Nat := if k < t then k else k + 1
theorem gm_sk_ix (f : Nat → gm_P) (t k : Nat) : gm_sk f t k = f (gm_ix t k) := by unfold gm_sk gm_ix; split <;> rfl
def gm_er (f : Nat → gm_P) (j t : Nat) : Prop := 0 < gm_O (f (gm_pv 0 j t)) (f t) (f (gm_nx 0 j t)) ∧ ∀ x, x ≤ j → x ≠ gm_pv 0 j t → x ≠ t → x ≠ gm_nx 0 j t → ¬ gm_in (f (gm_pv 0 j t)) (f t) (f (gm_nx 0 j t)) (f x)
theorem gm_ix_adj {j t a b : Nat} (h : t < j) (h2 : 3 ≤ j) (ad : gm_adj 0 (j - 1) a b) : gm_adj 0 j (gm_ix t a) (gm_ix t b) ∨ (gm_ix t a = gm_pv 0 j t ∧ gm_ix t b = gm_nx 0 j t) ∨ (gm_ix t a = gm_nx 0 j t ∧ gm_ix t b = gm_pv 0 j t) := by
  have pv : (t = 0 ∧ gm_pv 0 j t = j) ∨ (t ≠ 0 ∧ gm_pv 0 j t = t - 1) := by unfold gm_pv; split <;> omega
  have nx : gm_nx 0 j t = t + 1 := by unfold gm_nx; rw [if_neg (by omega)]
  have ia : (a < t ∧ gm_ix t a = a) ∨ (t ≤ a ∧ gm_ix t a = a + 1) := by unfold gm_ix; split <;> omega
  have ib : (b < t ∧ gm_ix t b = b) ∨ (t ≤ b ∧ gm_ix t b = b + 1) := by unfold gm_ix; split <;> omega
  unfold gm_adj at *
  omega
theorem gm_ix_ne (t k : Nat) : gm_ix t k ≠ t := by unfold gm_ix; split <;> omega
theorem gm_ix_le {j t k : Nat} (h : k ≤ j - 1) (hj : 1 ≤ j) (ht : t < j) : gm_ix t k ≤ j := by unfold gm_ix; split <;> omega
theorem gm_ix_in {t a b : Nat} (h : gm_ix t a = gm_ix t b) : a = b := by
  unfold gm_ix at h
  split at h <;> split at h <;> omega
theorem gm_cut_simp {f : Nat → gm_P} {j t : Nat} (h3 : 3 ≤ j) (ht : t < j) (hs : gm_simp f 0 j) (he : gm_er f j t) : gm_simp (gm_sk f t) 0 (j - 1) := by
  have pi := gm_pv_in (i := 0) (j := j) (k := t) (by omega) (by omega)
  have ni := gm_nx_in (i := 0) (j := j) (k := t) (by omega) (by omega) (by omega)
  have npv := gm_nxpv (i := 0) (j := j) (k := t) (by omega) (by omega)
  have ad1 := gm_adj_nx (i := 0) (j := j) (k := gm_pv 0 j t) (by omega) pi.1 pi.2
  rw [npv] at ad1
  have ad2 := gm_adj_nx (i := 0) (j := j) (k := t) (by omega) (by omega) (by omega)
  have ne1 : gm_pv 0 j t ≠ t := by unfold gm_pv; split <;> omega
  have ne2 : gm_nx 0 j t ≠ t := by unfold gm_nx; split <;> omega
  have nvx : ∀ x, x ≤ j → x ≠ gm_pv 0 j t → x ≠ t → x ≠ gm_nx 0 j t → ¬ gm_on (f (gm_pv 0 j t)) (f (gm_nx 0 j t)) (f x) := by
    intro x x1 n1 n2 n3 on
    exact he.2 x x1 n1 n2 n3 (gm_on_in he.1 on (gm_ne hs (by omega) x1 pi.1 pi.2 n1))
  have nxx : ∀ p q, gm_adj 0 j p q → p ≠ t → q ≠ t → ¬ gm_px (f (gm_pv 0 j t)) (f (gm_nx 0 j t)) (f p) (f q) := by
    intro p q ad np nq px
    have a := ad.1
    have px1 := px.1
    have no : ∀ y, (y = p ∨ y = q) → y ≤ j → y ≠ t → ¬ gm_in (f (gm_pv 0 j t)) (f t) (f (gm_nx 0 j t)) (f y) := by
      intro y hy y1 y2
      refine he.2 y y1 ?_ y2 ?_
      · intro e
        have z := gm_O2 (f (gm_pv 0 j t)) (f (gm_nx 0 j t))
        unfold gm_opp at px1
        rcases hy with hy | hy
        · rw [← hy, e] at px1; omega
        · rw [← hy, e] at px1; omega
      · intro e
        have z := gm_O3 (f (gm_pv 0 j t)) (f (gm_nx 0 j t))
        unfold gm_opp at px1
        rcases hy with hy | hy
        · rw [← hy, e] at px1; omega
        · rw [← hy, e] at px1; omega
    rcases gm_CK2 he.1 px (no p (Or.inl rfl) a.2.1 np) (no q (Or.inr rfl) a.2.2.2 nq) with h | h | h
    · exact hs.2.2 _ _ _ _ ad1 ad h
    · exact hs.2.2 _ _ _ _ ad2 ad h
    · exact hs.2.1 _ _ _ ad (by omega) (by omega) (fun z => np z.symm) (fun z => nq z.symm) h
  have self : ∀ a b : gm_P, ¬ gm_px a b a b := by
    intro a b h
    have := h.1
    rw [gm_O2] at this
    unfold gm_opp at this
    omega
  have self2 : ∀ a b : gm_P, ¬ gm_px a b b a := fun a b h => self a b (gm_px_s2 h)
  refine ⟨?_, ?_, ?_⟩
  · intro a b _ g2 _ g4 e
    rw [gm_sk_ix, gm_sk_ix] at e
    exact gm_ix_in (hs.1 _ _ (by omega) (gm_ix_le g2 (by omega) ht) (by omega) (gm_ix_le g4 (by omega) ht) e)
  · intro a b x ad _ g2 n1 n2 on
    rw [gm_sk_ix, gm_sk_ix, gm_sk_ix] at on
    have xi := gm_ix_le g2 (by omega) ht
    have m1 : gm_ix t x ≠ gm_ix t a := fun z => n1 (gm_ix_in z)
    have m2 : gm_ix t x ≠ gm_ix t b := fun z => n2 (gm_ix_in z)
    rcases gm_ix_adj ht h3 ad with k | ⟨k1, k2⟩ | ⟨k1, k2⟩
    · exact hs.2.1 _ _ _ k (by omega) xi m1 m2 on
    · rw [k1] at m1; rw [k2] at m2; rw [k1, k2] at on
      exact nvx _ xi m1 (gm_ix_ne t x) m2 on
    · rw [k1] at m1; rw [k2] at m2; rw [k1, k2] at on
      exact nvx _ xi m2 (gm_ix_ne t x) m1 (gm_on_s on)
  · intro a b c e g h px
    rw [gm_sk_ix, gm_sk_ix, gm_sk_ix, gm_sk_ix] at px
    have ia := gm_ix_ne t a
    have ib := gm_ix_ne t b
    have ic := gm_ix_ne t c
    have ie := gm_ix_ne t e
    rcases gm_ix_adj ht h3 g with k | ⟨k1, k2⟩ | ⟨k1, k2⟩ <;> rcases gm_ix_adj ht h3 h with y | ⟨y1, y2⟩ | ⟨y1, y2⟩
    · exact hs.2.2 _ _ _ _ k y px
    · rw [y1, y2] at px; exact nxx _ _ k ia ib (gm_px_s px)
    · rw [y1, y2] at px; exact nxx _ _ k ia ib (gm_px_s1 (gm_px_s px))
    · rw [k1, k2] at px; exact nxx _ _ y ic ie px
    · rw [k1, k2, y1, y2] at px; exact self _ _ px
    · rw [k1, k2, y1, y2] at px; exact self2 _ _ px
    · rw [k1, k2] at px; exact nxx _ _ y ic ie (gm_px_s1 px)
    · rw [k1, k2, y1, y2] at px; exact self2 _ _ px
    · rw [k1, k2, y1, y2] at px; exact self _ _ px
theorem gm_cy_path (F : gm_P → gm_P → Int) (f : Nat → gm_P) (j : Nat) : gm_cy F f 0 j = gm_sum (fun k => F (f k) (f (k + 1))) 0 j + F (f j) (f 0) := by
  unfold gm_cy
  have e : j + 1 - 0 = j + 1 := by omega
  rw [e]
  simp only [gm_sum]
  have e2 : gm_nx 0 j (0 + j) = 0 := by unfold gm_nx; rw [if_pos (by omega)]
  rw [e2, Nat.zero_add]
  have s := gm_sum_c (F := fun k => F (f k) (f (gm_nx 0 j k))) (G := fun k => F (f k) (f (k + 1))) (i := 0) (n := j) (fun k h1 h2 => by
    try dsimp only
    have : gm_nx 0 j k = k + 1 := by unfold gm_nx; rw [if_neg (by omega)]
    rw [this])
  rw [s]
theorem gm_sum_l (G : Nat → Int) : ∀ n, gm_sum G 0 (n + 1) = G 0 + gm_sum (fun k => G (k + 1)) 0 n
  | 0 => by simp only [gm_sum, Nat.add_zero]; omega
  | n + 1 => by
    have a := gm_sum_l G n
    have e : gm_sum G 0 (n + 1 + 1) = gm_sum G 0 (n + 1) + G (0 + (n + 1)) := rfl
    have e2 : gm_sum (fun k => G (k + 1)) 0 (n + 1) = gm_sum (fun k => G (k + 1)) 0 n + G (0 + n + 1) := rfl
    have e3 : 0 + (n + 1) = 0 + n + 1 := by omega
    rw [e, e2, a, e3]; omega
theorem gm_cut_path (F : gm_P → gm_P → Int) (f : Nat → gm_P) (s : Nat) : ∀ m, gm_sum (fun k => F (f k) (f (k + 1))) 0 (s + 2 + m) = gm_sum (fun k => F (gm_sk f (s + 1) k) (gm_sk f (s + 1) (k + 1))) 0 (s + 1 + m) - F (f s) (f (s + 2)) + F (f s) (f (s + 1)) + F (f (s + 1)) (f (s + 2))
  | 0 => by
    have a : gm_sum (fun k => F (f k) (f (k + 1))) 0 (s + 2 + 0) = gm_sum (fun k => F (f k) (f (k + 1))) 0 s + F (f (0 + s)) (f (0 + s + 1)) + F (f (0 + (s + 1))) (f (0 + (s + 1) + 1)) := rfl
    have b : gm_sum (fun k => F (gm_sk f (s + 1) k) (gm_sk f (s + 1) (k + 1))) 0 (s + 1 + 0) = gm_sum (fun k => F (gm_sk f (s + 1) k) (gm_sk f (s + 1) (k + 1))) 0 s + F (gm_sk f (s + 1) (0 + s)) (gm_sk f (s + 1) (0 + s + 1)) := rfl
    have c := gm_sum_c (F := fun k => F (gm_sk f (s + 1) k) (gm_sk f (s + 1) (k + 1))) (G := fun k => F (f k) (f (k + 1))) (i := 0) (n := s) (fun k h1 h2 => by
      try dsimp only
      have e1 : gm_sk f (s + 1) k = f k := by unfold gm_sk; rw [if_pos (by omega)]
      have e2 : gm_sk f (s + 1) (k + 1) = f (k + 1) := by unfold gm_sk; rw [if_pos (by omega)]
      rw [e1, e2])
    have e1 : gm_sk f (s + 1) (0 + s) = f s := by unfold gm_sk; rw [if_pos (by omega), Nat.zero_add]
    have e2 : gm_sk f (s + 1) (0 + s + 1) = f (s + 2) := by unfold gm_sk; rw [if_neg (by omega), Nat.zero_add]
    rw [a, b, c, e1, e2, show 0 + s + 1 = s + 1 by omega, show 0 + s = s by omega, show 0 + (s + 1) + 1 = s + 2 by omega, show 0 + (s + 1) = s + 1 by omega]
    omega
  | m + 1 => by
    have ih := gm_cut_path F f s m
    have a : gm_sum (fun k => F (f k) (f (k + 1))) 0 (s + 2 + (m + 1)) = gm_sum (fun k => F (f k) (f (k + 1))) 0 (s + 2 + m) + F (f (0 + (s + 2 + m))) (f (0 + (s + 2 + m) + 1)) := rfl
    have b : gm_sum (fun k => F (gm_sk f (s + 1) k) (gm_sk f (s + 1) (k + 1))) 0 (s + 1 + (m + 1)) = gm_sum (fun k => F (gm_sk f (s + 1) k) (gm_sk f (s + 1) (k + 1))) 0 (s + 1 + m) + F (gm_sk f (s + 1) (0 + (s + 1 + m))) (gm_sk f (s + 1) (0 + (s + 1 + m) + 1)) := rfl
    have e1 : gm_sk f (s + 1) (0 + (s + 1 + m)) = f (0 + (s + 2 + m)) := by
      unfold gm_sk; rw [if_neg (by omega), show 0 + (s + 1 + m) + 1 = 0 + (s + 2 + m) by omega]
    have e2 : gm_sk f (s + 1) (0 + (s + 1 + m) + 1) = f (0 + (s + 2 + m) + 1) := by
      unfold gm_sk; rw [if_neg (by omega), show 0 + (s + 1 + m) + 1 + 1 = 0 + (s + 2 + m) + 1 by omega]
    rw [a, b, ih, e1, e2]
    omega
theorem gm_cut_sum (F : gm_P → gm_P → Int) {f : Nat → gm_P} {j t : Nat} (ht : t < j) (hj : 2 ≤ j) : gm_cy F f 0 j = gm_cy F (gm_sk f t) 0 (j - 1) - F (f (gm_pv 0 j t)) (f (gm_nx 0 j t)) + F (f (gm_pv 0 j t)) (f t) + F (f t) (f (gm_nx 0 j t)) := by
  have n1 : gm_nx 0 j t = t + 1 := by unfold gm_nx; rw [if_neg (by omega)]
  rw [n1, gm_cy_path, gm_cy_path]
  cases t with
  | zero =>
    have p1 : gm_pv 0 j 0 = j := by unfold gm_pv; rw [if_pos rfl]
    rw [p1]
    obtain ⟨n, rfl⟩ : ∃ n, j = n + 1 := ⟨j - 1, by omega⟩
    have a := gm_sum_l (fun k => F (f k) (f (k + 1))) n
    have e : ∀ k, gm_sk f 0 k = f (k + 1) := by intro k; unfold gm_sk; rw [if_neg (by omega)]
    have s := gm_sum_c (F := fun k => F (gm_sk f 0 k) (gm_sk f 0 (k + 1))) (G := fun k => F (f (k + 1)) (f (k + 1 + 1))) (i := 0) (n := n) (fun k h1 h2 => by (try dsimp only); rw [e, e])
    rw [a, Nat.add_sub_cancel, s, e, e]
    simp only [Nat.zero_add]
    omega
  | succ s =>
    have p1 : gm_pv 0 j (s + 1) = s := by unfold gm_pv; rw [if_neg (by omega)]; omega
    obtain ⟨m, rfl⟩ : ∃ m, j = s + 2 + m := ⟨j - (s + 2), by omega⟩
    have a := gm_cut_path F f s m
    have e0 : gm_sk f (s + 1) 0 = f 0 := by unfold gm_sk; rw [if_pos (by omega)]
    have e1 : gm_sk f (s + 1) (s + 2 + m - 1) = f (s + 2 + m) := by unfold gm_sk; rw [if_neg (by omega), show s + 2 + m - 1 + 1 = s + 2 + m by omega]
    rw [p1, e0, e1, a, show s + 2 + m - 1 = s + 1 + m by omega, show s + 1 + 1 = s + 2 by omega]
    omega
theorem gm_ix_nx {j t k : Nat} (ht : t < j) (h3 : 3 ≤ j) (hk : k ≤ j - 1) (hn : gm_ix t k ≠ gm_pv 0 j t) : gm_ix t (gm_nx 0 (j - 1) k) = gm_nx 0 j (gm_ix t k) := by
  unfold gm_ix gm_nx gm_pv at *
  repeat' split at hn
  all_goals repeat' split
  all_goals omega
theorem gm_cut_w {f : Nat → gm_P} {j t : Nat} (h3 : 3 ≤ j) (ht : t < j) (hs : gm_simp f 0 j) (he : gm_er f j t) (hw : gm_w f 0 j 0 = 1) : gm_w (gm_sk f t) 0 (j - 1) 0 = 1 := by
  have sp := gm_cut_simp h3 ht hs he
  have n1 : gm_nx 0 j t = t + 1 := by unfold gm_nx; rw [if_neg (by omega)]
  obtain ⟨k, k1, k2, k3, k4⟩ : ∃ k, k ≤ j - 1 ∧ gm_ix t k ≠ gm_pv 0 j t ∧ gm_ix t k ≠ t ∧ gm_ix t k ≠ gm_nx 0 j t := by
    rw [n1]
    by_cases e : t = 0
    · refine ⟨1, by omega, ?_, gm_ix_ne t 1, ?_⟩ <;> unfold gm_ix <;> (try unfold gm_pv) <;> repeat' split
      all_goals omega
    · by_cases e2 : t + 2 ≤ j
      · refine ⟨t + 1, by omega, ?_, gm_ix_ne t _, ?_⟩ <;> unfold gm_ix <;> (try unfold gm_pv) <;> repeat' split
        all_goals omega
      · refine ⟨0, by omega, ?_, gm_ix_ne t _, ?_⟩ <;> unfold gm_ix <;> (try unfold gm_pv) <;> repeat' split
        all_goals omega
  have kl := gm_ix_le k1 (by omega) ht
  rw [← gm_Jk (k := k) (by omega) sp (by omega) k1]
  have wk : gm_w f 0 j (gm_ix t k) = 1 := by rw [gm_Jk (by omega) hs (by omega) kl, hw]
  unfold gm_w at wk ⊢
  rw [gm_sk_ix, gm_sk_ix, gm_ix_nx ht h3 k1 k2]
  unfold gm_W at wk ⊢
  rw [gm_cut_sum _ ht (by omega)] at wk
  have T := gm_T0 (gm_V (f (gm_ix t k)) (f (gm_nx 0 j (gm_ix t k)))) he.1 (he.2 _ kl k2 k3 k4)
  rw [gm_Om_a _ _ (f (gm_pv 0 j t)) (f (gm_nx 0 j t))] at T
  omega
def gm_ar (p q : gm_P) : Int := p.1 * q.2 - q.1 * p.2
theorem gm_cut_area {f : Nat → gm_P} {j t : Nat} (ht : t < j) (hj : 2 ≤ j) : gm_cy gm_ar f 0 j = gm_cy gm_ar (gm_sk f t) 0 (j - 1) + gm_O (f (gm_pv 0 j t)) (f t) (f (gm_nx 0 j t)) := by
  rw [gm_cut_sum gm_ar ht hj]
  have e : ∀ a b c : gm_P, gm_O a b c = gm_ar a b + gm_ar b c - gm_ar a c := by intro a b c; unfold gm_O gm_ar; grind
  rw [e]
  omega
theorem gm_tri_w (f : Nat → gm_P) : gm_w f 0 2 0 = gm_b (gm_O (f 0) (f 1) (f 2)) := by
  unfold gm_w gm_W
  have e0 : gm_nx 0 2 0 = 1 := by unfold gm_nx; rw [if_neg (by omega)]
  rw [e0, gm_cy_path]
  show 0 + gm_Om (gm_V (f 0) (f 1)) (f 0) (f (0 + 0)) (f (0 + 0 + 1)) + gm_Om (gm_V (f 0) (f 1)) (f 0) (f (0 + 1)) (f (0 + 1 + 1)) + gm_Om (gm_V (f 0) (f 1)) (f 0) (f 2) (f 0) = _
  rw [gm_Om_q]
  show 0 + gm_Om (gm_V (f 0) (f 1)) (f 0) (f 0) (f 1) + gm_Om (gm_V (f 0) (f 1)) (f 0) (f 1) (f 2) + 0 = _
  rw [gm_Om_p]
  unfold gm_Om
  rw [gm_SV, gm_SV, gm_O3, gm_om_b]
  omega
theorem gm_tri_area (f : Nat → gm_P) : gm_cy gm_ar f 0 2 = gm_O (f 0) (f 1) (f 2) := by
  rw [gm_cy_path]
  show 0 + gm_ar (f 0) (f 1) + gm_ar (f 1) (f 2) + gm_ar (f 2) (f 0) = _
  unfold gm_ar gm_O; grind
theorem gm_ear_er {f : Nat → gm_P} {j t : Nat} (h : gm_ear f 0 j t) : gm_er f j t := by
  obtain ⟨t1, t2, t3, t4⟩ := h
  have n1 : gm_nx 0 j t = t + 1 := by unfold gm_nx; rw [if_neg (by omega)]
  have p1 : gm_pv 0 j t = t - 1 := by unfold gm_pv; rw [if_neg (by omega)]
  unfold gm_er
  rw [n1, p1]
  exact ⟨t3, fun x x1 a b c => t4 x (by omega) x1 a b c⟩
theorem gm_area_pos : ∀ (n : Nat) (f : Nat → gm_P), gm_simp f 0 (n + 2) → gm_w f 0 (n + 2) 0 = 1 → 0 < gm_cy gm_ar f 0 (n + 2)
  | 0, f, _, hw => by
    rw [show 0 + 2 = 2 from rfl] at hw ⊢
    rw [gm_tri_w] at hw
    rw [gm_tri_area]
    exact gm_b1 hw
  | n + 1, f, hs, hw => by
    obtain ⟨t, ht⟩ := gm_E _ f 0 (n + 1 + 2) (Nat.le_refl _) (by omega) hs hw
    have er := gm_ear_er ht
    have t2 := ht.2.1
    have a := gm_cut_area (f := f) (j := n + 1 + 2) t2 (by omega)
    have e : n + 1 + 2 - 1 = n + 2 := by omega
    have s := gm_cut_simp (by omega) t2 hs er
    have w := gm_cut_w (by omega) t2 hs er hw
    rw [e] at a s w
    have ih := gm_area_pos n (gm_sk f t) s w
    have p := er.1
    omega
/-! the other way around -/
def gm_rev (f : Nat → gm_P) (j : Nat) : Nat → gm_P := fun k => f (j - k)
theorem gm_rev_simp {f : Nat → gm_P} {j : Nat} (hs : gm_simp f 0 j) : gm_simp (gm_rev f j) 0 j := by
  have ad : ∀ a b, gm_adj 0 j a b → gm_adj 0 j (j - a) (j - b) := by
    intro a b h
    unfold gm_adj at *
    omega
  refine ⟨fun a b _ g2 _ g4 e => ?_, fun a b x h _ g2 n1 n2 => ?_, fun a b c e g h => ?_⟩
  · have := hs.1 (j - a) (j - b) (by omega) (by omega) (by omega) (by omega) e
    omega
  · have a1 := h.1
    exact hs.2.1 _ _ _ (ad a b h) (by omega) (by omega) (by omega) (by omega)
  · exact hs.2.2 _ _ _ _ (ad a b g) (ad c e h)
theorem gm_w01 {f : Nat → gm_P} {j : Nat} (h2 : 2 ≤ j) (hs : gm_simp f 0 j) : gm_w f 0 j 0 = 1 ∨ gm_w (gm_rev f j) 0 j 0 = 1 := by
  have E := gm_ext_ex (f := f) (i := 0) (1, 0) (by simp) j (by rw [Nat.zero_add]; exact hs.1)
  rw [Nat.zero_add] at E
  obtain ⟨m, m1, m2, hx⟩ := E
  have nz := gm_extn (by omega) hs m1 m2 hx
  have rs := gm_rev_simp hs
  have hx' : gm_ext (gm_rev f j) 0 j (j - m) (1, 0) := by
    intro x x1 x2 n
    unfold gm_rev
    rw [show j - (j - m) = m by omega]
    exact hx _ (by omega) (by omega) (by omega)
  have a := gm_extw (by omega) m1 m2 hx
  have b := gm_extw (f := gm_rev f j) (by omega) (by omega) (by omega) hx'
  rw [gm_Jk (by omega) hs m1 m2] at a
  rw [gm_Jk (by omega) rs (by omega) (by omega)] at b
  have q1 : gm_rev f j (j - m) = f m := by unfold gm_rev; rw [show j - (j - m) = m by omega]
  have q2 : gm_rev f j (gm_nx 0 j (j - m)) = f (gm_pv 0 j m) := by
    unfold gm_rev gm_nx gm_pv
    congr 1
    repeat' split
    all_goals omega
  have q3 : gm_rev f j (gm_pv 0 j (j - m)) = f (gm_nx 0 j m) := by
    unfold gm_rev gm_nx gm_pv
    congr 1
    repeat' split
    all_goals omega
  rw [q1, q2, q3] at b
  have o : gm_O (f m) (f (gm_pv 0 j m)) (f (gm_nx 0 j m)) = - gm_O (f m) (f (gm_nx 0 j m)) (f (gm_pv 0 j m)) := by unfold gm_O; grind
  rcases (show 0 < gm_O (f m) (f (gm_nx 0 j m)) (f (gm_pv 0 j m)) ∨ gm_O (f m) (f (gm_nx 0 j m)) (f (gm_pv 0 j m)) < 0 by omega) with h | h
  · exact Or.inl (a.trans (gm_bp h))
  · exact Or.inr (b.trans (gm_bp (by omega)))
theorem gm_rev_path (f : Nat → gm_P) (j : Nat) : ∀ n, n ≤ j → gm_sum (fun k => gm_ar (f (j - k)) (f (j - (k + 1)))) 0 n = gm_sum (fun k => gm_ar (f k) (f (k + 1))) 0 (j - n) - gm_sum (fun k => gm_ar (f k) (f (k + 1))) 0 j
  | 0, _ => by rw [Nat.sub_zero]; simp only [gm_sum]; omega
  | n + 1, h => by
    have ih := gm_rev_path f j n (by omega)
    have e : j - n = (j - (n + 1)) + 1 := by omega
    have s : gm_sum (fun k => gm_ar (f k) (f (k + 1))) 0 (j - n) = gm_sum (fun k => gm_ar (f k) (f (k + 1))) 0 (j - (n + 1)) + gm_ar (f (j - (n + 1))) (f (j - n)) := by
      rw [e]
      simp only [gm_sum, Nat.zero_add]
    have a : ∀ p q : gm_P, gm_ar p q = - gm_ar q p := by intro p q; unfold gm_ar; grind
    have b := a (f (j - n)) (f (j - (n + 1)))
    simp only [gm_sum, Nat.zero_add]
    rw [ih, s, b]
    omega
theorem gm_rev_area (f : Nat → gm_P) (j : Nat) : gm_cy gm_ar (gm_rev f j) 0 j = - gm_cy gm_ar f 0 j := by
  rw [gm_cy_path, gm_cy_path]
  have p := gm_rev_path f j j (Nat.le_refl _)
  rw [Nat.sub_self] at p
  have a : ∀ p q : gm_P, gm_ar p q = - gm_ar q p := by intro p q; unfold gm_ar; grind
  have b := a (f 0) (f j)
  unfold gm_rev
  rw [p, Nat.sub_self, Nat.sub_zero, b]
  simp only [gm_sum]
  omega
/-- simple and the area not negative: it runs to the left -/
theorem gm_good0 {f : Nat → gm_P} {j : Nat} (h2 : 2 ≤ j) (hs : gm_simp f 0 j) (ha : 0 ≤ gm_cy gm_ar f 0 j) : gm_w f 0 j 0 = 1 := by
  rcases gm_w01 h2 hs with h | h
  · exact h
  · exfalso
    obtain ⟨n, rfl⟩ : ∃ n, j = n + 2 := ⟨j - 2, by omega⟩
    have := gm_area_pos n _ (gm_rev_simp hs) h
    rw [gm_rev_area] at this
    omega
def gm_Good (f : Nat → gm_P) (n : Nat) : Prop := 3 ≤ n ∧ gm_simp f 0 (n - 1) ∧ gm_w f 0 (n - 1) 0 = 1
theorem gm_good_ear {f : Nat → gm_P} {n : Nat} (h : gm_Good f n) : ∃ t, t < n - 1 ∧ gm_er f (n - 1) t := by
  have h1 := h.1
  obtain ⟨t, ht⟩ := gm_E _ f 0 (n - 1) (Nat.le_refl _) (by omega) h.2.1 h.2.2
  exact ⟨t, ht.2.1, gm_ear_er ht⟩
theorem gm_good_cut {f : Nat → gm_P} {n t : Nat} (h : gm_Good f n) (h4 : 4 ≤ n) (ht : t < n - 1) (he : gm_er f (n - 1) t) : gm_Good (gm_sk f t) (n - 1) :=
  ⟨by omega, gm_cut_simp (by omega) ht h.2.1 he, gm_cut_w (by omega) ht h.2.1 he h.2.2⟩
