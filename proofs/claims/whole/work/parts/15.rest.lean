/-! diagonals, counts, the summed area -/
def mt_kc (xs ys : Nat → Int32) (n : Nat) (q : Int32) : Nat → Int32
  | 0 => 0
  | k + 1 => if mt_kind xs ys n k = q then mt_kc xs ys n q k + 1 else mt_kc xs ys n q k
section
variable {cp st tr : Int32} {xs ys kd fc mc lc rg : Nat → Int32} {n : Nat} {post : Int32 → Prop}
theorem x_bl_l {a b : Nat} (ha : a < n) (hb : b < n) (hn : n ≤ 32) (hB : ∀ k, k < n → mt_B (mt_p xs ys k)) : ∀ d k, k + d = n → ((∃ k', k ≤ k' ∧ k' < n ∧ gm_blX (mt_p xs ys) (n - 1) a b k') → post 1) → ((¬ ∃ k', k ≤ k' ∧ k' < n ∧ gm_blX (mt_p xs ys) (n - 1) a b k') → post 0) → wX_meetsBoundaryBetween_2 post (nI a) (nI b) cp st (nI n) tr xs ys kd fc mc lc rg (d + 1) (nI k) := by
  intro d
  induction d with
  | zero =>
    intro k hk h1 h0
    have e : k = n := by omega
    subst e
    exact br_t (nI_le (Nat.le_refl _) (by omega)) (h0 (fun ⟨k', p, q, _⟩ => by omega))
  | succ d ih =>
    intro k hk h1 h0
    have hkn : k < n := by omega
    have hj := mt_nl hkn
    have n10 : ¬ (1 : Int32) = 0 := by decide
    have vk : vp_in (nI k) 32 := vp_in_nI (by omega) (by omega)
    have ck := nI_clamp (show k < 2 ^ 31 by omega)
    have go : ¬ gm_blX (mt_p xs ys) (n - 1) a b k → wX_meetsBoundaryBetween_2 post (nI a) (nI b) cp st (nI n) tr xs ys kd fc mc lc rg (d + 1) (nI (k + 1)) := by
      intro nr
      refine ih (k + 1) (by omega) (fun ⟨b', p, q, r⟩ => h1 ⟨b', by omega, q, r⟩) (fun z => h0 (fun ⟨b', p, q, r⟩ => ?_))
      by_cases e : b' = k
      · exact nr (e ▸ r)
      · exact z ⟨b', by omega, q, r⟩
    have yes : gm_blX (mt_p xs ys) (n - 1) a b k → post 1 := fun z => h1 ⟨k, Nat.le_refl _, hkn, z⟩
    have q1 := nI_eq (a := k) (b := a) (by omega) (by omega)
    have q2 := nI_eq (a := k) (b := b) (by omega) (by omega)
    have q3 := nI_eq (a := gm_nx 0 (n - 1) k) (b := a) (by omega) (by omega)
    have q4 := nI_eq (a := gm_nx 0 (n - 1) k) (b := b) (by omega) (by omega)
    have t79 : ¬ gm_blX (mt_p xs ys) (n - 1) a b k → wX_meetsBoundaryBetween_79 post (wX_meetsBoundaryBetween_2 post (nI a) (nI b) cp st (nI n) tr xs ys kd fc mc lc rg (d + 1)) (nI a) (nI b) (nI k) (nI (gm_nx 0 (n - 1) k)) cp st (nI n) tr xs ys kd fc mc lc rg := by
      intro nr
      unfold wX_meetsBoundaryBetween_79 wX_meetsBoundaryBetween_84
      exact br_f n10 (nm_r (nI_1 k) (go nr))
    have t27 : (k = a ∨ k = b) → wX_meetsBoundaryBetween_27 post (wX_meetsBoundaryBetween_2 post (nI a) (nI b) cp st (nI n) tr xs ys kd fc mc lc rg (d + 1)) (nI a) (nI b) (nI k) (nI (gm_nx 0 (n - 1) k)) cp st (nI n) tr xs ys kd fc mc lc rg := by
      intro e
      unfold wX_meetsBoundaryBetween_27 wX_meetsBoundaryBetween_32 wX_meetsBoundaryBetween_62
      refine br_f n10 (br_f n10 (t79 (fun z => ?_)))
      rcases z with ⟨⟨z1, z2⟩, _⟩ | ⟨⟨z1, z2, _⟩, _⟩
      · omega
      · omega
    refine br_f (nI_ge (by omega) (by omega)) (x_next hkn hn (br_c (fun e => t27 (Or.inl (q1.mp e))) (fun e1 => br_c (fun e => t27 (Or.inr (q2.mp e))) (fun e2 => ?_))))
    have n1 : k ≠ a := fun z => e1 (q1.mpr z)
    have n2 : k ≠ b := fun z => e2 (q2.mpr z)
    unfold wX_meetsBoundaryBetween_32
    rw [ck]
    refine br_t rfl ⟨vk, vk, x_on ha hb hn hB (hB k hkn) (fun m => br_f n10 (yes (Or.inl ⟨⟨n1, n2⟩, m⟩))) (fun m => br_t rfl ?_)⟩
    have nb : ¬ (((gm_nx 0 (n - 1) k ≠ a ∧ gm_nx 0 (n - 1) k ≠ b)) ∧ gm_meet (mt_p xs ys a) (mt_p xs ys b) (mt_p xs ys k) (mt_p xs ys (gm_nx 0 (n - 1) k))) → ¬ gm_blX (mt_p xs ys) (n - 1) a b k := by
      intro w z
      rcases z with ⟨_, z⟩ | ⟨⟨_, _, z3, z4⟩, z5⟩
      · exact m z
      · exact w ⟨⟨z3, z4⟩, z5⟩
    unfold wX_meetsBoundaryBetween_62
    refine br_t rfl (br_c (fun e => t79 (nb (fun z => z.1.1 (q3.mp e)))) (fun e3 => br_c (fun e => t79 (nb (fun z => z.1.2 (q4.mp e)))) (fun e4 => ?_)))
    unfold wX_meetsBoundaryBetween_84
    exact br_t rfl (x_meet ha hb hkn hj hn hB (fun w => br_f n10 (yes (Or.inr ⟨⟨n1, n2, fun z => e3 (q3.mpr z), fun z => e4 (q4.mpr z)⟩, w⟩))) (fun w => br_t rfl (nm_r (nI_1 k) (go (nb (fun z => w z.2))))))
theorem x_bl {a b : Nat} (ha : a < n) (hb : b < n) (hn : n ≤ 32) (hB : ∀ k, k < n → mt_B (mt_p xs ys k)) (h1 : (∃ k, k < n ∧ gm_blX (mt_p xs ys) (n - 1) a b k) → post 1) (h0 : (¬ ∃ k, k < n ∧ gm_blX (mt_p xs ys) (n - 1) a b k) → post 0) : wpX_meetsBoundaryBetween post (cp, st, nI n, tr, xs, ys, kd, fc, mc, lc, rg) (nI a) (nI b) :=
  ⟨n + 1, x_bl_l ha hb hn hB n 0 (by omega) (fun ⟨k, _, q, r⟩ => h1 ⟨k, q, r⟩) (fun z => h0 (fun ⟨k, q, r⟩ => z ⟨k, Nat.zero_le _, q, r⟩))⟩
theorem y_bl_l {a b : Nat} (ha : a < n) (hb : b < n) (hn : n ≤ 32) (hB : ∀ k, k < n → mt_B (mt_p xs ys k)) : ∀ d k, k + d = n → ((∃ k', k ≤ k' ∧ k' < n ∧ gm_blY (mt_p xs ys) (n - 1) a b k') → post 0) → ((¬ ∃ k', k ≤ k' ∧ k' < n ∧ gm_blY (mt_p xs ys) (n - 1) a b k') → wpY_winding (fun r => narrow .boolean (.int r) = .int r ∧ post r) (cp, nI n, st, xs, ys) (xs a + xs b) (ys a + ys b) 2) → wY_isDiagonal_97 post (xs a) (ys a) (xs b) (ys b) cp (nI n) st xs ys (d + 1) (nI k) := by
  intro d
  induction d with
  | zero =>
    intro k hk h1 h0
    have e : k = n := by omega
    subst e
    exact br_t (nI_le (Nat.le_refl _) (by omega)) (h0 (fun ⟨k', p, q, _⟩ => by omega))
  | succ d ih =>
    intro k hk h1 h0
    have hkn : k < n := by omega
    have hj := mt_nl hkn
    have n10 : ¬ (1 : Int32) = 0 := by decide
    have vk : vp_in (nI k) 32 := vp_in_nI (by omega) (by omega)
    have vj : vp_in (nI (gm_nx 0 (n - 1) k)) 32 := vp_in_nI (by omega) (by omega)
    have ck := nI_clamp (show k < 2 ^ 31 by omega)
    have cj := nI_clamp (show gm_nx 0 (n - 1) k < 2 ^ 31 by omega)
    have go : ¬ gm_blY (mt_p xs ys) (n - 1) a b k → wY_isDiagonal_97 post (xs a) (ys a) (xs b) (ys b) cp (nI n) st xs ys (d + 1) (nI (k + 1)) := by
      intro nr
      refine ih (k + 1) (by omega) (fun ⟨b', p, q, r⟩ => h1 ⟨b', by omega, q, r⟩) (fun z => h0 (fun ⟨b', p, q, r⟩ => ?_))
      by_cases e : b' = k
      · exact nr (e ▸ r)
      · exact z ⟨b', by omega, q, r⟩
    have yes : gm_blY (mt_p xs ys) (n - 1) a b k → post 0 := fun z => h1 ⟨k, Nat.le_refl _, hkn, z⟩
    have s1 := mt_Os (hB a ha) (hB b hb) (hB k hkn)
    have s2 := mt_Os (hB a ha) (hB b hb) (hB _ hj)
    have z1 := mt_eq0 s1
    have z2 := mt_eq0 s2
    have w1 := mt_0le (mt_Ds (hB k hkn) (hB a ha) (hB b hb))
    have w2 := mt_0le (mt_Ds (hB _ hj) (hB a ha) (hB b hb))
    have w3 := mt_lt0 (mt_Ds (hB a ha) (hB k hkn) (hB _ hj))
    have w4 := mt_0le (mt_Ds (hB b hb) (hB k hkn) (hB _ hj))
    have t293 : ¬ gm_px (mt_p xs ys a) (mt_p xs ys b) (mt_p xs ys k) (mt_p xs ys (gm_nx 0 (n - 1) k)) → ¬ (gm_O (mt_p xs ys a) (mt_p xs ys b) (mt_p xs ys k) = 0 ∧ gm_D (mt_p xs ys k) (mt_p xs ys a) (mt_p xs ys b) < 0) → ¬ (gm_O (mt_p xs ys a) (mt_p xs ys b) (mt_p xs ys (gm_nx 0 (n - 1) k)) = 0 ∧ gm_D (mt_p xs ys (gm_nx 0 (n - 1) k)) (mt_p xs ys a) (mt_p xs ys b) < 0) → wY_isDiagonal_293 post (wY_isDiagonal_97 post (xs a) (ys a) (xs b) (ys b) cp (nI n) st xs ys (d + 1)) (xs a) (ys a) (xs b) (ys b) (nI k) (xs k) (ys k) (xs (gm_nx 0 (n - 1) k)) (ys (gm_nx 0 (n - 1) k)) (mt_c (gm_O (mt_p xs ys a) (mt_p xs ys b) (mt_p xs ys k))) (mt_c (gm_O (mt_p xs ys a) (mt_p xs ys b) (mt_p xs ys (gm_nx 0 (n - 1) k)))) cp (nI n) st xs ys := by
      intro p1 p2 p3
      have nb : ¬ ((gm_O (mt_p xs ys a) (mt_p xs ys b) (mt_p xs ys k) = 0 ∧ gm_O (mt_p xs ys a) (mt_p xs ys b) (mt_p xs ys (gm_nx 0 (n - 1) k)) = 0) ∧ (gm_D (mt_p xs ys a) (mt_p xs ys k) (mt_p xs ys (gm_nx 0 (n - 1) k)) < 0 ∨ gm_D (mt_p xs ys b) (mt_p xs ys k) (mt_p xs ys (gm_nx 0 (n - 1) k)) < 0)) → ¬ gm_blY (mt_p xs ys) (n - 1) a b k := by
        intro w z
        rcases z with z | z | z | z
        · exact p1 z
        · exact p2 z
        · exact p3 z
        · exact w z
      unfold wY_isDiagonal_293
      refine br_c (fun g1 => br_c (fun g2 => ?_) (fun g2 => nm_r (nI_1 k) (go (nb (fun z => g2 (z2.mpr z.1.2)))))) (fun g1 => nm_r (nI_1 k) (go (nb (fun z => g1 (z1.mpr z.1.1)))))
      refine y_dot (br_c (fun g3 => yes (Or.inr (Or.inr (Or.inr ⟨⟨z1.mp g1, z2.mp g2⟩, Or.inl (w3.mp g3)⟩)))) (fun g3 => y_dot (br_c (fun g4 => nm_r (nI_1 k) (go (nb (fun z => ?_)))) (fun g4 => yes (Or.inr (Or.inr (Or.inr ⟨⟨z1.mp g1, z2.mp g2⟩, Or.inr (Int.not_le.mp (fun z => g4 (w4.mpr z)))⟩)))))))
      rcases z.2 with y | y
      · exact g3 (w3.mpr y)
      · have := w4.mp g4
        omega
    have t243 : ¬ gm_px (mt_p xs ys a) (mt_p xs ys b) (mt_p xs ys k) (mt_p xs ys (gm_nx 0 (n - 1) k)) → wY_isDiagonal_243 post (wY_isDiagonal_97 post (xs a) (ys a) (xs b) (ys b) cp (nI n) st xs ys (d + 1)) (xs a) (ys a) (xs b) (ys b) (nI k) (xs k) (ys k) (xs (gm_nx 0 (n - 1) k)) (ys (gm_nx 0 (n - 1) k)) (mt_c (gm_O (mt_p xs ys a) (mt_p xs ys b) (mt_p xs ys k))) (mt_c (gm_O (mt_p xs ys a) (mt_p xs ys b) (mt_p xs ys (gm_nx 0 (n - 1) k)))) cp (nI n) st xs ys := by
      intro p1
      have t268 : ¬ (gm_O (mt_p xs ys a) (mt_p xs ys b) (mt_p xs ys k) = 0 ∧ gm_D (mt_p xs ys k) (mt_p xs ys a) (mt_p xs ys b) < 0) → wY_isDiagonal_268 post (wY_isDiagonal_97 post (xs a) (ys a) (xs b) (ys b) cp (nI n) st xs ys (d + 1)) (xs a) (ys a) (xs b) (ys b) (nI k) (xs k) (ys k) (xs (gm_nx 0 (n - 1) k)) (ys (gm_nx 0 (n - 1) k)) (mt_c (gm_O (mt_p xs ys a) (mt_p xs ys b) (mt_p xs ys k))) (mt_c (gm_O (mt_p xs ys a) (mt_p xs ys b) (mt_p xs ys (gm_nx 0 (n - 1) k)))) cp (nI n) st xs ys := by
        intro p2
        unfold wY_isDiagonal_268
        refine br_c (fun g => y_dot (br_c (fun g2 => t293 p1 p2 (fun z => ?_)) (fun g2 => yes (Or.inr (Or.inr (Or.inl ⟨z2.mp g, Int.not_le.mp (fun z => g2 (w2.mpr z))⟩)))))) (fun g => t293 p1 p2 (fun z => g (z2.mpr z.1)))
        have := w2.mp g2
        have := z.2
        omega
      unfold wY_isDiagonal_243
      refine br_c (fun g => y_dot (br_c (fun g2 => t268 (fun z => ?_)) (fun g2 => yes (Or.inr (Or.inl ⟨z1.mp g, Int.not_le.mp (fun z => g2 (w1.mpr z))⟩))))) (fun g => t268 (fun z => g (z1.mpr z.1)))
      have := w1.mp g2
      have := z.2
      omega
    refine br_f (nI_ge (by omega) (by omega)) (y_nxt hkn hn ⟨vk, nm_r (congrArg xs ck) ⟨vk, nm_r (congrArg ys ck) ⟨vj, nm_r (congrArg xs cj) ⟨vj, nm_r (congrArg ys cj) (y_cross (y_cross (y_cross (y_cross ?_))))⟩⟩⟩⟩)
    refine y_opp s1 s2 (fun o1 => br_f n10 ?_) (fun o1 => br_t rfl (t243 (fun z => o1 z.1)))
    exact y_opp (mt_Os (hB k hkn) (hB _ hj) (hB a ha)) (mt_Os (hB k hkn) (hB _ hj) (hB b hb)) (fun o2 => br_f n10 (yes (Or.inl ⟨o1, o2⟩))) (fun o2 => br_t rfl (t243 (fun z => o2 z.2)))
theorem x_kc_l {q : Int32} (hn : n ≤ 32) (hk : ∀ j, j < n → kd j = mt_kind xs ys n j) (h : post (mt_kc xs ys n q n)) : ∀ d k, k + d = n → wX_kindCount_24 post q cp st (nI n) tr xs ys kd fc mc lc rg (d + 1) (mt_kc xs ys n q k) (nI k) := by
  intro d
  induction d with
  | zero =>
    intro k e
    have e : k = n := by omega
    rw [e]
    exact br_t (nI_le (Nat.le_refl _) (by omega)) h
  | succ d ih =>
    intro k e
    have hkn : k < n := by omega
    have vk : vp_in (nI k) 32 := vp_in_nI (by omega) (by omega)
    have ck := nI_clamp (show k < 2 ^ 31 by omega)
    have nxt := ih (k + 1) (by omega)
    refine br_f (nI_ge (by omega) (by omega)) ⟨vk, br_c (fun g => nm_r ?_ (nm_r (nI_1 k) nxt)) (fun g => nm_r (nI_1 k) ?_)⟩
    · rw [ck, hk k hkn] at g
      show _ = if mt_kind xs ys n k = q then mt_kc xs ys n q k + 1 else mt_kc xs ys n q k
      rw [if_pos g]
    · rw [ck, hk k hkn] at g
      have e2 : mt_kc xs ys n q (k + 1) = mt_kc xs ys n q k := by
        show (if mt_kind xs ys n k = q then mt_kc xs ys n q k + 1 else mt_kc xs ys n q k) = _
        rw [if_neg g]
      rw [e2] at nxt
      exact nxt
theorem y_kc_l {q : Int32} (hn : n ≤ 32) (h : post (mt_kc xs ys n q n)) : ∀ d k, k + d = n → wY_kindCount_26 post q cp (nI n) st xs ys (d + 1) (mt_kc xs ys n q k) (nI k) := by
  intro d
  induction d with
  | zero =>
    intro k e
    have e : k = n := by omega
    rw [e]
    exact br_t (nI_le (Nat.le_refl _) (by omega)) h
  | succ d ih =>
    intro k e
    have hkn : k < n := by omega
    have nxt := ih (k + 1) (by omega)
    refine br_f (nI_ge (by omega) (by omega)) (y_kind hkn hn (br_c (fun g => nm_r ?_ (nm_r (nI_1 k) nxt)) (fun g => nm_r (nI_1 k) ?_)))
    · show _ = if mt_kind xs ys n k = q then mt_kc xs ys n q k + 1 else mt_kc xs ys n q k
      rw [if_pos g]
    · have e2 : mt_kc xs ys n q (k + 1) = mt_kc xs ys n q k := by
        show (if mt_kind xs ys n k = q then mt_kc xs ys n q k + 1 else mt_kc xs ys n q k) = _
        rw [if_neg g]
      rw [e2] at nxt
      exact nxt
theorem x_sum_l {m : Nat} (hn : n ≤ 32) (hm : m ≤ 32) (hB : ∀ k, k < n → mt_B (mt_p xs ys k)) (hv : mt_V n fc mc lc m) (h : post (mt_c (mt_T (mt_p xs ys) fc mc lc m))) : ∀ d k, k + d = m → wX_triangleAreaSum_14 post cp st (nI n) (nI m) xs ys kd fc mc lc rg (d + 1) (mt_c (mt_T (mt_p xs ys) fc mc lc k)) (nI k) := by
  intro d
  induction d with
  | zero =>
    intro k e
    have e : k = m := by omega
    rw [e]
    exact br_t (nI_le (Nat.le_refl _) (by omega)) h
  | succ d ih =>
    intro k e
    have vk : vp_in (nI k) 32 := vp_in_nI (by omega) (by omega)
    have ck := nI_clamp (show k < 2 ^ 31 by omega)
    have nxt := ih (k + 1) (by omega)
    obtain ⟨a, b, c, a1, b1, c1, ea, eb, ec⟩ := hv k (by omega)
    have vc : vp_in (nI c) 32 := vp_in_nI (by omega) (by omega)
    have cc := nI_clamp (show c < 2 ^ 31 by omega)
    have st : mt_T (mt_p xs ys) fc mc lc (k + 1) = mt_T (mt_p xs ys) fc mc lc k + mt_ab (gm_O (mt_p xs ys a) (mt_p xs ys b) (mt_p xs ys c)) := by
      unfold mt_T
      simp only [gm_sum, Nat.zero_add]
      rw [ea, eb, ec, nI_clamp (show a < 2 ^ 31 by omega), nI_clamp (show b < 2 ^ 31 by omega), cc]
    have s := mt_0le (mt_Os (hB a a1) (hB b b1) (hB c c1))
    refine br_f (nI_ge (by omega) (by omega)) ⟨vk, nm_r (show lc (nI k).toNatClampNeg = nI c by rw [ck]; exact ec) ⟨vk, vk, vc, vc, ?_⟩⟩
    rw [ck, ea, eb, cc]
    refine x_cross a1 b1 hn (br_c (fun g => nm_r ?_ (nm_r (nI_1 k) nxt)) (fun g => nm_r ?_ (nm_r (nI_1 k) nxt)))
    · have g' := s.mp g
      rw [st, ← mt_add]
      unfold mt_ab
      rw [if_neg (by omega)]
      rfl
    · have g' : ¬ 0 ≤ gm_O (mt_p xs ys a) (mt_p xs ys b) (mt_p xs ys c) := fun z => g (s.mpr z)
      rw [st, ← mt_add, mt_neg]
      unfold mt_ab
      rw [if_pos (by omega)]
      rfl
end
