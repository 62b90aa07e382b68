/-! the reference's judging and kinds -/
section
variable {cp st : Int32} {xs ys : Nat → Int32} {n : Nat} {post : Int32 → Prop} {psy : Int32 → SY → Prop}
theorem y_touch {a b : Nat} (ha : a < n) (hb : b < n) (hn : n ≤ 32) (hB : ∀ k, k < n → mt_B (mt_p xs ys k)) (h1 : gm_meet (mt_p xs ys a) (mt_p xs ys (gm_nx 0 (n - 1) a)) (mt_p xs ys b) (mt_p xs ys (gm_nx 0 (n - 1) b)) → post 1) (h0 : ¬ gm_meet (mt_p xs ys a) (mt_p xs ys (gm_nx 0 (n - 1) a)) (mt_p xs ys b) (mt_p xs ys (gm_nx 0 (n - 1) b)) → post 0) : wpY_edgesTouch post (cp, nI n, st, xs, ys) (nI a) (nI b) := by
  have ha' := mt_nl ha
  have hb' := mt_nl hb
  have va : vp_in (nI a) 32 := vp_in_nI (by omega) (by omega)
  have vb : vp_in (nI b) 32 := vp_in_nI (by omega) (by omega)
  have va' : vp_in (nI (gm_nx 0 (n - 1) a)) 32 := vp_in_nI (by omega) (by omega)
  have vb' : vp_in (nI (gm_nx 0 (n - 1) b)) 32 := vp_in_nI (by omega) (by omega)
  have ca := nI_clamp (show a < 2 ^ 31 by omega)
  have cb := nI_clamp (show b < 2 ^ 31 by omega)
  have ca' := nI_clamp (show gm_nx 0 (n - 1) a < 2 ^ 31 by omega)
  have cb' := nI_clamp (show gm_nx 0 (n - 1) b < 2 ^ 31 by omega)
  have n10 : ¬ (1 : Int32) = 0 := by decide
  have t : ¬ gm_px (mt_p xs ys a) (mt_p xs ys (gm_nx 0 (n - 1) a)) (mt_p xs ys b) (mt_p xs ys (gm_nx 0 (n - 1) b)) → wY_edgesTouch_174 post (xs a) (ys a) (xs (gm_nx 0 (n - 1) a)) (ys (gm_nx 0 (n - 1) a)) (xs b) (ys b) (xs (gm_nx 0 (n - 1) b)) (ys (gm_nx 0 (n - 1) b)) cp (nI n) st xs ys := by
    intro np
    unfold wY_edgesTouch_174
    refine y_on (hB a ha) (hB b hb) (hB _ hb') (fun m => br_f n10 (h1 (Or.inr (Or.inr (Or.inr (Or.inl m)))))) (fun m1 => br_t rfl ?_)
    refine y_on (hB _ ha') (hB b hb) (hB _ hb') (fun m => br_f n10 (h1 (Or.inr (Or.inr (Or.inr (Or.inr m)))))) (fun m2 => br_t rfl ?_)
    refine y_on (hB b hb) (hB a ha) (hB _ ha') (fun m => br_f n10 (h1 (Or.inr (Or.inl m)))) (fun m3 => br_t rfl ?_)
    refine y_on (hB _ hb') (hB a ha) (hB _ ha') (fun m => br_f n10 (h1 (Or.inr (Or.inr (Or.inl m))))) (fun m4 => br_t rfl (h0 (fun w => ?_)))
    rcases w with w | w | w | w | w
    · exact np w
    · exact m3 w
    · exact m4 w
    · exact m1 w
    · exact m2 w
  unfold wpY_edgesTouch
  dsimp only
  refine ⟨va, nm_r (congrArg xs ca) ⟨va, nm_r (congrArg ys ca) (y_nxt ha hn ⟨va', nm_r (congrArg xs ca') ⟨va', nm_r (congrArg ys ca') ⟨vb, nm_r (congrArg xs cb) ⟨vb, nm_r (congrArg ys cb) (y_nxt hb hn ⟨vb', nm_r (congrArg xs cb') ⟨vb', nm_r (congrArg ys cb') ?_⟩⟩)⟩⟩⟩⟩)⟩⟩
  refine y_cross (y_cross (y_cross (y_cross ?_)))
  refine y_opp (mt_Os (hB b hb) (hB _ hb') (hB a ha)) (mt_Os (hB b hb) (hB _ hb') (hB _ ha')) (fun o1 => br_f n10 ?_) (fun o1 => br_t rfl (t (fun z => o1 z.2)))
  exact y_opp (mt_Os (hB a ha) (hB _ ha') (hB b hb)) (mt_Os (hB a ha) (hB _ ha') (hB _ hb')) (fun o2 => br_f n10 (h1 (Or.inl ⟨o2, o1⟩))) (fun o2 => br_t rfl (t (fun z => o2 z.1)))
theorem y_rep_l {J : Int32 → Prop} {a : Nat} (hn : n ≤ 32) (ha : a < n) : ∀ d b, b + d = n → ((∃ b', b ≤ b' ∧ b' < n ∧ mt_rep xs ys a b') → psy 3 (cp, nI n, 2, xs, ys)) → ((¬ ∃ b', b ≤ b' ∧ b' < n ∧ mt_rep xs ys a b') → J (nI (a + 1))) → wY_triangulate_38 psy J (nI a) cp (nI n) st xs ys (d + 1) (nI b) := by
  intro d
  induction d with
  | zero =>
    intro b hb h1 h0
    have e : b = n := by omega
    subst e
    exact br_t (nI_le (Nat.le_refl _) (by omega)) (nm_r (nI_1 a) (h0 (fun ⟨b', p, q, _⟩ => by omega)))
  | succ d ih =>
    intro b hb h1 h0
    have va : vp_in (nI a) 32 := vp_in_nI (by omega) (by omega)
    have vb : vp_in (nI b) 32 := vp_in_nI (by omega) (by omega)
    have ca := nI_clamp (show a < 2 ^ 31 by omega)
    have cb := nI_clamp (show b < 2 ^ 31 by omega)
    have go : ¬ mt_rep xs ys a b → wY_triangulate_38 psy J (nI a) cp (nI n) st xs ys (d + 1) (nI (b + 1)) := by
      intro nr
      refine ih (b + 1) (by omega) (fun ⟨b', p, q, r⟩ => h1 ⟨b', by omega, q, r⟩) (fun z => h0 (fun ⟨b', p, q, r⟩ => ?_))
      by_cases e : b' = b
      · exact nr (e ▸ r)
      · exact z ⟨b', by omega, q, r⟩
    refine br_f (nI_ge (by omega) (by omega)) ⟨va, vb, br_c (fun e => ⟨va, vb, br_c (fun e2 => h1 ⟨b, Nat.le_refl _, by omega, ?_⟩) (fun e2 => nm_r (nI_1 b) (go (fun r => e2 ?_)))⟩) (fun e => nm_r (nI_1 b) (go (fun r => e ?_)))⟩
    · rw [ca, cb] at e e2; exact ⟨e, e2⟩
    · rw [ca, cb]; exact r.2
    · rw [ca, cb]; exact r.1
theorem y_rep_o (hn : n ≤ 32) : ∀ d a, a + d = n → ((∃ a' b', a ≤ a' ∧ a' < b' ∧ b' < n ∧ mt_rep xs ys a' b') → psy 3 (cp, nI n, 2, xs, ys)) → ((¬ ∃ a' b', a ≤ a' ∧ a' < b' ∧ b' < n ∧ mt_rep xs ys a' b') → ∃ n97 : Nat, wY_triangulate_97 psy cp (nI n) st xs ys n97 0) → wY_triangulate_26 psy cp (nI n) st xs ys (d + 1) (nI a) := by
  intro d
  induction d with
  | zero =>
    intro a ha h1 h0
    have e : a = n := by omega
    subst e
    exact br_t (nI_le (Nat.le_refl _) (by omega)) (h0 (fun ⟨a', b', p, q, r, _⟩ => by omega))
  | succ d ih =>
    intro a ha h1 h0
    refine br_f (nI_ge (by omega) (by omega)) (nm_r (nI_1 a) ⟨n - (a + 1) + 1, y_rep_l hn (by omega) _ (a + 1) (by omega) (fun ⟨b', p, q, r⟩ => h1 ⟨a, b', Nat.le_refl _, by omega, q, r⟩) (fun z => ?_)⟩)
    refine ih (a + 1) (by omega) (fun ⟨a', b', p, q, r, s⟩ => h1 ⟨a', b', by omega, q, r, s⟩) (fun y => h0 (fun ⟨a', b', p, q, r, s⟩ => ?_))
    by_cases e : a' = a
    · exact z ⟨b', by omega, r, e ▸ s⟩
    · exact y ⟨a', b', by omega, q, r, s⟩
theorem y_fo_l (hn : n ≤ 32) (hB : ∀ k, k < n → mt_B (mt_p xs ys k)) : ∀ d k, k + d = n → ((∃ k', k ≤ k' ∧ k' < n ∧ mt_fo xs ys n k') → psy 4 (cp, nI n, 2, xs, ys)) → ((¬ ∃ k', k ≤ k' ∧ k' < n ∧ mt_fo xs ys n k') → ∃ n226 : Nat, wY_triangulate_226 psy cp (nI n) st xs ys n226 0) → wY_triangulate_97 psy cp (nI n) st xs ys (d + 1) (nI k) := by
  intro d
  induction d with
  | zero =>
    intro k hk h1 h0
    have e : k = n := by omega
    subst e
    exact br_t (nI_le (Nat.le_refl _) (by omega)) (h0 (fun ⟨k', p, q, _⟩ => by omega))
  | succ d ih =>
    intro k hk h1 h0
    have hkn : k < n := by omega
    have hj := mt_nl hkn
    have hi := mt_pl hkn
    have vk : vp_in (nI k) 32 := vp_in_nI (by omega) (by omega)
    have vj : vp_in (nI (gm_nx 0 (n - 1) k)) 32 := vp_in_nI (by omega) (by omega)
    have vi : vp_in (nI (gm_pv 0 (n - 1) k)) 32 := vp_in_nI (by omega) (by omega)
    have go : ¬ mt_fo xs ys n k → wY_triangulate_97 psy cp (nI n) st xs ys (d + 1) (nI (k + 1)) := by
      intro nr
      refine ih (k + 1) (by omega) (fun ⟨b', p, q, r⟩ => h1 ⟨b', by omega, q, r⟩) (fun z => h0 (fun ⟨b', p, q, r⟩ => ?_))
      by_cases e : b' = k
      · exact nr (e ▸ r)
      · exact z ⟨b', by omega, q, r⟩
    refine br_f (nI_ge (by omega) (by omega)) (y_prv hkn hn (y_nxt hkn hn ⟨vk, vk, vi, vi, vj, vj, y_cross ⟨vk, vk, vi, vi, vj, vj, y_dot ?_⟩⟩))
    rw [nI_clamp (show gm_nx 0 (n - 1) k < 2 ^ 31 by omega), nI_clamp (show k < 2 ^ 31 by omega), nI_clamp (show gm_pv 0 (n - 1) k < 2 ^ 31 by omega)]
    have q1 := mt_eq0 (mt_Os (hB _ hkn) (hB _ hi) (hB _ hj))
    have q2 := mt_le0 (mt_Ds (hB _ hkn) (hB _ hi) (hB _ hj))
    refine br_c (fun e => br_c (fun g => nm_r (nI_1 k) (go (fun r => ?_))) (fun g => h1 ⟨k, Nat.le_refl _, hkn, q1.mp e, ?_⟩)) (fun e => nm_r (nI_1 k) (go (fun r => e (q1.mpr r.1))))
    · have := q2.mp g
      have := r.2
      omega
    · exact Int.not_le.mp (fun z => g (q2.mpr z))
theorem y_me_l {J : Int32 → Prop} {a : Nat} (hn : n ≤ 32) (hB : ∀ k, k < n → mt_B (mt_p xs ys k)) (ha : a < n) : ∀ d b, b + d = n → ((∃ b', b ≤ b' ∧ b' < n ∧ mt_me xs ys n a b') → psy 4 (cp, nI n, 2, xs, ys)) → ((¬ ∃ b', b ≤ b' ∧ b' < n ∧ mt_me xs ys n a b') → J (nI (a + 1))) → wY_triangulate_238 psy J (nI a) cp (nI n) st xs ys (d + 1) (nI b) := by
  intro d
  induction d with
  | zero =>
    intro b hb h1 h0
    have e : b = n := by omega
    subst e
    exact br_t (nI_le (Nat.le_refl _) (by omega)) (nm_r (nI_1 a) (h0 (fun ⟨b', p, q, _⟩ => by omega)))
  | succ d ih =>
    intro b hb h1 h0
    have hbn : b < n := by omega
    have hj := mt_nl hbn
    have hi := mt_nl ha
    have n10 : ¬ (1 : Int32) = 0 := by decide
    have go : ¬ mt_me xs ys n a b → wY_triangulate_238 psy J (nI a) cp (nI n) st xs ys (d + 1) (nI (b + 1)) := by
      intro nr
      refine ih (b + 1) (by omega) (fun ⟨b', p, q, r⟩ => h1 ⟨b', by omega, q, r⟩) (fun z => h0 (fun ⟨b', p, q, r⟩ => ?_))
      by_cases e : b' = b
      · exact nr (e ▸ r)
      · exact z ⟨b', by omega, q, r⟩
    have c1 := nI_eq (a := b) (b := gm_nx 0 (n - 1) a) (by omega) (by omega)
    have c2 := nI_eq (a := a) (b := gm_nx 0 (n - 1) b) (by omega) (by omega)
    have skip : ¬ mt_me xs ys n a b → wY_triangulate_264 psy J (wY_triangulate_238 psy J (nI a) cp (nI n) st xs ys (d + 1)) (nI a) (nI b) cp (nI n) st xs ys := by
      intro nr
      unfold wY_triangulate_264 wY_triangulate_269
      exact br_f n10 (nm_r (nI_1 b) (go nr))
    refine br_f (nI_ge (by omega) (by omega)) (y_nxt ha hn (br_c (fun e => skip (fun r => r.1.1 (c1.mp e))) (fun e => y_nxt hbn hn (br_c (fun e2 => skip (fun r => r.1.2 (c2.mp e2))) (fun e2 => ?_)))))
    unfold wY_triangulate_269
    exact br_t rfl (y_touch ha hbn hn hB (fun m => br_f n10 (h1 ⟨b, Nat.le_refl _, hbn, ⟨fun z => e (c1.mpr z), fun z => e2 (c2.mpr z)⟩, m⟩)) (fun m => br_t rfl (nm_r (nI_1 b) (go (fun r => m r.2)))))
theorem y_me_o (hn : n ≤ 32) (hB : ∀ k, k < n → mt_B (mt_p xs ys k)) : ∀ d a, a + d = n → ((∃ a' b', a ≤ a' ∧ a' < b' ∧ b' < n ∧ mt_me xs ys n a' b') → psy 4 (cp, nI n, 2, xs, ys)) → ((¬ ∃ a' b', a ≤ a' ∧ a' < b' ∧ b' < n ∧ mt_me xs ys n a' b') → psy 0 (cp, nI n, 1, xs, ys)) → wY_triangulate_226 psy cp (nI n) st xs ys (d + 1) (nI a) := by
  intro d
  induction d with
  | zero =>
    intro a ha h1 h0
    have e : a = n := by omega
    subst e
    exact br_t (nI_le (Nat.le_refl _) (by omega)) (h0 (fun ⟨a', b', p, q, r, _⟩ => by omega))
  | succ d ih =>
    intro a ha h1 h0
    refine br_f (nI_ge (by omega) (by omega)) (nm_r (nI_1 a) ⟨n - (a + 1) + 1, y_me_l hn hB (by omega) _ (a + 1) (by omega) (fun ⟨b', p, q, r⟩ => h1 ⟨a, b', Nat.le_refl _, by omega, q, r⟩) (fun z => ?_)⟩)
    refine ih (a + 1) (by omega) (fun ⟨a', b', p, q, r, s⟩ => h1 ⟨a', b', by omega, q, r, s⟩) (fun y => h0 (fun ⟨a', b', p, q, r, s⟩ => ?_))
    by_cases e : a' = a
    · exact z ⟨b', by omega, r, e ▸ s⟩
    · exact y ⟨a', b', by omega, q, r, s⟩
/-- the reference's triangulate, from three corners on -/
theorem y_judge (hn : n ≤ 32) (hB : ∀ k, k < n → mt_B (mt_p xs ys k)) (h3 : (∃ a b, a < b ∧ b < n ∧ mt_rep xs ys a b) → psy 3 (cp, nI n, 2, xs, ys)) (h4 : (¬ ∃ a b, a < b ∧ b < n ∧ mt_rep xs ys a b) → ((∃ k, k < n ∧ mt_fo xs ys n k) ∨ (∃ a b, a < b ∧ b < n ∧ mt_me xs ys n a b)) → psy 4 (cp, nI n, 2, xs, ys)) (h0 : (¬ ∃ a b, a < b ∧ b < n ∧ mt_rep xs ys a b) → (¬ ∃ k, k < n ∧ mt_fo xs ys n k) → (¬ ∃ a b, a < b ∧ b < n ∧ mt_me xs ys n a b) → psy 0 (cp, nI n, 1, xs, ys)) : ∃ n26 : Nat, wY_triangulate_26 psy cp (nI n) st xs ys n26 0 := by
  refine ⟨n + 1, y_rep_o hn n 0 (by omega) (fun ⟨a, b, _, q, r, s⟩ => h3 ⟨a, b, q, r, s⟩) (fun z1 => ?_)⟩
  have nr : ¬ ∃ a b, a < b ∧ b < n ∧ mt_rep xs ys a b := fun ⟨a, b, q, r, s⟩ => z1 ⟨a, b, Nat.zero_le _, q, r, s⟩
  refine ⟨n + 1, y_fo_l hn hB n 0 (by omega) (fun ⟨k, _, q, r⟩ => h4 nr (Or.inl ⟨k, q, r⟩)) (fun z2 => ?_)⟩
  have nf : ¬ ∃ k, k < n ∧ mt_fo xs ys n k := fun ⟨k, q, r⟩ => z2 ⟨k, Nat.zero_le _, q, r⟩
  exact ⟨n + 1, y_me_o hn hB n 0 (by omega) (fun ⟨a, b, _, q, r, s⟩ => h4 nr (Or.inr ⟨a, b, q, r, s⟩)) (fun z3 => h0 nr nf (fun ⟨a, b, q, r, s⟩ => z3 ⟨a, b, Nat.zero_le _, q, r, s⟩))⟩
/-! kinds -/
theorem y_kind {k : Nat} (hk : k < n) (hn : n ≤ 32) (h : post (mt_kind xs ys n k)) : wpY_kindOf post (cp, nI n, st, xs, ys) (nI k) := by
  have hp := mt_pl hk
  have hq := mt_nl hk
  have vk : vp_in (nI k) 32 := vp_in_nI (by omega) (by omega)
  have vp : vp_in (nI (gm_pv 0 (n - 1) k)) 32 := vp_in_nI (by omega) (by omega)
  have vq : vp_in (nI (gm_nx 0 (n - 1) k)) 32 := vp_in_nI (by omega) (by omega)
  have ck := nI_clamp (show k < 2 ^ 31 by omega)
  have c1 := nI_clamp (show gm_pv 0 (n - 1) k < 2 ^ 31 by omega)
  have c2 := nI_clamp (show gm_nx 0 (n - 1) k < 2 ^ 31 by omega)
  have n10 : ¬ (1 : Int32) = 0 := by decide
  have t104 : ¬ ((ys (gm_pv 0 (n - 1) k) < ys k ∨ (ys (gm_pv 0 (n - 1) k) = ys k ∧ ¬ xs (gm_pv 0 (n - 1) k) ≤ xs k)) ∧ (ys (gm_nx 0 (n - 1) k) < ys k ∨ (ys (gm_nx 0 (n - 1) k) = ys k ∧ ¬ xs (gm_nx 0 (n - 1) k) ≤ xs k))) → wY_kindOf_104 post (nI k) (nI (gm_pv 0 (n - 1) k)) (nI (gm_nx 0 (n - 1) k)) (mt_cv xs ys n k) cp (nI n) st xs ys := by
    intro hb
    unfold wY_kindOf_104
    unfold mt_kind at h
    rw [if_neg hb] at h
    refine y_below hk hp hn (fun b1 => br_f n10 (y_below hk hq hn (fun b2 => br_f n10 ?_) (fun b2 => br_t rfl ?_))) (fun b1 => br_t rfl ?_)
    · rw [if_pos ⟨b1, b2⟩] at h
      refine br_c (fun z => ?_) (fun z => ?_)
      · rw [if_pos z] at h; exact h
      · rw [if_neg z] at h; exact h
    · rw [if_neg (fun z => b2 z.2)] at h; exact h
    · rw [if_neg (fun z => b1 z.1)] at h; exact h
  have t28 : wY_kindOf_28 post (nI k) (nI (gm_pv 0 (n - 1) k)) (nI (gm_nx 0 (n - 1) k)) (mt_sgn xs ys n) cp (nI n) st xs ys := by
    unfold wY_kindOf_28
    rw [ck, c1, c2]
    refine ⟨vp, vp, vk, vk, vq, vq, y_cross (nm_r (show _ = mt_cv xs ys n k from rfl) ?_)⟩
    refine y_below hp hk hn (fun b1 => br_f n10 (y_below hq hk hn (fun b2 => br_f n10 ?_) (fun b2 => br_t rfl (t104 (fun z => b2 z.2))))) (fun b1 => br_t rfl (t104 (fun z => b1 z.1)))
    unfold mt_kind at h
    rw [if_pos ⟨b1, b2⟩] at h
    refine br_c (fun z => ?_) (fun z => ?_)
    · rw [if_pos z] at h; exact h
    · rw [if_neg z] at h; exact h
  unfold wpY_kindOf
  dsimp only
  refine y_prv hk hn (y_nxt hk hn (y_area hn (br_c (fun a => ?_) (fun a => ?_))))
  · unfold mt_sgn at t28
    rw [if_pos a] at t28
    exact t28
  · unfold mt_sgn at t28
    rw [if_neg a] at t28
    exact t28
end
