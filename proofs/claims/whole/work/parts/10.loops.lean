/-! the loops of the judging: both texts by the same pure conditions -/
def mt_A (xs ys : Nat → Int32) (n k : Nat) : Int := gm_sum (fun i => gm_ar (mt_p xs ys i) (mt_p xs ys (gm_nx 0 (n - 1) i))) 0 k
def mt_rep (xs ys : Nat → Int32) (a b : Nat) : Prop := xs a = xs b ∧ ys a = ys b
def mt_fo (xs ys : Nat → Int32) (n k : Nat) : Prop := gm_O (mt_p xs ys k) (mt_p xs ys (gm_pv 0 (n - 1) k)) (mt_p xs ys (gm_nx 0 (n - 1) k)) = 0 ∧ 0 < gm_D (mt_p xs ys k) (mt_p xs ys (gm_pv 0 (n - 1) k)) (mt_p xs ys (gm_nx 0 (n - 1) k))
def mt_me (xs ys : Nat → Int32) (n a b : Nat) : Prop := (b ≠ gm_nx 0 (n - 1) a ∧ a ≠ gm_nx 0 (n - 1) b) ∧ gm_meet (mt_p xs ys a) (mt_p xs ys (gm_nx 0 (n - 1) a)) (mt_p xs ys b) (mt_p xs ys (gm_nx 0 (n - 1) b))
theorem mt_nl {n k : Nat} (h : k < n) : gm_nx 0 (n - 1) k < n := by unfold gm_nx; split <;> omega
theorem mt_pl {n k : Nat} (h : k < n) : gm_pv 0 (n - 1) k < n := by unfold gm_pv; split <;> omega
theorem mt_As (xs ys : Nat → Int32) (n k : Nat) : mt_c (mt_A xs ys n k) + (xs k * ys (gm_nx 0 (n - 1) k) - xs (gm_nx 0 (n - 1) k) * ys k) = mt_c (mt_A xs ys n (k + 1)) := by
  simp only [mt_A, gm_sum, gm_ar, mt_p, Nat.zero_add, ← mt_add, ← mt_sub, ← mt_mul, mt_cT]
section
variable {cp st tr : Int32} {xs ys kd fc mc lc rg : Nat → Int32} {n : Nat} {post : Int32 → Prop}
theorem x_area_l (hn : n ≤ 32) (h : post (mt_c (mt_A xs ys n n))) : ∀ d k, k + d = n → wX_area2_4 post cp st (nI n) tr xs ys kd fc mc lc rg (d + 1) (mt_c (mt_A xs ys n k)) (nI k) := by
  intro d
  induction d with
  | zero =>
    intro k hk
    have e : k = n := by omega
    rw [e]
    exact br_t (nI_le (Nat.le_refl n) (by omega)) h
  | succ d ih =>
    intro k hk
    have vk : vp_in (nI k) 32 := vp_in_nI (by omega) (by omega)
    have hj := mt_nl (show k < n by omega)
    have vj : vp_in (nI (gm_nx 0 (n - 1) k)) 32 := vp_in_nI (by omega) (by omega)
    refine br_f (nI_ge (by omega) (by omega)) (x_next (by omega) hn ⟨vk, vj, vj, vk, nm_r ?_ (nm_r (nI_1 k) (ih (k + 1) (by omega)))⟩)
    rw [nI_clamp (show k < 2 ^ 31 by omega), nI_clamp (show gm_nx 0 (n - 1) k < 2 ^ 31 by omega), mt_As]
theorem x_area (hn : n ≤ 32) (h : post (mt_c (mt_A xs ys n n))) : wpX_area2 post (cp, st, nI n, tr, xs, ys, kd, fc, mc, lc, rg) := by
  have k := x_area_l (cp := cp) (st := st) (tr := tr) (kd := kd) (fc := fc) (mc := mc) (lc := lc) (rg := rg) hn h n 0 (by omega)
  have e : mt_c (mt_A xs ys n 0) = 0 := mt_0.symm
  rw [e, nI_0] at k
  exact ⟨n + 1, k⟩
theorem y_area_l (hn : n ≤ 32) (h : post (mt_c (mt_A xs ys n n))) : ∀ d k, k + d = n → wY_area2_4 post cp (nI n) st xs ys (d + 1) (mt_c (mt_A xs ys n k)) (nI k) := by
  intro d
  induction d with
  | zero =>
    intro k hk
    have e : k = n := by omega
    rw [e]
    exact br_t (nI_le (Nat.le_refl n) (by omega)) h
  | succ d ih =>
    intro k hk
    have vk : vp_in (nI k) 32 := vp_in_nI (by omega) (by omega)
    have hj := mt_nl (show k < n by omega)
    have vj : vp_in (nI (gm_nx 0 (n - 1) k)) 32 := vp_in_nI (by omega) (by omega)
    refine br_f (nI_ge (by omega) (by omega)) (y_nxt (by omega) hn ⟨vk, vj, vj, vk, nm_r ?_ (nm_r (nI_1 k) (ih (k + 1) (by omega)))⟩)
    rw [nI_clamp (show k < 2 ^ 31 by omega), nI_clamp (show gm_nx 0 (n - 1) k < 2 ^ 31 by omega), mt_As]
theorem y_area (hn : n ≤ 32) (h : post (mt_c (mt_A xs ys n n))) : wpY_area2 post (cp, nI n, st, xs, ys) := by
  have k := y_area_l (cp := cp) (st := st) hn h n 0 (by omega)
  have e : mt_c (mt_A xs ys n 0) = 0 := mt_0.symm
  rw [e, nI_0] at k
  exact ⟨n + 1, k⟩
/-! repeated corners -/
theorem x_rep_l {J2 : Int32 → Prop} {a : Nat} (hn : n ≤ 32) (ha : a < n) : ∀ d b, b + d = n → ((∃ b', b ≤ b' ∧ b' < n ∧ mt_rep xs ys a b') → post 1) → ((¬ ∃ b', b ≤ b' ∧ b' < n ∧ mt_rep xs ys a b') → J2 (nI (a + 1))) → wX_hasRepeatedCorner_14 post J2 (nI a) cp st (nI n) tr xs ys kd fc mc lc rg (d + 1) (nI b) := by
  intro d
  induction d with
  | zero =>
    intro b hb h1 h0
    have e : b = n := by omega
    subst e
    exact br_t (nI_le (Nat.le_refl _) (by omega)) (nm_r (nI_1 a) (h0 (fun ⟨b', p, q, _⟩ => by omega)))
  | succ d ih =>
    intro b hb h1 h0
    have va : vp_in (nI a) 32 := vp_in_nI (by omega) (by omega)
    have vb : vp_in (nI b) 32 := vp_in_nI (by omega) (by omega)
    have ca := nI_clamp (show a < 2 ^ 31 by omega)
    have cb := nI_clamp (show b < 2 ^ 31 by omega)
    have go : ¬ mt_rep xs ys a b → wX_hasRepeatedCorner_14 post J2 (nI a) cp st (nI n) tr xs ys kd fc mc lc rg (d + 1) (nI (b + 1)) := by
      intro nr
      refine ih (b + 1) (by omega) (fun ⟨b', p, q, r⟩ => h1 ⟨b', by omega, q, r⟩) (fun z => h0 (fun ⟨b', p, q, r⟩ => ?_))
      by_cases e : b' = b
      · exact nr (e ▸ r)
      · exact z ⟨b', by omega, q, r⟩
    refine br_f (nI_ge (by omega) (by omega)) ⟨va, vb, br_c (fun e => ⟨va, vb, br_c (fun e2 => h1 ⟨b, Nat.le_refl _, by omega, ?_⟩) (fun e2 => nm_r (nI_1 b) (go (fun r => e2 ?_)))⟩) (fun e => nm_r (nI_1 b) (go (fun r => e ?_)))⟩
    · rw [ca, cb] at e e2; exact ⟨e, e2⟩
    · rw [ca, cb]; exact r.2
    · rw [ca, cb]; exact r.1
theorem x_rep_o (hn : n ≤ 32) : ∀ d a, a + d = n → ((∃ a' b', a ≤ a' ∧ a' < b' ∧ b' < n ∧ mt_rep xs ys a' b') → post 1) → ((¬ ∃ a' b', a ≤ a' ∧ a' < b' ∧ b' < n ∧ mt_rep xs ys a' b') → post 0) → wX_hasRepeatedCorner_2 post cp st (nI n) tr xs ys kd fc mc lc rg (d + 1) (nI a) := by
  intro d
  induction d with
  | zero =>
    intro a ha h1 h0
    have e : a = n := by omega
    subst e
    exact br_t (nI_le (Nat.le_refl _) (by omega)) (h0 (fun ⟨a', b', p, q, r, _⟩ => by omega))
  | succ d ih =>
    intro a ha h1 h0
    refine br_f (nI_ge (by omega) (by omega)) (nm_r (nI_1 a) ⟨n - (a + 1) + 1, x_rep_l hn (by omega) _ (a + 1) (by omega) (fun ⟨b', p, q, r⟩ => h1 ⟨a, b', Nat.le_refl _, by omega, q, r⟩) (fun z => ?_)⟩)
    refine ih (a + 1) (by omega) (fun ⟨a', b', p, q, r, s⟩ => h1 ⟨a', b', by omega, q, r, s⟩) (fun y => h0 (fun ⟨a', b', p, q, r, s⟩ => ?_))
    by_cases e : a' = a
    · exact z ⟨b', by omega, r, e ▸ s⟩
    · exact y ⟨a', b', by omega, q, r, s⟩
theorem x_rep (hn : n ≤ 32) (h1 : (∃ a b, a < b ∧ b < n ∧ mt_rep xs ys a b) → post 1) (h0 : (¬ ∃ a b, a < b ∧ b < n ∧ mt_rep xs ys a b) → post 0) : wpX_hasRepeatedCorner post (cp, st, nI n, tr, xs, ys, kd, fc, mc, lc, rg) :=
  ⟨n + 1, x_rep_o hn n 0 (by omega) (fun ⟨a, b, _, q, r, s⟩ => h1 ⟨a, b, q, r, s⟩) (fun z => h0 (fun ⟨a, b, q, r, s⟩ => z ⟨a, b, Nat.zero_le _, q, r, s⟩))⟩
/-! folded corners -/
theorem x_fo_l (hn : n ≤ 32) (hB : ∀ k, k < n → mt_B (mt_p xs ys k)) : ∀ d k, k + d = n → ((∃ k', k ≤ k' ∧ k' < n ∧ mt_fo xs ys n k') → post 1) → ((¬ ∃ k', k ≤ k' ∧ k' < n ∧ mt_fo xs ys n k') → post 0) → wX_hasFoldedCorner_2 post cp st (nI n) tr xs ys kd fc mc lc rg (d + 1) (nI k) := by
  intro d
  induction d with
  | zero =>
    intro k hk h1 h0
    have e : k = n := by omega
    subst e
    exact br_t (nI_le (Nat.le_refl _) (by omega)) (h0 (fun ⟨k', p, q, _⟩ => by omega))
  | succ d ih =>
    intro k hk h1 h0
    have hkn : k < n := by omega
    have vk : vp_in (nI k) 32 := vp_in_nI (by omega) (by omega)
    have hj := mt_nl hkn
    have hi := mt_pl hkn
    have vj : vp_in (nI (gm_nx 0 (n - 1) k)) 32 := vp_in_nI (by omega) (by omega)
    have go : ¬ mt_fo xs ys n k → wX_hasFoldedCorner_2 post cp st (nI n) tr xs ys kd fc mc lc rg (d + 1) (nI (k + 1)) := by
      intro nr
      refine ih (k + 1) (by omega) (fun ⟨b', p, q, r⟩ => h1 ⟨b', by omega, q, r⟩) (fun z => h0 (fun ⟨b', p, q, r⟩ => ?_))
      by_cases e : b' = k
      · exact nr (e ▸ r)
      · exact z ⟨b', by omega, q, r⟩
    refine br_f (nI_ge (by omega) (by omega)) (x_prev hkn hn (x_next hkn hn ⟨vj, vj, x_cross hkn hi hn ?_⟩))
    rw [nI_clamp (show gm_nx 0 (n - 1) k < 2 ^ 31 by omega), nI_clamp (show k < 2 ^ 31 by omega)]
    refine br_c (fun e => ⟨vk, vk, x_dot hi hj hn ?_⟩) (fun e => nm_r (nI_1 k) (go (fun r => e ((mt_eq0 (mt_Os (hB _ hkn) (hB _ hi) (hB _ hj))).mpr r.1))))
    have e' := (mt_eq0 (mt_Os (hB _ hkn) (hB _ hi) (hB _ hj))).mp e
    have dd := mt_le0 (mt_Ds (hB _ hkn) (hB _ hi) (hB _ hj))
    refine br_c (fun g => nm_r (nI_1 k) (go (fun r => ?_))) (fun g => h1 ⟨k, Nat.le_refl _, hkn, e', ?_⟩)
    · have := dd.mp g
      have := r.2
      omega
    · exact Int.not_le.mp (fun z => g (dd.mpr z))
theorem x_fo (hn : n ≤ 32) (hB : ∀ k, k < n → mt_B (mt_p xs ys k)) (h1 : (∃ k, k < n ∧ mt_fo xs ys n k) → post 1) (h0 : (¬ ∃ k, k < n ∧ mt_fo xs ys n k) → post 0) : wpX_hasFoldedCorner post (cp, st, nI n, tr, xs, ys, kd, fc, mc, lc, rg) :=
  ⟨n + 1, x_fo_l hn hB n 0 (by omega) (fun ⟨k, _, q, r⟩ => h1 ⟨k, q, r⟩) (fun z => h0 (fun ⟨k, q, r⟩ => z ⟨k, Nat.zero_le _, q, r⟩))⟩
/-! meeting edges -/
theorem x_me_l {J2 : Int32 → Prop} {a : Nat} (hn : n ≤ 32) (hB : ∀ k, k < n → mt_B (mt_p xs ys k)) (ha : a < n) : ∀ d b, b + d = n → ((∃ b', b ≤ b' ∧ b' < n ∧ mt_me xs ys n a b') → post 1) → ((¬ ∃ b', b ≤ b' ∧ b' < n ∧ mt_me xs ys n a b') → J2 (nI (a + 1))) → wX_hasMeetingEdges_20 post J2 (nI a) (nI (gm_nx 0 (n - 1) a)) cp st (nI n) tr xs ys kd fc mc lc rg (d + 1) (nI b) := by
  intro d
  induction d with
  | zero =>
    intro b hb h1 h0
    have e : b = n := by omega
    subst e
    exact br_t (nI_le (Nat.le_refl _) (by omega)) (nm_r (nI_1 a) (h0 (fun ⟨b', p, q, _⟩ => by omega)))
  | succ d ih =>
    intro b hb h1 h0
    have hbn : b < n := by omega
    have hj := mt_nl hbn
    have hi := mt_nl ha
    have n10 : ¬ (1 : Int32) = 0 := by decide
    have go : ¬ mt_me xs ys n a b → wX_hasMeetingEdges_20 post J2 (nI a) (nI (gm_nx 0 (n - 1) a)) cp st (nI n) tr xs ys kd fc mc lc rg (d + 1) (nI (b + 1)) := by
      intro nr
      refine ih (b + 1) (by omega) (fun ⟨b', p, q, r⟩ => h1 ⟨b', by omega, q, r⟩) (fun z => h0 (fun ⟨b', p, q, r⟩ => ?_))
      by_cases e : b' = b
      · exact nr (e ▸ r)
      · exact z ⟨b', by omega, q, r⟩
    refine br_f (nI_ge (by omega) (by omega)) (x_next hbn hn ?_)
    have c1 := nI_eq (a := b) (b := gm_nx 0 (n - 1) a) (by omega) (by omega)
    have c2 := nI_eq (a := a) (b := gm_nx 0 (n - 1) b) (by omega) (by omega)
    refine br_c (fun e => nm_r (nI_1 b) (go (fun r => r.1.1 (c1.mp e)))) (fun e => br_c (fun e2 => nm_r (nI_1 b) (go (fun r => r.1.2 (c2.mp e2)))) (fun e2 => ?_))
    exact x_meet ha hi hbn hj hn hB (fun m => br_f n10 (h1 ⟨b, Nat.le_refl _, hbn, ⟨fun z => e (c1.mpr z), fun z => e2 (c2.mpr z)⟩, m⟩)) (fun m => br_t rfl (nm_r (nI_1 b) (go (fun r => m r.2))))
theorem x_me_o (hn : n ≤ 32) (hB : ∀ k, k < n → mt_B (mt_p xs ys k)) : ∀ d a, a + d = n → ((∃ a' b', a ≤ a' ∧ a' < b' ∧ b' < n ∧ mt_me xs ys n a' b') → post 1) → ((¬ ∃ a' b', a ≤ a' ∧ a' < b' ∧ b' < n ∧ mt_me xs ys n a' b') → post 0) → wX_hasMeetingEdges_2 post cp st (nI n) tr xs ys kd fc mc lc rg (d + 1) (nI a) := by
  intro d
  induction d with
  | zero =>
    intro a ha h1 h0
    have e : a = n := by omega
    subst e
    exact br_t (nI_le (Nat.le_refl _) (by omega)) (h0 (fun ⟨a', b', p, q, r, _⟩ => by omega))
  | succ d ih =>
    intro a ha h1 h0
    refine br_f (nI_ge (by omega) (by omega)) (x_next (by omega) hn (nm_r (nI_1 a) ⟨n - (a + 1) + 1, x_me_l hn hB (by omega) _ (a + 1) (by omega) (fun ⟨b', p, q, r⟩ => h1 ⟨a, b', Nat.le_refl _, by omega, q, r⟩) (fun z => ?_)⟩))
    refine ih (a + 1) (by omega) (fun ⟨a', b', p, q, r, s⟩ => h1 ⟨a', b', by omega, q, r, s⟩) (fun y => h0 (fun ⟨a', b', p, q, r, s⟩ => ?_))
    by_cases e : a' = a
    · exact z ⟨b', by omega, r, e ▸ s⟩
    · exact y ⟨a', b', by omega, q, r, s⟩
theorem x_me (hn : n ≤ 32) (hB : ∀ k, k < n → mt_B (mt_p xs ys k)) (h1 : (∃ a b, a < b ∧ b < n ∧ mt_me xs ys n a b) → post 1) (h0 : (¬ ∃ a b, a < b ∧ b < n ∧ mt_me xs ys n a b) → post 0) : wpX_hasMeetingEdges post (cp, st, nI n, tr, xs, ys, kd, fc, mc, lc, rg) :=
  ⟨n + 1, x_me_o hn hB n 0 (by omega) (fun ⟨a, b, _, q, r, s⟩ => h1 ⟨a, b, q, r, s⟩) (fun z => h0 (fun ⟨a, b, q, r, s⟩ => z ⟨a, b, Nat.zero_le _, q, r, s⟩))⟩
end
