/-! the relation, and the calls one by one -/
def mt_R (xs ys kd fc mc lc : Nat → Int32) (n : Nat) (tr : Int32) : Prop :=
  3 ≤ n ∧ gm_simp (mt_p xs ys) 0 (n - 1) ∧ (∀ j, j < n → kd j = mt_kind xs ys n j) ∧ ∃ m, tr = nI m ∧ m + 2 = n ∧ mt_V n fc mc lc m ∧ mt_T (mt_p xs ys) fc mc lc m = mt_ab (gm_cy gm_ar (mt_p xs ys) 0 (n - 1))
/-- the same corners, state and capacity; in STATE_READY the corners are simple, the kinds are those of the corners, and the triangles' areas add up -/
def i_Rel (_ : Nat) (u : SX) (v : SY) : Prop :=
  ∃ (c n : Nat) (st tr : Int32) (xs ys kd fc mc lc rg : Nat → Int32), u = (nI c, st, nI n, tr, xs, ys, kd, fc, mc, lc, rg) ∧ v = (nI c, nI n, st, xs, ys) ∧ 4 ≤ c ∧ c ≤ 32 ∧ n ≤ c ∧ (∀ k, k < n → mt_B (mt_p xs ys k)) ∧ (st = 1 → mt_R xs ys kd fc mc lc n tr)
theorem i_up {k : Nat} {u : SX} {v : SY} (h : i_Rel k u v) : i_Rel (k + 3) u v := h
theorem mt_n01 : ¬ (0 : Int32) = 1 := by decide
theorem mt_n10 : ¬ (1 : Int32) = 0 := by decide
theorem mt_n21 : ¬ (2 : Int32) = 1 := by decide
theorem mt_mk0 {k c n : Nat} {st tr : Int32} {xs ys kd fc mc lc rg : Nat → Int32} (h1 : 4 ≤ c) (h2 : c ≤ 32) (h3 : n ≤ c) (hB : ∀ k, k < n → mt_B (mt_p xs ys k)) (h : ¬ st = 1) : i_Rel k (nI c, st, nI n, tr, xs, ys, kd, fc, mc, lc, rg) (nI c, nI n, st, xs, ys) :=
  ⟨c, n, st, tr, xs, ys, kd, fc, mc, lc, rg, rfl, rfl, h1, h2, h3, hB, fun z => absurd z h⟩
theorem i_vc0 (k0 : Int32) : wpX_init (fun u => wpY_init (fun v => i_Rel 1 u v) k0) k0 := by
  have B0 : ∀ k, k < 0 → mt_B (mt_p (fun _ => 0) (fun _ => 0) k) := fun k h => absurd h (Nat.not_lt_zero k)
  by_cases h4 : (4 : Int32) ≤ k0
  · by_cases h32 : k0 ≤ 32
    · obtain ⟨j, hj, rfl⟩ := nI_of2 (x := k0) (M := 32) (n := 32) (by decide) (Int32.not_lt.mpr (Int32.le_trans (by decide) h4)) h32
      have h4' : 4 ≤ j := (nI_leI (a := 4) (b := j) (by omega) (by omega)).mp h4
      exact br_t h4 (br_t h32 (br_t h4 (br_t h32 (mt_mk0 (k := 1) (n := 0) h4' hj (by omega) B0 mt_n01))))
    · exact br_t h4 (br_f h32 (br_t h4 (br_f h32 (mt_mk0 (k := 1) (c := 32) (n := 0) (by omega) (by omega) (by omega) B0 mt_n01))))
  · exact br_f h4 (br_f h4 (br_t (by decide) (mt_mk0 (k := 1) (c := 4) (n := 0) (by omega) (by omega) (by omega) B0 mt_n01)))
theorem mt_bnd {a b : Prop} {p q : Int32} (h1 : mt_B (p.toInt, q.toInt) → b) (h0 : ¬ mt_B (p.toInt, q.toInt) → a) : ((p < (-1000) → a) ∧ (¬ p < (-1000) → ((1000 < p → a) ∧ (¬ 1000 < p → ((q < (-1000) → a) ∧ (¬ q < (-1000) → ((q ≤ 1000 → b) ∧ (¬ q ≤ 1000 → a)))))))) := by
  have e1 : (-1000 : Int32).toInt = -1000 := by decide
  have e2 : (1000 : Int32).toInt = 1000 := by decide
  unfold mt_B at h1 h0
  dsimp only at h1 h0
  rw [Int32.lt_iff_toInt_lt, Int32.lt_iff_toInt_lt, Int32.lt_iff_toInt_lt, Int32.le_iff_toInt_le, e1, e2]
  exact br_c (fun x => h0 (by omega)) (fun x => br_c (fun y => h0 (by omega)) (fun y => br_c (fun z => h0 (by omega)) (fun z => br_c (fun w => h1 (by omega)) (fun w => h0 (by omega)))))
section
variable {cp st tr : Int32} {xs ys kd fc mc lc rg : Nat → Int32} {n : Nat} {post : Int32 → Prop}
theorem x_inb {p q : Int32} (h1 : mt_B (p.toInt, q.toInt) → post 1) (h0 : ¬ mt_B (p.toInt, q.toInt) → post 0) : wpX_inBounds post (cp, st, nI n, tr, xs, ys, kd, fc, mc, lc, rg) p q := by
  unfold wpX_inBounds
  dsimp only
  have e1 : (-1000 : Int32).toInt = -1000 := by decide
  have e2 : (1000 : Int32).toInt = 1000 := by decide
  unfold mt_B at h1 h0
  dsimp only at h1 h0
  rw [Int32.lt_iff_toInt_lt, Int32.lt_iff_toInt_lt, Int32.lt_iff_toInt_lt, Int32.lt_iff_toInt_lt, e1, e2]
  exact br_c (fun x => h0 (by omega)) (fun x => br_c (fun y => h0 (by omega)) (fun y => br_c (fun z => h0 (by omega)) (fun z => br_c (fun w => h0 (by omega)) (fun w => h1 (by omega)))))
theorem mt_ix (p : Int32) (hn : n ≤ 32) : p < 0 ∨ (¬ p < 0 ∧ nI n ≤ p) ∨ ∃ j : Nat, j < n ∧ p = nI j := by
  by_cases h : p < 0
  · exact Or.inl h
  · obtain ⟨j, hj, rfl⟩ := nI_of h
    by_cases h2 : j < n
    · exact Or.inr (Or.inr ⟨j, h2, rfl⟩)
    · exact Or.inr (Or.inl ⟨h, nI_le (by omega) hj⟩)
theorem x_idx1 {j : Nat} (hj : j < n) (hn : n ≤ 32) (h : post 1) : wpX_isIndex post (cp, st, nI n, tr, xs, ys, kd, fc, mc, lc, rg) (nI j) := by
  unfold wpX_isIndex
  exact br_f (nI_pos (by omega)) (br_f (nI_ge hj (by omega)) h)
theorem x_idx0 {p : Int32} (hp : p < 0 ∨ (¬ p < 0 ∧ nI n ≤ p)) (h : post 0) : wpX_isIndex post (cp, st, nI n, tr, xs, ys, kd, fc, mc, lc, rg) p := by
  unfold wpX_isIndex
  rcases hp with hp | ⟨h0, hp⟩
  · exact br_t hp h
  · exact br_f h0 (br_t hp h)
end
theorem i_vc_addVertex {k : Nat} {u : SX} {v : SY} (I : i_Rel k u v) (hk : k + 3 ≤ 1537) (v1 : Int32) (v2 : Int32) : wpX_addVertex (fun r u' => wpY_addVertex (fun r' v' => r' = r ∧ i_Rel (k + 3) u' v') v v1 v2) u v1 v2 := by
  obtain ⟨c, n, st, tr, xs, ys, kd, fc, mc, lc, rg, rfl, rfl, h4, h32, hnc, hB, hR⟩ := I
  have J : i_Rel (k + 3) (nI c, st, nI n, tr, xs, ys, kd, fc, mc, lc, rg) (nI c, nI n, st, xs, ys) := ⟨c, n, st, tr, xs, ys, kd, fc, mc, lc, rg, rfl, rfl, h4, h32, hnc, hB, hR⟩
  unfold wpX_addVertex wpY_addVertex
  dsimp only
  by_cases hs : st = 0
  · refine br_t hs ?_
    by_cases hc : c ≤ n
    · exact br_t (nI_le hc (by omega)) (br_t hs (br_t (by rw [show n = c by omega]) ⟨rfl, J⟩))
    · have hne : ¬ nI n = nI c := fun z => by have := (nI_eq (a := n) (b := c) (by omega) (by omega)).mp z; omega
      have vn : vp_in (nI n) 32 := vp_in_nI (by omega) (by omega)
      have cn := nI_clamp (show n < 2 ^ 31 by omega)
      refine br_f (nI_ge (by omega) (by omega)) (x_inb (fun hb => br_f mt_n10 ?_) (fun hb => br_t rfl (br_t hs (br_f hne (mt_bnd (fun z => absurd z hb) (fun _ => ⟨rfl, J⟩))))))
      rw [cn]
      refine ⟨vn, nm_e ⟨vn, nm_e (nm_r (nI_1 n) (br_t hs (br_f hne (mt_bnd (fun _ => ⟨vn, nm_e ⟨vn, nm_e (nm_r (nI_1 n) ⟨nI_pred n, ?_⟩)⟩⟩) (fun z => absurd hb z)))))⟩⟩
      refine ⟨c, n + 1, st, tr, upd xs n v1, upd ys n v2, kd, fc, mc, lc, rg, rfl, rfl, h4, h32, by omega, fun j hj => ?_, fun z => absurd (hs.symm.trans z) mt_n01⟩
      unfold mt_p
      by_cases e : j = n
      · rw [e, mt_us, mt_us]; exact hb
      · rw [mt_un e, mt_un e]; exact hB j (by omega)
  · exact br_f hs (br_f hs ⟨rfl, J⟩)
theorem i_vc_removeLast {k : Nat} {u : SX} {v : SY} (I : i_Rel k u v) (hk : k + 3 ≤ 1537) : wpX_removeLast (fun r u' => wpY_removeLast (fun r' v' => r' = r ∧ i_Rel (k + 3) u' v') v) u := by
  obtain ⟨c, n, st, tr, xs, ys, kd, fc, mc, lc, rg, rfl, rfl, h4, h32, hnc, hB, hR⟩ := I
  have J : i_Rel (k + 3) (nI c, st, nI n, tr, xs, ys, kd, fc, mc, lc, rg) (nI c, nI n, st, xs, ys) := ⟨c, n, st, tr, xs, ys, kd, fc, mc, lc, rg, rfl, rfl, h4, h32, hnc, hB, hR⟩
  unfold wpX_removeLast wpY_removeLast
  dsimp only
  by_cases hs : st = 0
  · by_cases h0 : n = 0
    · have e : nI n = 0 := by rw [h0, nI_0]
      exact br_t hs (br_t e (br_t hs (br_t e ⟨rfl, J⟩)))
    · have e : ¬ nI n = 0 := nI_ne0 (by omega) (by omega)
      exact br_t hs (br_f e (nm_r (mt_dec (by omega)) (br_t hs (br_f e (nm_r (mt_dec (by omega)) ⟨rfl, mt_mk0 h4 h32 (by omega) (fun j hj => hB j (by omega)) (fun z => absurd (hs.symm.trans z) mt_n01)⟩)))))
  · exact br_f hs (br_f hs ⟨rfl, J⟩)
theorem i_vc_reset {k : Nat} {u : SX} {v : SY} (I : i_Rel k u v) (hk : k + 3 ≤ 1537) : wpX_reset (fun u' => wpY_reset (fun v' => i_Rel (k + 3) u' v') v) u := by
  obtain ⟨c, n, st, tr, xs, ys, kd, fc, mc, lc, rg, rfl, rfl, h4, h32, hnc, hB, hR⟩ := I
  exact mt_mk0 (k := k + 3) (n := 0) h4 h32 (by omega) (fun j hj => absurd hj (Nat.not_lt_zero j)) mt_n01
theorem i_vc_reopen {k : Nat} {u : SX} {v : SY} (I : i_Rel k u v) (hk : k + 3 ≤ 1537) : wpX_reopen (fun r u' => wpY_reopen (fun r' v' => r' = r ∧ i_Rel (k + 3) u' v') v) u := by
  obtain ⟨c, n, st, tr, xs, ys, kd, fc, mc, lc, rg, rfl, rfl, h4, h32, hnc, hB, hR⟩ := I
  have J : i_Rel (k + 3) (nI c, st, nI n, tr, xs, ys, kd, fc, mc, lc, rg) (nI c, nI n, st, xs, ys) := ⟨c, n, st, tr, xs, ys, kd, fc, mc, lc, rg, rfl, rfl, h4, h32, hnc, hB, hR⟩
  unfold wpX_reopen wpY_reopen
  dsimp only
  by_cases hs : st = 0
  · exact br_t hs (br_t hs ⟨rfl, J⟩)
  · exact br_f hs (br_f hs ⟨rfl, mt_mk0 h4 h32 hnc hB mt_n01⟩)
theorem i_vc_status {k : Nat} {u : SX} {v : SY} (I : i_Rel k u v) (hk : k + 3 ≤ 1537) : wpX_status (fun r => wpY_status (fun r' => r' = r ∧ i_Rel (k + 3) u v) v) u := by
  have J := I
  obtain ⟨c, n, st, tr, xs, ys, kd, fc, mc, lc, rg, rfl, rfl, h4, h32, hnc, hB, hR⟩ := I
  unfold wpX_status wpY_status
  exact ⟨rfl, J⟩
theorem i_vc_vertexCount {k : Nat} {u : SX} {v : SY} (I : i_Rel k u v) (hk : k + 3 ≤ 1537) : wpX_vertexCount (fun r => wpY_vertexCount (fun r' => r' = r ∧ i_Rel (k + 3) u v) v) u := by
  have J := I
  obtain ⟨c, n, st, tr, xs, ys, kd, fc, mc, lc, rg, rfl, rfl, h4, h32, hnc, hB, hR⟩ := I
  unfold wpX_vertexCount wpY_vertexCount
  exact ⟨rfl, J⟩
theorem i_vc_vertexX {k : Nat} {u : SX} {v : SY} (I : i_Rel k u v) (hk : k + 3 ≤ 1537) (v1 : Int32) : wpX_vertexX (fun r => wpY_vertexX (fun r' => r' = r ∧ i_Rel (k + 3) u v) v v1) u v1 := by
  have J := I
  obtain ⟨c, n, st, tr, xs, ys, kd, fc, mc, lc, rg, rfl, rfl, h4, h32, hnc, hB, hR⟩ := I
  unfold wpX_vertexX wpY_vertexX
  dsimp only
  rcases mt_ix v1 (show n ≤ 32 by omega) with h | ⟨h0, h⟩ | ⟨j, hj, rfl⟩
  · exact x_idx0 (Or.inl h) (br_t rfl (br_t h ⟨rfl, J⟩))
  · exact x_idx0 (Or.inr ⟨h0, h⟩) (br_t rfl (br_f h0 (br_t h ⟨rfl, J⟩)))
  · have vj : vp_in (nI j) 32 := vp_in_nI (by omega) (by omega)
    exact x_idx1 hj (by omega) (br_f mt_n10 ⟨vj, br_f (nI_pos (by omega)) (br_f (nI_ge hj (by omega)) ⟨vj, rfl, J⟩)⟩)
theorem i_vc_vertexY {k : Nat} {u : SX} {v : SY} (I : i_Rel k u v) (hk : k + 3 ≤ 1537) (v1 : Int32) : wpX_vertexY (fun r => wpY_vertexY (fun r' => r' = r ∧ i_Rel (k + 3) u v) v v1) u v1 := by
  have J := I
  obtain ⟨c, n, st, tr, xs, ys, kd, fc, mc, lc, rg, rfl, rfl, h4, h32, hnc, hB, hR⟩ := I
  unfold wpX_vertexY wpY_vertexY
  dsimp only
  rcases mt_ix v1 (show n ≤ 32 by omega) with h | ⟨h0, h⟩ | ⟨j, hj, rfl⟩
  · exact x_idx0 (Or.inl h) (br_t rfl (br_t h ⟨rfl, J⟩))
  · exact x_idx0 (Or.inr ⟨h0, h⟩) (br_t rfl (br_f h0 (br_t h ⟨rfl, J⟩)))
  · have vj : vp_in (nI j) 32 := vp_in_nI (by omega) (by omega)
    exact x_idx1 hj (by omega) (br_f mt_n10 ⟨vj, br_f (nI_pos (by omega)) (br_f (nI_ge hj (by omega)) ⟨vj, rfl, J⟩)⟩)
theorem i_vc_area2 {k : Nat} {u : SX} {v : SY} (I : i_Rel k u v) (hk : k + 3 ≤ 1537) : wpX_area2 (fun r => wpY_area2 (fun r' => r' = r ∧ i_Rel (k + 3) u v) v) u := by
  have J := I
  obtain ⟨c, n, st, tr, xs, ys, kd, fc, mc, lc, rg, rfl, rfl, h4, h32, hnc, hB, hR⟩ := I
  exact x_area (by omega) (y_area (by omega) ⟨rfl, J⟩)
theorem i_vc_vertexKind {k : Nat} {u : SX} {v : SY} (I : i_Rel k u v) (hk : k + 3 ≤ 1537) (v1 : Int32) : wpX_vertexKind (fun r => wpY_vertexKind (fun r' => r' = r ∧ i_Rel (k + 3) u v) v v1) u v1 := by
  have J := I
  obtain ⟨c, n, st, tr, xs, ys, kd, fc, mc, lc, rg, rfl, rfl, h4, h32, hnc, hB, hR⟩ := I
  unfold wpX_vertexKind wpY_vertexKind
  dsimp only
  by_cases hs : st = 1
  · refine br_t hs ?_
    obtain ⟨r1, r2, r3, _⟩ := hR hs
    rcases mt_ix v1 (show n ≤ 32 by omega) with h | ⟨h0, h⟩ | ⟨j, hj, rfl⟩
    · exact x_idx0 (Or.inl h) (br_t rfl (br_t hs (br_t h ⟨rfl, J⟩)))
    · exact x_idx0 (Or.inr ⟨h0, h⟩) (br_t rfl (br_t hs (br_f h0 (br_f (Int32.not_lt.mpr h) ⟨rfl, J⟩))))
    · have vj : vp_in (nI j) 32 := vp_in_nI (by omega) (by omega)
      have cj := nI_clamp (show j < 2 ^ 31 by omega)
      refine x_idx1 hj (by omega) (br_f mt_n10 ⟨vj, br_t hs (br_f (nI_pos (by omega)) (br_t (nI_lt hj (by omega)) (y_kind hj (by omega) ⟨?_, J⟩)))⟩)
      rw [cj, r3 j hj]
  · exact br_f hs (br_f hs ⟨rfl, J⟩)
theorem i_vc_kindCount {k : Nat} {u : SX} {v : SY} (I : i_Rel k u v) (hk : k + 3 ≤ 1537) (v1 : Int32) : wpX_kindCount (fun r => wpY_kindCount (fun r' => r' = r ∧ i_Rel (k + 3) u v) v v1) u v1 := by
  have J := I
  obtain ⟨c, n, st, tr, xs, ys, kd, fc, mc, lc, rg, rfl, rfl, h4, h32, hnc, hB, hR⟩ := I
  unfold wpX_kindCount wpY_kindCount
  dsimp only
  by_cases hs : st = 1
  · obtain ⟨r1, r2, r3, _⟩ := hR hs
    by_cases h1 : v1 < 1
    · exact br_t hs (br_t h1 (br_t hs (br_t h1 ⟨rfl, J⟩)))
    · by_cases h5 : v1 ≤ 5
      · exact br_t hs (br_f h1 (br_t h5 ⟨n + 1, x_kc_l (by omega) r3 (br_t hs (br_f h1 (br_t h5 ⟨n + 1, y_kc_l (by omega) ⟨rfl, J⟩ n 0 (by omega)⟩))) n 0 (by omega)⟩))
      · exact br_t hs (br_f h1 (br_f h5 (br_t hs (br_f h1 (br_f h5 ⟨rfl, J⟩)))))
  · exact br_f hs (br_f hs ⟨rfl, J⟩)
theorem i_vc_triangleCount {k : Nat} {u : SX} {v : SY} (I : i_Rel k u v) (hk : k + 3 ≤ 1537) : wpX_triangleCount (fun r => wpY_triangleCount (fun r' => r' = r ∧ i_Rel (k + 3) u v) v) u := by
  have J := I
  obtain ⟨c, n, st, tr, xs, ys, kd, fc, mc, lc, rg, rfl, rfl, h4, h32, hnc, hB, hR⟩ := I
  unfold wpX_triangleCount wpY_triangleCount
  dsimp only
  by_cases hs : st = 1
  · obtain ⟨r1, r2, r3, m, e, e2, _⟩ := hR hs
    refine br_t hs (br_t hs ⟨?_, J⟩)
    have z : nI n - nI 2 = nI (n - 2) := mt_subn (by omega)
    rw [e, show m = n - 2 by omega, ← z]
    rfl
  · exact br_f hs (br_f hs ⟨rfl, J⟩)
theorem i_vc_triangleAreaSum {k : Nat} {u : SX} {v : SY} (I : i_Rel k u v) (hk : k + 3 ≤ 1537) : wpX_triangleAreaSum (fun r => wpY_triangleAreaSum (fun r' => r' = r ∧ i_Rel (k + 3) u v) v) u := by
  have J := I
  obtain ⟨c, n, st, tr, xs, ys, kd, fc, mc, lc, rg, rfl, rfl, h4, h32, hnc, hB, hR⟩ := I
  unfold wpX_triangleAreaSum wpY_triangleAreaSum
  dsimp only
  by_cases hs : st = 1
  · obtain ⟨r1, r2, r3, m, e, e2, e3, e4⟩ := hR hs
    subst e
    have hA := mt_Acy xs ys (show 1 ≤ n by omega)
    have sA := mt_Asm hB (show n ≤ 32 by omega)
    have q := mt_0le sA
    refine br_t hs ⟨m + 1, x_sum_l (by omega) (by omega) hB e3 (br_t hs (y_area (by omega) (br_c (fun g => ⟨?_, J⟩) (fun g => ⟨?_, J⟩)))) m 0 (by omega)⟩
    · have g' := q.mp g
      rw [e4, ← hA]
      unfold mt_ab
      rw [if_neg (by omega)]
    · have g' : ¬ 0 ≤ mt_A xs ys n n := fun z => g (q.mpr z)
      rw [e4, ← hA, mt_neg]
      unfold mt_ab
      rw [if_pos (by omega)]
  · exact br_f hs (br_f hs ⟨rfl, J⟩)
