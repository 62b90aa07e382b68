/-! the small methods of both texts, each by its pure value -/
section
variable {cp st tr : Int32} {xs ys kd fc mc lc rg : Nat → Int32} {n : Nat} {post : Int32 → Prop}
theorem x_next {k : Nat} (hk : k < n) (hn : n ≤ 32) (h : post (nI (gm_nx 0 (n - 1) k))) : wpX_next post (cp, st, nI n, tr, xs, ys, kd, fc, mc, lc, rg) (nI k) := by
  show (nI n ≤ nI k + 1 → post 0) ∧ (¬ nI n ≤ nI k + 1 → post (nI k + 1))
  rw [nI_1, nI_leI (by omega) (by omega)]
  unfold gm_nx at h
  by_cases e : k = n - 1
  · rw [if_pos e, nI_0] at h
    exact ⟨fun _ => h, fun z => absurd (by omega) z⟩
  · rw [if_neg e] at h
    exact ⟨fun z => absurd z (by omega), fun _ => h⟩
theorem mt_dec {k : Nat} (h : 0 < k) : nI k - 1 = nI (k - 1) := by
  obtain ⟨j, rfl⟩ : ∃ j, k = j + 1 := ⟨k - 1, by omega⟩
  rw [nI_pred, Nat.add_sub_cancel]
theorem x_prev {k : Nat} (hk : k < n) (hn : n ≤ 32) (h : post (nI (gm_pv 0 (n - 1) k))) : wpX_prev post (cp, st, nI n, tr, xs, ys, kd, fc, mc, lc, rg) (nI k) := by
  show (nI k ≤ 0 → post (nI n - 1)) ∧ (¬ nI k ≤ 0 → post (nI k - 1))
  rw [← nI_0, nI_leI (by omega) (by omega)]
  unfold gm_pv at h
  by_cases e : k = 0
  · rw [if_pos e] at h
    exact ⟨fun _ => by rw [mt_dec (by omega)]; exact h, fun z => absurd (by omega) z⟩
  · rw [if_neg e] at h
    exact ⟨fun z => absurd z (by omega), fun _ => by rw [mt_dec (by omega)]; exact h⟩
theorem y_nxt {k : Nat} (hk : k < n) (hn : n ≤ 32) (h : post (nI (gm_nx 0 (n - 1) k))) : wpY_nxt post (cp, nI n, st, xs, ys) (nI k) := by
  show (nI k + 1 < nI n → post (nI k + 1)) ∧ (¬ nI k + 1 < nI n → post 0)
  rw [nI_1, nI_ltI (by omega) (by omega)]
  unfold gm_nx at h
  by_cases e : k = n - 1
  · rw [if_pos e, nI_0] at h
    exact ⟨fun z => absurd z (by omega), fun _ => h⟩
  · rw [if_neg e] at h
    exact ⟨fun _ => h, fun z => absurd (by omega) z⟩
theorem y_prv {k : Nat} (hk : k < n) (hn : n ≤ 32) (h : post (nI (gm_pv 0 (n - 1) k))) : wpY_prv post (cp, nI n, st, xs, ys) (nI k) := by
  show (0 < nI k → post (nI k - 1)) ∧ (¬ 0 < nI k → post (nI n - 1))
  rw [← nI_0, nI_ltI (by omega) (by omega)]
  unfold gm_pv at h
  by_cases e : k = 0
  · rw [if_pos e] at h
    exact ⟨fun z => absurd z (by omega), fun _ => by rw [mt_dec (by omega)]; exact h⟩
  · rw [if_neg e] at h
    exact ⟨fun _ => by rw [mt_dec (by omega)]; exact h, fun z => absurd (by omega) z⟩
theorem mt_eO (ax ay bx by' cx cy : Int32) : (bx - ax) * (cy - ay) - (by' - ay) * (cx - ax) = mt_c (gm_O (ax.toInt, ay.toInt) (bx.toInt, by'.toInt) (cx.toInt, cy.toInt)) := by
  simp only [gm_O, ← mt_sub, ← mt_mul, mt_cT]
theorem mt_eD (ax ay bx by' cx cy : Int32) : (bx - ax) * (cx - ax) + (by' - ay) * (cy - ay) = mt_c (gm_D (ax.toInt, ay.toInt) (bx.toInt, by'.toInt) (cx.toInt, cy.toInt)) := by
  simp only [gm_D, ← mt_sub, ← mt_mul, ← mt_add, mt_cT]
theorem x_cross {i j : Nat} {px py : Int32} (hi : i < n) (hj : j < n) (hn : n ≤ 32) (h : post (mt_c (gm_O (mt_p xs ys i) (mt_p xs ys j) (px.toInt, py.toInt)))) : wpX_cross post (cp, st, nI n, tr, xs, ys, kd, fc, mc, lc, rg) (nI i) (nI j) px py := by
  unfold wpX_cross
  dsimp only
  have vi : vp_in (nI i) 32 := vp_in_nI (by omega) (by omega)
  have vj : vp_in (nI j) 32 := vp_in_nI (by omega) (by omega)
  refine ⟨vj, vi, vi, vj, vi, vi, ?_⟩
  rw [nI_clamp (show i < 2 ^ 31 by omega), nI_clamp (show j < 2 ^ 31 by omega), mt_eO]
  exact h
theorem x_dot {i j : Nat} {px py : Int32} (hi : i < n) (hj : j < n) (hn : n ≤ 32) (h : post (mt_c (gm_D (px.toInt, py.toInt) (mt_p xs ys i) (mt_p xs ys j)))) : wpX_dotFrom post (cp, st, nI n, tr, xs, ys, kd, fc, mc, lc, rg) px py (nI i) (nI j) := by
  unfold wpX_dotFrom
  dsimp only
  have vi : vp_in (nI i) 32 := vp_in_nI (by omega) (by omega)
  have vj : vp_in (nI j) 32 := vp_in_nI (by omega) (by omega)
  refine ⟨vi, vj, vi, vj, ?_⟩
  rw [nI_clamp (show i < 2 ^ 31 by omega), nI_clamp (show j < 2 ^ 31 by omega), mt_eD]
  exact h
theorem y_cross {ax ay bx by' cx cy : Int32} (h : post (mt_c (gm_O (ax.toInt, ay.toInt) (bx.toInt, by'.toInt) (cx.toInt, cy.toInt)))) : wpY_cross post (cp, nI n, st, xs, ys) ax ay bx by' cx cy := by
  show post ((bx - ax) * (cy - ay) - (by' - ay) * (cx - ax))
  rw [mt_eO]; exact h
theorem y_dot {ax ay bx by' cx cy : Int32} (h : post (mt_c (gm_D (ax.toInt, ay.toInt) (bx.toInt, by'.toInt) (cx.toInt, cy.toInt)))) : wpY_dot post (cp, nI n, st, xs, ys) ax ay bx by' cx cy := by
  show post ((bx - ax) * (cx - ax) + (by' - ay) * (cy - ay))
  rw [mt_eD]; exact h
theorem x_on {i j : Nat} {px py : Int32} (hi : i < n) (hj : j < n) (hn : n ≤ 32) (hB : ∀ k, k < n → mt_B (mt_p xs ys k)) (hq : mt_B (px.toInt, py.toInt)) (h1 : gm_on (mt_p xs ys i) (mt_p xs ys j) (px.toInt, py.toInt) → post 1) (h0 : ¬ gm_on (mt_p xs ys i) (mt_p xs ys j) (px.toInt, py.toInt) → post 0) : wpX_onSegment post (cp, st, nI n, tr, xs, ys, kd, fc, mc, lc, rg) (nI i) (nI j) px py := by
  unfold wpX_onSegment
  dsimp only
  refine x_cross hi hj hn ?_
  rw [mt_eq0 (mt_Os (hB i hi) (hB j hj) hq)]
  refine br_c (fun a => ?_) (fun a => h0 (fun z => a z.1))
  refine x_dot hi hj hn ?_
  rw [mt_0lt (mt_Ds hq (hB i hi) (hB j hj))]
  exact br_c (fun b => h0 (fun z => by have := z.2; omega)) (fun b => h1 ⟨a, by omega⟩)
theorem y_on {qx qy ax ay bx by' : Int32} (hq : mt_B (qx.toInt, qy.toInt)) (ha : mt_B (ax.toInt, ay.toInt)) (hb : mt_B (bx.toInt, by'.toInt)) (h1 : gm_on (ax.toInt, ay.toInt) (bx.toInt, by'.toInt) (qx.toInt, qy.toInt) → post 1) (h0 : ¬ gm_on (ax.toInt, ay.toInt) (bx.toInt, by'.toInt) (qx.toInt, qy.toInt) → post 0) : wpY_onSeg post (cp, nI n, st, xs, ys) qx qy ax ay bx by' := by
  unfold wpY_onSeg
  dsimp only
  refine y_cross (y_dot ?_)
  rw [mt_eq0 (mt_Os hq ha hb), mt_0lt (mt_Ds hq ha hb), gm_Oc]
  exact br_c (fun a => br_c (fun b => h0 (fun z => by have := z.2; omega)) (fun b => h1 ⟨a, by omega⟩)) (fun a => h0 (fun z => a z.1))
theorem x_sep {a b c d : Nat} (ha : a < n) (hb : b < n) (hc : c < n) (hd : d < n) (hn : n ≤ 32) (hB : ∀ k, k < n → mt_B (mt_p xs ys k)) (h1 : gm_sep (mt_p xs ys a) (mt_p xs ys b) (mt_p xs ys c) (mt_p xs ys d) → post 1) (h0 : ¬ gm_sep (mt_p xs ys a) (mt_p xs ys b) (mt_p xs ys c) (mt_p xs ys d) → post 0) : wpX_separates post (cp, st, nI n, tr, xs, ys, kd, fc, mc, lc, rg) (nI a) (nI b) (nI c) (nI d) := by
  have vc : vp_in (nI c) 32 := vp_in_nI (by omega) (by omega)
  have vd : vp_in (nI d) 32 := vp_in_nI (by omega) (by omega)
  have k1 := mt_le0 (mt_Os (hB a ha) (hB b hb) (hB c hc))
  have k2 := mt_le0 (mt_Os (hB a ha) (hB b hb) (hB d hd))
  have n01 : ¬ (0 : Int32) = 1 := by decide
  have n10 : ¬ (1 : Int32) = 0 := by decide
  have tail : ∀ z : Int32, (z = 0 ∧ gm_O (mt_p xs ys a) (mt_p xs ys b) (mt_p xs ys c) ≤ 0) ∨ (z = 1 ∧ 0 < gm_O (mt_p xs ys a) (mt_p xs ys b) (mt_p xs ys c)) → wX_separates_26 post (nI a) (nI b) (nI d) z cp st (nI n) tr xs ys kd fc mc lc rg := by
    intro z hz
    unfold wX_separates_26
    rw [nI_clamp (show d < 2 ^ 31 by omega)]
    refine ⟨vd, vd, x_cross ha hb hn ?_⟩
    show (mt_c (gm_O (mt_p xs ys a) (mt_p xs ys b) (mt_p xs ys d)) ≤ 0 → _) ∧ (¬ mt_c (gm_O (mt_p xs ys a) (mt_p xs ys b) (mt_p xs ys d)) ≤ 0 → _)
    rw [k2]
    unfold wX_separates_56
    unfold gm_sep at h1 h0
    rcases hz with ⟨rfl, hz⟩ | ⟨rfl, hz⟩
    · exact br_c (fun y => br_t rfl (h0 (fun w => w (by omega)))) (fun y => br_f n01 (h1 (by omega)))
    · exact br_c (fun y => br_f n10 (h1 (by omega))) (fun y => br_t rfl (h0 (fun w => w (by omega))))
  unfold wpX_separates
  dsimp only
  rw [nI_clamp (show c < 2 ^ 31 by omega)]
  refine ⟨vc, vc, x_cross ha hb hn ?_⟩
  show (mt_c (gm_O (mt_p xs ys a) (mt_p xs ys b) (mt_p xs ys c)) ≤ 0 → _) ∧ (¬ mt_c (gm_O (mt_p xs ys a) (mt_p xs ys b) (mt_p xs ys c)) ≤ 0 → _)
  rw [k1]
  exact br_c (fun y => tail 0 (Or.inl ⟨rfl, y⟩)) (fun y => tail 1 (Or.inr ⟨rfl, by omega⟩))
theorem x_meet {a b c d : Nat} (ha : a < n) (hb : b < n) (hc : c < n) (hd : d < n) (hn : n ≤ 32) (hB : ∀ k, k < n → mt_B (mt_p xs ys k)) (h1 : gm_meet (mt_p xs ys a) (mt_p xs ys b) (mt_p xs ys c) (mt_p xs ys d) → post 1) (h0 : ¬ gm_meet (mt_p xs ys a) (mt_p xs ys b) (mt_p xs ys c) (mt_p xs ys d) → post 0) : wpX_segmentsMeet post (cp, st, nI n, tr, xs, ys, kd, fc, mc, lc, rg) (nI a) (nI b) (nI c) (nI d) := by
  have va : vp_in (nI a) 32 := vp_in_nI (by omega) (by omega)
  have vb : vp_in (nI b) 32 := vp_in_nI (by omega) (by omega)
  have vc : vp_in (nI c) 32 := vp_in_nI (by omega) (by omega)
  have vd : vp_in (nI d) 32 := vp_in_nI (by omega) (by omega)
  have n10 : ¬ (1 : Int32) = 0 := by decide
  unfold wpX_segmentsMeet
  dsimp only
  rw [nI_clamp (show a < 2 ^ 31 by omega), nI_clamp (show b < 2 ^ 31 by omega), nI_clamp (show c < 2 ^ 31 by omega), nI_clamp (show d < 2 ^ 31 by omega)]
  refine ⟨vc, vc, x_on ha hb hn hB (hB c hc) (fun m1 => br_f n10 (h1 (Or.inr (Or.inl m1)))) (fun m1 => br_t rfl ?_)⟩
  refine ⟨vd, vd, x_on ha hb hn hB (hB d hd) (fun m2 => br_f n10 (h1 (Or.inr (Or.inr (Or.inl m2))))) (fun m2 => br_t rfl ?_)⟩
  refine ⟨va, va, x_on hc hd hn hB (hB a ha) (fun m3 => br_f n10 (h1 (Or.inr (Or.inr (Or.inr (Or.inl m3)))))) (fun m3 => br_t rfl ?_)⟩
  refine ⟨vb, vb, x_on hc hd hn hB (hB b hb) (fun m4 => br_f n10 (h1 (Or.inr (Or.inr (Or.inr (Or.inr m4)))))) (fun m4 => br_t rfl ?_)⟩
  have M := gm_meetX m1 m2 m3 m4
  have no : ¬ gm_px (mt_p xs ys a) (mt_p xs ys b) (mt_p xs ys c) (mt_p xs ys d) → post 0 := by
    intro z
    refine h0 (fun w => ?_)
    rcases w with w | w | w | w | w
    · exact z w
    · exact m1 w
    · exact m2 w
    · exact m3 w
    · exact m4 w
  refine x_sep ha hb hc hd hn hB (fun s1 => br_f n10 ?_) (fun s1 => br_t rfl (no (fun z => s1 (M.mpr z).1)))
  exact x_sep hc hd ha hb hn hB (fun s2 => br_f n10 (h1 (Or.inl (M.mp ⟨s1, s2⟩)))) (fun s2 => br_t rfl (no (fun z => s2 (M.mpr z).2)))
theorem y_opp {s t : Int} (hs : mt_sm s) (ht : mt_sm t) (h1 : gm_opp s t → post 1) (h0 : ¬ gm_opp s t → post 0) : wpY_opposite post (cp, nI n, st, xs, ys) (mt_c s) (mt_c t) := by
  have t8 : (¬ (0 < s ∧ t < 0)) → wY_opposite_8 post (mt_c s) (mt_c t) cp (nI n) st xs ys := by
    intro q
    unfold wY_opposite_8
    rw [mt_0le hs, mt_le0 ht]
    unfold gm_opp at h1 h0
    exact br_c (fun a => h0 (by omega)) (fun a => br_c (fun b => h0 (by omega)) (fun b => h1 (by omega)))
  unfold wpY_opposite
  dsimp only
  rw [mt_le0 hs, mt_lt0 ht]
  refine br_c (fun a => t8 (by omega)) (fun a => br_c (fun b => h1 (Or.inl ⟨by omega, b⟩)) (fun b => t8 (by omega)))
theorem x_below {a b : Nat} (ha : a < n) (hb : b < n) (hn : n ≤ 32) (h1 : (ys a < ys b ∨ (ys a = ys b ∧ ¬ xs a ≤ xs b)) → post 1) (h0 : ¬ (ys a < ys b ∨ (ys a = ys b ∧ ¬ xs a ≤ xs b)) → post 0) : wpX_isBelow post (cp, st, nI n, tr, xs, ys, kd, fc, mc, lc, rg) (nI a) (nI b) := by
  have va : vp_in (nI a) 32 := vp_in_nI (by omega) (by omega)
  have vb : vp_in (nI b) 32 := vp_in_nI (by omega) (by omega)
  unfold wpX_isBelow
  dsimp only
  rw [nI_clamp (show a < 2 ^ 31 by omega), nI_clamp (show b < 2 ^ 31 by omega)]
  refine ⟨va, vb, br_c (fun p => h1 (Or.inl p)) (fun p => ⟨va, vb, br_c (fun q => ⟨va, vb, br_c (fun r => h0 (fun z => ?_)) (fun r => h1 (Or.inr ⟨q, r⟩))⟩) (fun q => h0 (fun z => ?_))⟩)⟩
  · rcases z with z | z
    · exact p z
    · exact z.2 r
  · rcases z with z | z
    · exact p z
    · exact q z.1
theorem y_below {a b : Nat} (ha : a < n) (hb : b < n) (hn : n ≤ 32) (h1 : (ys a < ys b ∨ (ys a = ys b ∧ ¬ xs a ≤ xs b)) → post 1) (h0 : ¬ (ys a < ys b ∨ (ys a = ys b ∧ ¬ xs a ≤ xs b)) → post 0) : wpY_below post (cp, nI n, st, xs, ys) (nI a) (nI b) := by
  have va : vp_in (nI a) 32 := vp_in_nI (by omega) (by omega)
  have vb : vp_in (nI b) 32 := vp_in_nI (by omega) (by omega)
  unfold wpY_below
  dsimp only
  rw [nI_clamp (show a < 2 ^ 31 by omega), nI_clamp (show b < 2 ^ 31 by omega)]
  refine ⟨va, vb, br_c (fun p => h1 (Or.inl p)) (fun p => ⟨va, vb, br_c (fun q => ⟨va, vb, br_c (fun r => h0 (fun z => ?_)) (fun r => h1 (Or.inr ⟨q, r⟩))⟩) (fun q => h0 (fun z => ?_))⟩)⟩
  · rcases z with z | z
    · exact p z
    · exact z.2 r
  · rcases z with z | z
    · exact p z
    · exact q z.1
theorem x_tri {a b c v : Nat} (ha : a < n) (hb : b < n) (hc : c < n) (hv : v < n) (hn : n ≤ 32) (hB : ∀ k, k < n → mt_B (mt_p xs ys k)) (h1 : gm_in (mt_p xs ys a) (mt_p xs ys b) (mt_p xs ys c) (mt_p xs ys v) → post 1) (h0 : ¬ gm_in (mt_p xs ys a) (mt_p xs ys b) (mt_p xs ys c) (mt_p xs ys v) → post 0) : wpX_inTriangle post (cp, st, nI n, tr, xs, ys, kd, fc, mc, lc, rg) (nI a) (nI b) (nI c) (nI v) := by
  have vv : vp_in (nI v) 32 := vp_in_nI (by omega) (by omega)
  unfold wpX_inTriangle
  dsimp only
  rw [nI_clamp (show v < 2 ^ 31 by omega)]
  refine ⟨vv, nm_e ⟨vv, nm_e ?_⟩⟩
  have k1 := mt_lt0 (mt_Os (hB a ha) (hB b hb) (hB v hv))
  have k2 := mt_lt0 (mt_Os (hB b hb) (hB c hc) (hB v hv))
  have k3 := mt_lt0 (mt_Os (hB c hc) (hB a ha) (hB v hv))
  refine x_cross ha hb hn ?_
  refine br_c (fun p => h0 (fun z => ?_)) (fun p => x_cross hb hc hn (br_c (fun q => h0 (fun z => ?_)) (fun q => x_cross hc ha hn (br_c (fun r => h0 (fun z => ?_)) (fun r => h1 ⟨?_, ?_, ?_⟩)))))
  · have := k1.mp p; have := z.1; omega
  · have := k2.mp q; have := z.2.1; omega
  · have := k3.mp r; have := z.2.2; omega
  · exact Int.not_lt.mp (fun z => p (k1.mpr z))
  · exact Int.not_lt.mp (fun z => q (k2.mpr z))
  · exact Int.not_lt.mp (fun z => r (k3.mpr z))
end
