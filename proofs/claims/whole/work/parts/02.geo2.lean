/-! crossings of a ray by an edge: how they change with the direction and along the ray -/
theorem gm_l1 {a b c e f g : Int} (ha : 0 < a) (r : a * g - b * f + c * e = 0) (h0 : g = 0 → ((0 < b ↔ 0 < c) ∧ (0 < e ↔ 0 < f))) : gm_om b c g - gm_om e f g = gm_h c f - gm_h b e := by
  have h1 := gm_sg a g
  have h2 := gm_sg b f
  have h3 := gm_sg c e
  generalize a * g = x at *
  generalize b * f = y at *
  generalize c * e = z at *
  unfold gm_om gm_h
  by_cases g0 : g = 0
  · have := h0 g0
    repeat' split
    all_goals omega
  · clear h0
    repeat' split
    all_goals omega
/-- p, q seen from u, off the edge: the change of direction from d to e telescopes -/
theorem gm_L1 {d e u p q : gm_P} (ha : 0 < d.1 * e.2 - d.2 * e.1) (h : ¬ gm_on p q u) : gm_Om d u p q - gm_Om e u p q = gm_h (gm_S d u q) (gm_S e u q) - gm_h (gm_S d u p) (gm_S e u p) := by
  refine gm_l1 ha (gm_gp d.1 d.2 e.1 e.2 (p.1 - u.1) (p.2 - u.2) (q.1 - u.1) (q.2 - u.2)) ?_
  intro hg
  have k : 0 < gm_D u p q := by
    have e1 := gm_Oc u p q
    unfold gm_on at h
    omega
  have hg' : gm_O u q p = 0 := by
    have := gm_Os u q p
    have := gm_Oc q u p
    have := gm_Oc u p q
    have := gm_Os u p q
    have := gm_Oc p u q
    omega
  have k' : 0 < gm_D u q p := by rw [gm_Ds]; exact k
  exact ⟨⟨(gm_col1 (d1 := d.1) (d2 := d.2) hg k).1, (gm_col1 (d1 := d.1) (d2 := d.2) hg' k').1⟩, ⟨(gm_col1 (d1 := e.1) (d2 := e.2) hg k).1, (gm_col1 (d1 := e.1) (d2 := e.2) hg' k').1⟩⟩
theorem gm_om_a (α β g : Int) : gm_om β α (-g) = - gm_om α β g := by
  unfold gm_om
  repeat' split
  all_goals omega
theorem gm_Om_a (d u p q : gm_P) : gm_Om d u q p = - gm_Om d u p q := by
  unfold gm_Om
  have e : gm_O u q p = - gm_O u p q := by unfold gm_O; grind
  rw [e, gm_om_a]
theorem gm_om_0 (α β : Int) : gm_om α β 0 = 0 := by
  unfold gm_om
  repeat' split
  all_goals omega
theorem gm_Om_p (d u q : gm_P) : gm_Om d u u q = 0 := by unfold gm_Om; rw [gm_O1, gm_om_0]
theorem gm_Om_q (d u p : gm_P) : gm_Om d u p u = 0 := by unfold gm_Om; rw [gm_O2, gm_om_0]
/-- the point p of the line u u', if the crossing lies in (u, u'] -/
theorem gm_onb {d1 d2 p1 p2 b g : Int} (h1 : p1 * b = d1 * g) (h2 : p2 * b = d2 * g) (hb : 0 < b) (hg : 0 < g) (hl : g ≤ b) : (0 - p1) * (d1 - p1) + (0 - p2) * (d2 - p2) ≤ 0 := by
  have e : ((0 - p1) * (d1 - p1) + (0 - p2) * (d2 - p2)) * (b * b) = (g * (g - b)) * (d1 * d1 + d2 * d2) := by
    have a1 : (p1 * b) * (p1 * b) = (d1 * g) * (d1 * g) := by rw [h1]
    have a2 : (p2 * b) * (p2 * b) = (d2 * g) * (d2 * g) := by rw [h2]
    have a3 : (p1 * b) * (d1 * b) = (d1 * g) * (d1 * b) := by rw [h1]
    have a4 : (p2 * b) * (d2 * b) = (d2 * g) * (d2 * b) := by rw [h2]
    grind
  have s0 := Int.mul_pos hb hb
  have s1 := gm_sg ((0 - p1) * (d1 - p1) + (0 - p2) * (d2 - p2)) (b * b)
  have s2 := gm_sg (g * (g - b)) (d1 * d1 + d2 * d2)
  have s3 := gm_sg g (g - b)
  have s4 := gm_sq d1 d2
  generalize (0 - p1) * (d1 - p1) + (0 - p2) * (d2 - p2) = X at *
  generalize b * b = Y at *
  generalize g * (g - b) = Z at *
  generalize d1 * d1 + d2 * d2 = T at *
  omega
theorem gm_R1 {u u' p q : gm_P} (n1 : ¬ gm_px u u' p q) (n2 : gm_on u u' p → p = u) (n4 : ¬ gm_on p q u') (ha : gm_O u u' p ≤ 0) (hb : 0 < gm_O u u' q) (hg : 0 < gm_O u p q) (hl : gm_O u p q + gm_O u u' p - gm_O u u' q ≤ 0) : False := by
  have a4 : gm_O p q u' = gm_O u p q + gm_O u u' p - gm_O u u' q := by rw [← gm_R2, ← gm_Oc]
  have a3 : gm_O p q u = gm_O u p q := by rw [← gm_Oc]
  rcases (show gm_O u u' p < 0 ∨ gm_O u u' p = 0 by omega) with a | a
  · rcases (show gm_O u p q + gm_O u u' p - gm_O u u' q < 0 ∨ gm_O u p q + gm_O u u' p - gm_O u u' q = 0 by omega) with l | l
    · exact n1 ⟨Or.inr ⟨a, hb⟩, Or.inl ⟨by omega, by omega⟩⟩
    · refine n4 ⟨by omega, ?_⟩
      refine gm_col2 (d1 := u'.1 - u.1) (d2 := u'.2 - u.2) (p1 := p.1 - u'.1) (p2 := p.2 - u'.2) (q1 := q.1 - u'.1) (q2 := q.2 - u'.2) ?_ ?_ ?_
      · have : gm_O u' p q = 0 := by rw [gm_R2 u u' p q]; exact l
        exact this
      · have := gm_SV' u u' p
        unfold gm_S gm_V at this
        try dsimp only at this
        omega
      · have := gm_SV' u u' q
        unfold gm_S gm_V at this
        try dsimp only at this
        omega
  · have i1 := gm_id3 (u'.1 - u.1) (u'.2 - u.2) (p.1 - u.1) (p.2 - u.2) (q.1 - u.1) (q.2 - u.2)
    have i2 := gm_id4 (u'.1 - u.1) (u'.2 - u.2) (p.1 - u.1) (p.2 - u.2) (q.1 - u.1) (q.2 - u.2)
    have a' : (u'.1 - u.1) * (p.2 - u.2) - (u'.2 - u.2) * (p.1 - u.1) = 0 := a
    rw [a', Int.mul_zero, Int.zero_add] at i1 i2
    have on : gm_on u u' p := by
      refine ⟨a, ?_⟩
      have := gm_onb i1 i2 hb hg (by unfold gm_O at hl a; omega)
      have e : gm_D p u u' = (0 - (p.1 - u.1)) * ((u'.1 - u.1) - (p.1 - u.1)) + (0 - (p.2 - u.2)) * ((u'.2 - u.2) - (p.2 - u.2)) := by
        unfold gm_D; grind
      rw [e]; exact this
    have e := n2 on
    rw [e, gm_O1] at hg
    exact absurd hg (by decide)
/-- along the ray from u to u': nothing changes if the edge doesn't meet (u, u'] -/
theorem gm_R {u u' p q : gm_P} (n1 : ¬ gm_px u u' p q) (n2 : gm_on u u' p → p = u) (n3 : gm_on u u' q → q = u) (n4 : ¬ gm_on p q u') : gm_Om (gm_V u u') u p q = gm_Om (gm_V u u') u' p q := by
  have k1 := gm_R1 n1 n2 n4
  have k2 := gm_R1 (u := u) (u' := u') (p := q) (q := p) (fun h => n1 (gm_px_s2 h)) n3 (fun h => n4 (gm_on_s h))
  have e1 : gm_O u q p = - gm_O u p q := by unfold gm_O; grind
  rw [e1] at k2
  unfold gm_Om
  rw [gm_SV, gm_SV, gm_SV', gm_SV', gm_R2 u u' p q]
  unfold gm_om
  generalize gm_O u u' p = α at *
  generalize gm_O u u' q = β at *
  generalize gm_O u p q = g at *
  repeat' split
  all_goals first
    | omega
    | (exfalso; exact k1 (by omega) (by omega) (by omega) (by omega))
    | (exfalso; exact k2 (by omega) (by omega) (by omega) (by omega))
/-! a half plane with its right half line -/
def gm_H (l v x : gm_P) : Prop := 0 < gm_S l v x ∨ (gm_S l v x = 0 ∧ 0 < l.1 * (x.1 - v.1) + l.2 * (x.2 - v.2))
theorem gm_ray {l1 l2 p1 p2 : Int} (h : l1 * p2 - l2 * p1 = 0) (k : 0 < l1 * p1 + l2 * p2) (x1 x2 : Int) : (0 < l1 * x2 - l2 * x1 → 0 < p1 * x2 - p2 * x1) ∧ (0 < p1 * x2 - p2 * x1 → 0 < l1 * x2 - l2 * x1) ∧ (l1 * x2 - l2 * x1 = 0 → p1 * x2 - p2 * x1 = 0) := by
  have e : (p1 * x2 - p2 * x1) * (l1 * l1 + l2 * l2) = (l1 * p1 + l2 * p2) * (l1 * x2 - l2 * x1) - (l1 * p2 - l2 * p1) * (l1 * x1 + l2 * x2) := by grind
  rw [h, Int.zero_mul, Int.sub_zero] at e
  have s1 := gm_sg (p1 * x2 - p2 * x1) (l1 * l1 + l2 * l2)
  have s2 := gm_sg (l1 * p1 + l2 * p2) (l1 * x2 - l2 * x1)
  have s3 := gm_sq l1 l2
  have s4 : 0 < l1 * l1 + l2 * l2 := by
    refine gm_sqp (fun z => ?_)
    rw [z.1, z.2] at k
    simp at k
  generalize (p1 * x2 - p2 * x1) * (l1 * l1 + l2 * l2) = X at *
  generalize (l1 * p1 + l2 * p2) * (l1 * x2 - l2 * x1) = Y at *
  generalize p1 * x2 - p2 * x1 = a at *
  generalize l1 * l1 + l2 * l2 = b at *
  generalize l1 * p1 + l2 * p2 = c at *
  generalize l1 * x2 - l2 * x1 = d at *
  omega
/-- the key of the half plane: c before p, q behind c -/
theorem gm_L3a {l v c p q : gm_P} (hc : gm_H l v c) (hp : gm_H l v p) (hq : gm_H l v q) (h1 : gm_O v c p ≤ 0) (h2 : 0 < gm_O v c q) : 0 < gm_O v p q := by
  have g := gm_gp l.1 l.2 (c.1 - v.1) (c.2 - v.2) (p.1 - v.1) (p.2 - v.2) (q.1 - v.1) (q.2 - v.2)
  have rc := fun (k1 : gm_S l v c = 0) k2 x1 x2 => gm_ray (l1 := l.1) (l2 := l.2) (p1 := c.1 - v.1) (p2 := c.2 - v.2) k1 k2 x1 x2
  have rp := fun (k1 : gm_S l v p = 0) k2 x1 x2 => gm_ray (l1 := l.1) (l2 := l.2) (p1 := p.1 - v.1) (p2 := p.2 - v.2) k1 k2 x1 x2
  have rq := fun (k1 : gm_S l v q = 0) k2 x1 x2 => gm_ray (l1 := l.1) (l2 := l.2) (p1 := q.1 - v.1) (p2 := q.2 - v.2) k1 k2 x1 x2
  have g' : gm_S l v c * gm_O v p q - gm_S l v p * gm_O v c q + gm_S l v q * gm_O v c p = 0 := g
  have epc : gm_O v p c = - gm_O v c p := by unfold gm_O; grind
  have eqc : gm_O v q c = - gm_O v c q := by unfold gm_O; grind
  rcases hc with hc | ⟨hc, hc'⟩
  · have s1 := gm_sg (gm_S l v c) (gm_O v p q)
    have s2 := gm_sg (gm_S l v p) (gm_O v c q)
    have s3 := gm_sg (gm_S l v q) (gm_O v c p)
    have tp : gm_S l v p = 0 → gm_O v c p < 0 := by
      intro z
      rcases hp with hp | ⟨hp, hp'⟩
      · omega
      · have := (rp hp hp' (c.1 - v.1) (c.2 - v.2)).1 hc
        have : 0 < gm_O v p c := this
        omega
    have tq : gm_S l v q = 0 → gm_O v c q < 0 := by
      intro z
      rcases hq with hq | ⟨hq, hq'⟩
      · omega
      · have := (rq hq hq' (c.1 - v.1) (c.2 - v.2)).1 hc
        have : 0 < gm_O v q c := this
        omega
    have np : 0 ≤ gm_S l v p := by rcases hp with hp | ⟨hp, _⟩ <;> omega
    have nq : 0 ≤ gm_S l v q := by rcases hq with hq | ⟨hq, _⟩ <;> omega
    generalize gm_S l v c * gm_O v p q = X at *
    generalize gm_S l v p * gm_O v c q = Y at *
    generalize gm_S l v q * gm_O v c p = Z at *
    clear rc rp rq hp hq g
    omega
  · have kp : gm_S l v p = 0 ∧ 0 < l.1 * (p.1 - v.1) + l.2 * (p.2 - v.2) := by
      rcases hp with hp | hp
      · have := (rc hc hc' (p.1 - v.1) (p.2 - v.2)).1 hp
        have : 0 < gm_O v c p := this
        omega
      · exact hp
    have lq := (rc hc hc' (q.1 - v.1) (q.2 - v.2)).2.1 h2
    exact (rp kp.1 kp.2 (q.1 - v.1) (q.2 - v.2)).1 lq
theorem gm_L3 {l v c p q : gm_P} (hc : gm_H l v c) (hp : gm_H l v p) (hq : gm_H l v q) : gm_Om (gm_V v c) v p q = gm_b (gm_O v c q) - gm_b (gm_O v c p) := by
  have k1 := gm_L3a hc hp hq
  have k2 := gm_L3a hc hq hp
  have e : gm_O v q p = - gm_O v p q := by unfold gm_O; grind
  rw [e] at k2
  unfold gm_Om
  rw [gm_SV, gm_SV]
  unfold gm_om gm_b
  generalize gm_O v c p = α at *
  generalize gm_O v c q = β at *
  generalize gm_O v p q = g at *
  repeat' split
  all_goals omega
/-- in the half plane, collinear with the apex: on one ray -/
theorem gm_L3b {l v a c : gm_P} (ha : gm_H l v a) (hc : gm_H l v c) (h : gm_O v c a = 0) : 0 < gm_D v c a := by
  have rc := fun (k1 : gm_S l v c = 0) k2 x1 x2 => gm_ray (l1 := l.1) (l2 := l.2) (p1 := c.1 - v.1) (p2 := c.2 - v.2) k1 k2 x1 x2
  have ra := fun (k1 : gm_S l v a = 0) k2 x1 x2 => gm_ray (l1 := l.1) (l2 := l.2) (p1 := a.1 - v.1) (p2 := a.2 - v.2) k1 k2 x1 x2
  have eac : gm_O v a c = - gm_O v c a := by unfold gm_O; grind
  have i := gm_id1 l.1 l.2 (c.1 - v.1) (c.2 - v.2) (a.1 - v.1) (a.2 - v.2)
  have i' : gm_S l v a * gm_D v c c = gm_D v c a * gm_S l v c + gm_O v c a * (l.1 * (c.1 - v.1) + l.2 * (c.2 - v.2)) := i
  rw [h, Int.zero_mul, Int.add_zero] at i'
  have sc : 0 ≤ gm_D v c c := gm_sq _ _
  have s1 := gm_sg (gm_S l v a) (gm_D v c c)
  have s2 := gm_sg (gm_D v c a) (gm_S l v c)
  rcases hc with hc | ⟨hc, hc'⟩
  · rcases ha with ha | ⟨ha, ha'⟩
    · have sp : gm_D v c c ≠ 0 := by
        intro z
        have : ¬ (c.1 - v.1 = 0 ∧ c.2 - v.2 = 0) := by
          intro y
          unfold gm_S at hc
          rw [y.1, y.2] at hc
          simp at hc
        have := gm_sqp this
        unfold gm_D at z
        omega
      omega
    · have := (ra ha ha' (c.1 - v.1) (c.2 - v.2)).1 hc
      have : 0 < gm_O v a c := this
      omega
  · rcases ha with ha | ⟨ha, ha'⟩
    · have := (rc hc hc' (a.1 - v.1) (a.2 - v.2)).1 ha
      have : 0 < gm_O v c a := this
      omega
    · have e : gm_D v c a * (l.1 * l.1 + l.2 * l.2) = (l.1 * (c.1 - v.1) + l.2 * (c.2 - v.2)) * (l.1 * (a.1 - v.1) + l.2 * (a.2 - v.2)) + gm_S l v c * gm_S l v a := by
        unfold gm_D gm_S; grind
      rw [hc, Int.zero_mul, Int.add_zero] at e
      have s3 := gm_sg (gm_D v c a) (l.1 * l.1 + l.2 * l.2)
      have s4 := Int.mul_pos hc' ha'
      have s5 := gm_sq l.1 l.2
      generalize gm_D v c a * (l.1 * l.1 + l.2 * l.2) = X at *
      generalize (l.1 * (c.1 - v.1) + l.2 * (c.2 - v.2)) * (l.1 * (a.1 - v.1) + l.2 * (a.2 - v.2)) = Y at *
      generalize l.1 * l.1 + l.2 * l.2 = Z at *
      clear s1 s2 i i' rc ra
      omega
/-- two corners on one ray from v: one of them lies on the other's segment -/
theorem gm_fold {v a c : gm_P} (h : gm_O v c a = 0) (k : 0 < gm_D v c a) : gm_on v c a ∨ gm_on v a c := by
  have e1 : gm_D a v c = gm_D v a a - gm_D v c a := by unfold gm_D; grind
  have e2 : gm_D c v a = gm_D v c c - gm_D v c a := by unfold gm_D; grind
  have i := gm_id2 (c.1 - v.1) (c.2 - v.2) (a.1 - v.1) (a.2 - v.2)
  have i' : gm_D v c a * gm_D v c a + gm_O v c a * gm_O v c a = gm_D v c c * gm_D v a a := i
  rw [h, Int.mul_zero, Int.add_zero] at i'
  have eac : gm_O v a c = 0 := by
    have : gm_O v a c = - gm_O v c a := by unfold gm_O; grind
    omega
  by_cases q : gm_D v a a ≤ gm_D v c a
  · exact Or.inl ⟨h, by omega⟩
  · refine Or.inr ⟨eac, ?_⟩
    refine Classical.byContradiction fun z => ?_
    have a1 : gm_D v c a < gm_D v c c := by omega
    have a2 : gm_D v c a < gm_D v a a := by omega
    have b1 : gm_D v c a * gm_D v c a < gm_D v c a * gm_D v a a := Int.mul_lt_mul_of_pos_left a2 k
    have b2 : gm_D v c a * gm_D v a a < gm_D v c c * gm_D v a a := Int.mul_lt_mul_of_pos_right a1 (by omega)
    omega
