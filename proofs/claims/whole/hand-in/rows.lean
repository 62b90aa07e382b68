section
/-! plane geometry over whole numbers: signs of crosses -/
abbrev gm_P : Type := Int × Int
def gm_O (a b c : gm_P) : Int := (b.1 - a.1) * (c.2 - a.2) - (b.2 - a.2) * (c.1 - a.1)
def gm_D (a b c : gm_P) : Int := (b.1 - a.1) * (c.1 - a.1) + (b.2 - a.2) * (c.2 - a.2)
def gm_S (d u p : gm_P) : Int := d.1 * (p.2 - u.2) - d.2 * (p.1 - u.1)
def gm_V (u w : gm_P) : gm_P := (w.1 - u.1, w.2 - u.2)
def gm_on (a b x : gm_P) : Prop := gm_O a b x = 0 ∧ gm_D x a b ≤ 0
def gm_opp (s t : Int) : Prop := (0 < s ∧ t < 0) ∨ (s < 0 ∧ 0 < t)
def gm_px (a b c d : gm_P) : Prop := gm_opp (gm_O a b c) (gm_O a b d) ∧ gm_opp (gm_O c d a) (gm_O c d b)
def gm_in (a v c x : gm_P) : Prop := 0 ≤ gm_O a v x ∧ 0 ≤ gm_O v c x ∧ 0 ≤ gm_O c a x
def gm_om (α β g : Int) : Int :=
  if 0 < α then (if 0 < β then 0 else if g < 0 then -1 else 0)
  else (if 0 < β then (if 0 < g then 1 else 0) else 0)
def gm_h (b e : Int) : Int := if 0 < b then (if 0 < e then 0 else 1) else 0
def gm_b (x : Int) : Int := if 0 < x then 1 else 0
def gm_Om (d u p q : gm_P) : Int := gm_om (gm_S d u p) (gm_S d u q) (gm_O u p q)

theorem gm_sg (x y : Int) : (0 < x ∧ 0 < y ∧ 0 < x * y) ∨ (0 < x ∧ y < 0 ∧ x * y < 0) ∨ (x < 0 ∧ 0 < y ∧ x * y < 0) ∨ (x < 0 ∧ y < 0 ∧ 0 < x * y) ∨ (x = 0 ∧ x * y = 0) ∨ (y = 0 ∧ x * y = 0) := by
  rcases Int.lt_trichotomy x 0 with hx | hx | hx
  · rcases Int.lt_trichotomy y 0 with hy | hy | hy
    · exact Or.inr (Or.inr (Or.inr (Or.inl ⟨hx, hy, Int.mul_pos_of_neg_of_neg hx hy⟩)))
    · exact Or.inr (Or.inr (Or.inr (Or.inr (Or.inr ⟨hy, by rw [hy, Int.mul_zero]⟩))))
    · exact Or.inr (Or.inr (Or.inl ⟨hx, hy, Int.mul_neg_of_neg_of_pos hx hy⟩))
  · exact Or.inr (Or.inr (Or.inr (Or.inr (Or.inl ⟨hx, by rw [hx, Int.zero_mul]⟩))))
  · rcases Int.lt_trichotomy y 0 with hy | hy | hy
    · exact Or.inr (Or.inl ⟨hx, hy, Int.mul_neg_of_pos_of_neg hx hy⟩)
    · exact Or.inr (Or.inr (Or.inr (Or.inr (Or.inr ⟨hy, by rw [hy, Int.mul_zero]⟩))))
    · exact Or.inl ⟨hx, hy, Int.mul_pos hx hy⟩
theorem gm_sq (x y : Int) : 0 ≤ x * x + y * y := by
  have := gm_sg x x
  have := gm_sg y y
  omega
theorem gm_sqp {x y : Int} (h : ¬ (x = 0 ∧ y = 0)) : 0 < x * x + y * y := by
  have := gm_sg x x
  have := gm_sg y y
  omega
/-- vectors: the three-term relation -/
theorem gm_gp (d1 d2 e1 e2 p1 p2 q1 q2 : Int) : (d1 * e2 - d2 * e1) * (p1 * q2 - p2 * q1) - (d1 * p2 - d2 * p1) * (e1 * q2 - e2 * q1) + (d1 * q2 - d2 * q1) * (e1 * p2 - e2 * p1) = 0 := by
  grind
theorem gm_id1 (d1 d2 p1 p2 q1 q2 : Int) : (d1 * q2 - d2 * q1) * (p1 * p1 + p2 * p2) = (p1 * q1 + p2 * q2) * (d1 * p2 - d2 * p1) + (p1 * q2 - p2 * q1) * (d1 * p1 + d2 * p2) := by
  grind
theorem gm_id2 (p1 p2 q1 q2 : Int) : (p1 * q1 + p2 * q2) * (p1 * q1 + p2 * q2) + (p1 * q2 - p2 * q1) * (p1 * q2 - p2 * q1) = (p1 * p1 + p2 * p2) * (q1 * q1 + q2 * q2) := by
  grind
theorem gm_id3 (d1 d2 p1 p2 q1 q2 : Int) : p1 * (d1 * q2 - d2 * q1) = q1 * (d1 * p2 - d2 * p1) + d1 * (p1 * q2 - p2 * q1) := by
  grind
theorem gm_id4 (d1 d2 p1 p2 q1 q2 : Int) : p2 * (d1 * q2 - d2 * q1) = q2 * (d1 * p2 - d2 * p1) + d2 * (p1 * q2 - p2 * q1) := by
  grind
/-- same ray: same side of every line through the apex -/
theorem gm_col1 {d1 d2 p1 p2 q1 q2 : Int} (h : p1 * q2 - p2 * q1 = 0) (k : 0 < p1 * q1 + p2 * q2) : (0 < d1 * p2 - d2 * p1 → 0 < d1 * q2 - d2 * q1) ∧ (d1 * p2 - d2 * p1 < 0 → d1 * q2 - d2 * q1 < 0) := by
  have e := gm_id1 d1 d2 p1 p2 q1 q2
  rw [h, Int.zero_mul, Int.add_zero] at e
  have s1 := gm_sg (d1 * q2 - d2 * q1) (p1 * p1 + p2 * p2)
  have s2 := gm_sg (p1 * q1 + p2 * q2) (d1 * p2 - d2 * p1)
  have s3 := gm_sq p1 p2
  generalize (d1 * q2 - d2 * q1) * (p1 * p1 + p2 * p2) = X at *
  generalize (p1 * q1 + p2 * q2) * (d1 * p2 - d2 * p1) = Y at *
  generalize d1 * q2 - d2 * q1 = x at *
  generalize p1 * p1 + p2 * p2 = y at *
  generalize p1 * q1 + p2 * q2 = z at *
  generalize d1 * p2 - d2 * p1 = t at *
  omega
/-- collinear with the apex, seen on two sides of a line through it: the apex lies between -/
theorem gm_col2 {d1 d2 p1 p2 q1 q2 : Int} (h : p1 * q2 - p2 * q1 = 0) (k1 : d1 * p2 - d2 * p1 < 0) (k2 : 0 < d1 * q2 - d2 * q1) : p1 * q1 + p2 * q2 ≤ 0 := by
  have e := gm_id1 d1 d2 p1 p2 q1 q2
  rw [h, Int.zero_mul, Int.add_zero] at e
  have s1 := gm_sg (d1 * q2 - d2 * q1) (p1 * p1 + p2 * p2)
  have s2 := gm_sg (p1 * q1 + p2 * q2) (d1 * p2 - d2 * p1)
  have s3 := gm_sq p1 p2
  generalize (d1 * q2 - d2 * q1) * (p1 * p1 + p2 * p2) = X at *
  generalize (p1 * q1 + p2 * q2) * (d1 * p2 - d2 * p1) = Y at *
  generalize d1 * q2 - d2 * q1 = x at *
  generalize p1 * p1 + p2 * p2 = y at *
  generalize p1 * q1 + p2 * q2 = z at *
  generalize d1 * p2 - d2 * p1 = t at *
  omega
/-! crosses of points -/
theorem gm_Oc (a b c : gm_P) : gm_O a b c = gm_O b c a := by unfold gm_O; grind
theorem gm_Os (a b c : gm_P) : gm_O a b c = - gm_O b a c := by unfold gm_O; grind
theorem gm_O1 (a b : gm_P) : gm_O a a b = 0 := by unfold gm_O; grind
theorem gm_O2 (a b : gm_P) : gm_O a b a = 0 := by unfold gm_O; grind
theorem gm_O3 (a b : gm_P) : gm_O a b b = 0 := by unfold gm_O; grind
theorem gm_O4 (u a b c : gm_P) : gm_O a b c = gm_O u a b + gm_O u b c + gm_O u c a := by unfold gm_O; grind
theorem gm_Ds (a b c : gm_P) : gm_D a b c = gm_D a c b := by unfold gm_D; grind
/-- from u: four directions -/
theorem gm_G (u d e p q : gm_P) : gm_O u d e * gm_O u p q - gm_O u d p * gm_O u e q + gm_O u d q * gm_O u e p = 0 :=
  gm_gp (d.1 - u.1) (d.2 - u.2) (e.1 - u.1) (e.2 - u.2) (p.1 - u.1) (p.2 - u.2) (q.1 - u.1) (q.2 - u.2)
/-- the point where two lines meet, under an affine function -/
theorem gm_I (a b p q v z : gm_P) : gm_O p q v * gm_O a b z - gm_O p q z * gm_O a b v + gm_O v z p * gm_O a b q - gm_O v z q * gm_O a b p = 0 := by
  unfold gm_O; grind
/-- barycentric -/
theorem gm_B (a b p q r x : gm_P) : gm_O p q r * gm_O a b x = gm_O q r x * gm_O a b p + gm_O r p x * gm_O a b q + gm_O p q x * gm_O a b r := by
  unfold gm_O; grind
theorem gm_SV (u w p : gm_P) : gm_S (gm_V u w) u p = gm_O u w p := rfl
theorem gm_SV' (u w p : gm_P) : gm_S (gm_V u w) w p = gm_O u w p := by unfold gm_S gm_V gm_O; grind
theorem gm_R2 (u u' p q : gm_P) : gm_O u' p q = gm_O u p q + gm_O u u' p - gm_O u u' q := by unfold gm_O; grind
theorem gm_on_s {a b x : gm_P} (h : gm_on a b x) : gm_on b a x :=
  ⟨by have := gm_Os b a x; have := h.1; omega, by rw [gm_Ds]; exact h.2⟩
theorem gm_px_s1 {a b c d : gm_P} (h : gm_px a b c d) : gm_px b a c d := by
  have e1 := gm_Os b a c
  have e2 := gm_Os b a d
  unfold gm_px gm_opp at *
  omega
theorem gm_px_s2 {a b c d : gm_P} (h : gm_px a b c d) : gm_px a b d c := by
  have e1 := gm_Os d c a
  have e2 := gm_Os d c b
  unfold gm_px gm_opp at *
  omega
theorem gm_px_s {a b c d : gm_P} (h : gm_px a b c d) : gm_px c d a b := ⟨h.2, h.1⟩
end
section
/-! crossings of a ray by an edge: how they change with the direction and along the ray -/
theorem gm_l1 {a b c e f g : Int} (ha : 0 < a) (r : a * g - b * f + c * e = 0) (h0 : g = 0 → ((0 < b ↔ 0 < c) ∧ (0 < e ↔ 0 < f))) : gm_om b c g - gm_om e f g = gm_h c f - gm_h b e := by
  have h1 := gm_sg a g
  have h2 := gm_sg b f
  have h3 := gm_sg c e
  generalize a * g = x at *
  generalize b * f = y at *
  generalize c * e = z at *
  unfold gm_om gm_h
  by_cases g0 : g = 0
  · have := h0 g0
    repeat' split
    all_goals omega
  · clear h0
    repeat' split
    all_goals omega
/-- p, q seen from u, off the edge: the change of direction from d to e telescopes -/
theorem gm_L1 {d e u p q : gm_P} (ha : 0 < d.1 * e.2 - d.2 * e.1) (h : ¬ gm_on p q u) : gm_Om d u p q - gm_Om e u p q = gm_h (gm_S d u q) (gm_S e u q) - gm_h (gm_S d u p) (gm_S e u p) := by
  refine gm_l1 ha (gm_gp d.1 d.2 e.1 e.2 (p.1 - u.1) (p.2 - u.2) (q.1 - u.1) (q.2 - u.2)) ?_
  intro hg
  have k : 0 < gm_D u p q := by
    have e1 := gm_Oc u p q
    unfold gm_on at h
    omega
  have hg' : gm_O u q p = 0 := by
    have := gm_Os u q p
    have := gm_Oc q u p
    have := gm_Oc u p q
    have := gm_Os u p q
    have := gm_Oc p u q
    omega
  have k' : 0 < gm_D u q p := by rw [gm_Ds]; exact k
  exact ⟨⟨(gm_col1 (d1 := d.1) (d2 := d.2) hg k).1, (gm_col1 (d1 := d.1) (d2 := d.2) hg' k').1⟩, ⟨(gm_col1 (d1 := e.1) (d2 := e.2) hg k).1, (gm_col1 (d1 := e.1) (d2 := e.2) hg' k').1⟩⟩
theorem gm_om_a (α β g : Int) : gm_om β α (-g) = - gm_om α β g := by
  unfold gm_om
  repeat' split
  all_goals omega
theorem gm_Om_a (d u p q : gm_P) : gm_Om d u q p = - gm_Om d u p q := by
  unfold gm_Om
  have e : gm_O u q p = - gm_O u p q := by unfold gm_O; grind
  rw [e, gm_om_a]
theorem gm_om_0 (α β : Int) : gm_om α β 0 = 0 := by
  unfold gm_om
  repeat' split
  all_goals omega
theorem gm_Om_p (d u q : gm_P) : gm_Om d u u q = 0 := by unfold gm_Om; rw [gm_O1, gm_om_0]
theorem gm_Om_q (d u p : gm_P) : gm_Om d u p u = 0 := by unfold gm_Om; rw [gm_O2, gm_om_0]
/-- the point p of the line u u', if the crossing lies in (u, u'] -/
theorem gm_onb {d1 d2 p1 p2 b g : Int} (h1 : p1 * b = d1 * g) (h2 : p2 * b = d2 * g) (hb : 0 < b) (hg : 0 < g) (hl : g ≤ b) : (0 - p1) * (d1 - p1) + (0 - p2) * (d2 - p2) ≤ 0 := by
  have e : ((0 - p1) * (d1 - p1) + (0 - p2) * (d2 - p2)) * (b * b) = (g * (g - b)) * (d1 * d1 + d2 * d2) := by
    have a1 : (p1 * b) * (p1 * b) = (d1 * g) * (d1 * g) := by rw [h1]
    have a2 : (p2 * b) * (p2 * b) = (d2 * g) * (d2 * g) := by rw [h2]
    have a3 : (p1 * b) * (d1 * b) = (d1 * g) * (d1 * b) := by rw [h1]
    have a4 : (p2 * b) * (d2 * b) = (d2 * g) * (d2 * b) := by rw [h2]
    grind
  have s0 := Int.mul_pos hb hb
  have s1 := gm_sg ((0 - p1) * (d1 - p1) + (0 - p2) * (d2 - p2)) (b * b)
  have s2 := gm_sg (g * (g - b)) (d1 * d1 + d2 * d2)
  have s3 := gm_sg g (g - b)
  have s4 := gm_sq d1 d2
  generalize (0 - p1) * (d1 - p1) + (0 - p2) * (d2 - p2) = X at *
  generalize b * b = Y at *
  generalize g * (g - b) = Z at *
  generalize d1 * d1 + d2 * d2 = T at *
  omega
theorem gm_R1 {u u' p q : gm_P} (n1 : ¬ gm_px u u' p q) (n2 : gm_on u u' p → p = u) (n4 : ¬ gm_on p q u') (ha : gm_O u u' p ≤ 0) (hb : 0 < gm_O u u' q) (hg : 0 < gm_O u p q) (hl : gm_O u p q + gm_O u u' p - gm_O u u' q ≤ 0) : False := by
  have a4 : gm_O p q u' = gm_O u p q + gm_O u u' p - gm_O u u' q := by rw [← gm_R2, ← gm_Oc]
  have a3 : gm_O p q u = gm_O u p q := by rw [← gm_Oc]
  rcases (show gm_O u u' p < 0 ∨ gm_O u u' p = 0 by omega) with a | a
  · rcases (show gm_O u p q + gm_O u u' p - gm_O u u' q < 0 ∨ gm_O u p q + gm_O u u' p - gm_O u u' q = 0 by omega) with l | l
    · exact n1 ⟨Or.inr ⟨a, hb⟩, Or.inl ⟨by omega, by omega⟩⟩
    · refine n4 ⟨by omega, ?_⟩
      refine gm_col2 (d1 := u'.1 - u.1) (d2 := u'.2 - u.2) (p1 := p.1 - u'.1) (p2 := p.2 - u'.2) (q1 := q.1 - u'.1) (q2 := q.2 - u'.2) ?_ ?_ ?_
      · have : gm_O u' p q = 0 := by rw [gm_R2 u u' p q]; exact l
        exact this
      · have := gm_SV' u u' p
        unfold gm_S gm_V at this
        try dsimp only at this
        omega
      · have := gm_SV' u u' q
        unfold gm_S gm_V at this
        try dsimp only at this
        omega
  · have i1 := gm_id3 (u'.1 - u.1) (u'.2 - u.2) (p.1 - u.1) (p.2 - u.2) (q.1 - u.1) (q.2 - u.2)
    have i2 := gm_id4 (u'.1 - u.1) (u'.2 - u.2) (p.1 - u.1) (p.2 - u.2) (q.1 - u.1) (q.2 - u.2)
    have a' : (u'.1 - u.1) * (p.2 - u.2) - (u'.2 - u.2) * (p.1 - u.1) = 0 := a
    rw [a', Int.mul_zero, Int.zero_add] at i1 i2
    have on : gm_on u u' p := by
      refine ⟨a, ?_⟩
      have := gm_onb i1 i2 hb hg (by unfold gm_O at hl a; omega)
      have e : gm_D p u u' = (0 - (p.1 - u.1)) * ((u'.1 - u.1) - (p.1 - u.1)) + (0 - (p.2 - u.2)) * ((u'.2 - u.2) - (p.2 - u.2)) := by
        unfold gm_D; grind
      rw [e]; exact this
    have e := n2 on
    rw [e, gm_O1] at hg
    exact absurd hg (by decide)
/-- along the ray from u to u': nothing changes if the edge doesn't meet (u, u'] -/
theorem gm_R {u u' p q : gm_P} (n1 : ¬ gm_px u u' p q) (n2 : gm_on u u' p → p = u) (n3 : gm_on u u' q → q = u) (n4 : ¬ gm_on p q u') : gm_Om (gm_V u u') u p q = gm_Om (gm_V u u') u' p q := by
  have k1 := gm_R1 n1 n2 n4
  have k2 := gm_R1 (u := u) (u' := u') (p := q) (q := p) (fun h => n1 (gm_px_s2 h)) n3 (fun h => n4 (gm_on_s h))
  have e1 : gm_O u q p = - gm_O u p q := by unfold gm_O; grind
  rw [e1] at k2
  unfold gm_Om
  rw [gm_SV, gm_SV, gm_SV', gm_SV', gm_R2 u u' p q]
  unfold gm_om
  generalize gm_O u u' p = α at *
  generalize gm_O u u' q = β at *
  generalize gm_O u p q = g at *
  repeat' split
  all_goals first
    | omega
    | (exfalso; exact k1 (by omega) (by omega) (by omega) (by omega))
    | (exfalso; exact k2 (by omega) (by omega) (by omega) (by omega))
/-! a half plane with its right half line -/
def gm_H (l v x : gm_P) : Prop := 0 < gm_S l v x ∨ (gm_S l v x = 0 ∧ 0 < l.1 * (x.1 - v.1) + l.2 * (x.2 - v.2))
theorem gm_ray {l1 l2 p1 p2 : Int} (h : l1 * p2 - l2 * p1 = 0) (k : 0 < l1 * p1 + l2 * p2) (x1 x2 : Int) : (0 < l1 * x2 - l2 * x1 → 0 < p1 * x2 - p2 * x1) ∧ (0 < p1 * x2 - p2 * x1 → 0 < l1 * x2 - l2 * x1) ∧ (l1 * x2 - l2 * x1 = 0 → p1 * x2 - p2 * x1 = 0) := by
  have e : (p1 * x2 - p2 * x1) * (l1 * l1 + l2 * l2) = (l1 * p1 + l2 * p2) * (l1 * x2 - l2 * x1) - (l1 * p2 - l2 * p1) * (l1 * x1 + l2 * x2) := by grind
  rw [h, Int.zero_mul, Int.sub_zero] at e
  have s1 := gm_sg (p1 * x2 - p2 * x1) (l1 * l1 + l2 * l2)
  have s2 := gm_sg (l1 * p1 + l2 * p2) (l1 * x2 - l2 * x1)
  have s3 := gm_sq l1 l2
  have s4 : 0 < l1 * l1 + l2 * l2 := by
    refine gm_sqp (fun z => ?_)
    rw [z.1, z.2] at k
    simp at k
  generalize (p1 * x2 - p2 * x1) * (l1 * l1 + l2 * l2) = X at *
  generalize (l1 * p1 + l2 * p2) * (l1 * x2 - l2 * x1) = Y at *
  generalize p1 * x2 - p2 * x1 = a at *
  generalize l1 * l1 + l2 * l2 = b at *
  generalize l1 * p1 + l2 * p2 = c at *
  generalize l1 * x2 - l2 * x1 = d at *
  omega
/-- the key of the half plane: c before p, q behind c -/
theorem gm_L3a {l v c p q : gm_P} (hc : gm_H l v c) (hp : gm_H l v p) (hq : gm_H l v q) (h1 : gm_O v c p ≤ 0) (h2 : 0 < gm_O v c q) : 0 < gm_O v p q := by
  have g := gm_gp l.1 l.2 (c.1 - v.1) (c.2 - v.2) (p.1 - v.1) (p.2 - v.2) (q.1 - v.1) (q.2 - v.2)
  have rc := fun (k1 : gm_S l v c = 0) k2 x1 x2 => gm_ray (l1 := l.1) (l2 := l.2) (p1 := c.1 - v.1) (p2 := c.2 - v.2) k1 k2 x1 x2
  have rp := fun (k1 : gm_S l v p = 0) k2 x1 x2 => gm_ray (l1 := l.1) (l2 := l.2) (p1 := p.1 - v.1) (p2 := p.2 - v.2) k1 k2 x1 x2
  have rq := fun (k1 : gm_S l v q = 0) k2 x1 x2 => gm_ray (l1 := l.1) (l2 := l.2) (p1 := q.1 - v.1) (p2 := q.2 - v.2) k1 k2 x1 x2
  have g' : gm_S l v c * gm_O v p q - gm_S l v p * gm_O v c q + gm_S l v q * gm_O v c p = 0 := g
  have epc : gm_O v p c = - gm_O v c p := by unfold gm_O; grind
  have eqc : gm_O v q c = - gm_O v c q := by unfold gm_O; grind
  rcases hc with hc | ⟨hc, hc'⟩
  · have s1 := gm_sg (gm_S l v c) (gm_O v p q)
    have s2 := gm_sg (gm_S l v p) (gm_O v c q)
    have s3 := gm_sg (gm_S l v q) (gm_O v c p)
    have tp : gm_S l v p = 0 → gm_O v c p < 0 := by
      intro z
      rcases hp with hp | ⟨hp, hp'⟩
      · omega
      · have := (rp hp hp' (c.1 - v.1) (c.2 - v.2)).1 hc
        have : 0 < gm_O v p c := this
        omega
    have tq : gm_S l v q = 0 → gm_O v c q < 0 := by
      intro z
      rcases hq with hq | ⟨hq, hq'⟩
      · omega
      · have := (rq hq hq' (c.1 - v.1) (c.2 - v.2)).1 hc
        have : 0 < gm_O v q c := this
        omega
    have np : 0 ≤ gm_S l v p := by rcases hp with hp | ⟨hp, _⟩ <;> omega
    have nq : 0 ≤ gm_S l v q := by rcases hq with hq | ⟨hq, _⟩ <;> omega
    generalize gm_S l v c * gm_O v p q = X at *
    generalize gm_S l v p * gm_O v c q = Y at *
    generalize gm_S l v q * gm_O v c p = Z at *
    clear rc rp rq hp hq g
    omega
  · have kp : gm_S l v p = 0 ∧ 0 < l.1 * (p.1 - v.1) + l.2 * (p.2 - v.2) := by
      rcases hp with hp | hp
      · have := (rc hc hc' (p.1 - v.1) (p.2 - v.2)).1 hp
        have : 0 < gm_O v c p := this
        omega
      · exact hp
    have lq := (rc hc hc' (q.1 - v.1) (q.2 - v.2)).2.1 h2
    exact (rp kp.1 kp.2 (q.1 - v.1) (q.2 - v.2)).1 lq
theorem gm_L3 {l v c p q : gm_P} (hc : gm_H l v c) (hp : gm_H l v p) (hq : gm_H l v q) : gm_Om (gm_V v c) v p q = gm_b (gm_O v c q) - gm_b (gm_O v c p) := by
  have k1 := gm_L3a hc hp hq
  have k2 := gm_L3a hc hq hp
  have e : gm_O v q p = - gm_O v p q := by unfold gm_O; grind
  rw [e] at k2
  unfold gm_Om
  rw [gm_SV, gm_SV]
  unfold gm_om gm_b
  generalize gm_O v c p = α at *
  generalize gm_O v c q = β at *
  generalize gm_O v p q = g at *
  repeat' split
  all_goals omega
/-- in the half plane, collinear with the apex: on one ray -/
theorem gm_L3b {l v a c : gm_P} (ha : gm_H l v a) (hc : gm_H l v c) (h : gm_O v c a = 0) : 0 < gm_D v c a := by
  have rc := fun (k1 : gm_S l v c = 0) k2 x1 x2 => gm_ray (l1 := l.1) (l2 := l.2) (p1 := c.1 - v.1) (p2 := c.2 - v.2) k1 k2 x1 x2
  have ra := fun (k1 : gm_S l v a = 0) k2 x1 x2 => gm_ray (l1 := l.1) (l2 := l.2) (p1 := a.1 - v.1) (p2 := a.2 - v.2) k1 k2 x1 x2
  have eac : gm_O v a c = - gm_O v c a := by unfold gm_O; grind
  have i := gm_id1 l.1 l.2 (c.1 - v.1) (c.2 - v.2) (a.1 - v.1) (a.2 - v.2)
  have i' : gm_S l v a * gm_D v c c = gm_D v c a * gm_S l v c + gm_O v c a * (l.1 * (c.1 - v.1) + l.2 * (c.2 - v.2)) := i
  rw [h, Int.zero_mul, Int.add_zero] at i'
  have sc : 0 ≤ gm_D v c c := gm_sq _ _
  have s1 := gm_sg (gm_S l v a) (gm_D v c c)
  have s2 := gm_sg (gm_D v c a) (gm_S l v c)
  rcases hc with hc | ⟨hc, hc'⟩
  · rcases ha with ha | ⟨ha, ha'⟩
    · have sp : gm_D v c c ≠ 0 := by
        intro z
        have : ¬ (c.1 - v.1 = 0 ∧ c.2 - v.2 = 0) := by
          intro y
          unfold gm_S at hc
          rw [y.1, y.2] at hc
          simp at hc
        have := gm_sqp this
        unfold gm_D at z
        omega
      omega
    · have := (ra ha ha' (c.1 - v.1) (c.2 - v.2)).1 hc
      have : 0 < gm_O v a c := this
      omega
  · rcases ha with ha | ⟨ha, ha'⟩
    · have := (rc hc hc' (a.1 - v.1) (a.2 - v.2)).1 ha
      have : 0 < gm_O v c a := this
      omega
    · have e : gm_D v c a * (l.1 * l.1 + l.2 * l.2) = (l.1 * (c.1 - v.1) + l.2 * (c.2 - v.2)) * (l.1 * (a.1 - v.1) + l.2 * (a.2 - v.2)) + gm_S l v c * gm_S l v a := by
        unfold gm_D gm_S; grind
      rw [hc, Int.zero_mul, Int.add_zero] at e
      have s3 := gm_sg (gm_D v c a) (l.1 * l.1 + l.2 * l.2)
      have s4 := Int.mul_pos hc' ha'
      have s5 := gm_sq l.1 l.2
      generalize gm_D v c a * (l.1 * l.1 + l.2 * l.2) = X at *
      generalize (l.1 * (c.1 - v.1) + l.2 * (c.2 - v.2)) * (l.1 * (a.1 - v.1) + l.2 * (a.2 - v.2)) = Y at *
      generalize l.1 * l.1 + l.2 * l.2 = Z at *
      clear s1 s2 i i' rc ra
      omega
/-- two corners on one ray from v: one of them lies on the other's segment -/
theorem gm_fold {v a c : gm_P} (h : gm_O v c a = 0) (k : 0 < gm_D v c a) : gm_on v c a ∨ gm_on v a c := by
  have e1 : gm_D a v c = gm_D v a a - gm_D v c a := by unfold gm_D; grind
  have e2 : gm_D c v a = gm_D v c c - gm_D v c a := by unfold gm_D; grind
  have i := gm_id2 (c.1 - v.1) (c.2 - v.2) (a.1 - v.1) (a.2 - v.2)
  have i' : gm_D v c a * gm_D v c a + gm_O v c a * gm_O v c a = gm_D v c c * gm_D v a a := i
  rw [h, Int.mul_zero, Int.add_zero] at i'
  have eac : gm_O v a c = 0 := by
    have : gm_O v a c = - gm_O v c a := by unfold gm_O; grind
    omega
  by_cases q : gm_D v a a ≤ gm_D v c a
  · exact Or.inl ⟨h, by omega⟩
  · refine Or.inr ⟨eac, ?_⟩
    refine Classical.byContradiction fun z => ?_
    have a1 : gm_D v c a < gm_D v c c := by omega
    have a2 : gm_D v c a < gm_D v a a := by omega
    have b1 : gm_D v c a * gm_D v c a < gm_D v c a * gm_D v a a := Int.mul_lt_mul_of_pos_left a2 k
    have b2 : gm_D v c a * gm_D v a a < gm_D v c c * gm_D v a a := Int.mul_lt_mul_of_pos_right a1 (by omega)
    omega
end
section
/-! triangles -/
theorem gm_t0 {α τ γ x y z : Int} (r : α * y + τ * z + γ * x = 0) (hs : 0 < x + y + z) (ho : x < 0 ∨ y < 0 ∨ z < 0) : gm_om α τ x + gm_om τ γ y + gm_om γ α z = 0 := by
  have h1 := gm_sg α y
  have h2 := gm_sg τ z
  have h3 := gm_sg γ x
  generalize α * y = X at *
  generalize τ * z = Y at *
  generalize γ * x = Z at *
  unfold gm_om
  repeat' split
  all_goals omega
/-- a triangle doesn't wind around a point outside -/
theorem gm_T0 {a t c u : gm_P} (d : gm_P) (h : 0 < gm_O a t c) (ho : ¬ gm_in a t c u) : gm_Om d u a t + gm_Om d u t c + gm_Om d u c a = 0 := by
  refine gm_t0 (α := gm_S d u a) (τ := gm_S d u t) (γ := gm_S d u c) ?_ ?_ ?_
  · unfold gm_S gm_O; grind
  · rw [← gm_O4]; exact h
  · have e1 := gm_Oc u a t
    have e2 := gm_Oc u t c
    have e3 := gm_Oc u c a
    unfold gm_in at ho
    omega
theorem gm_px_or {v z p q : gm_P} (h : gm_px v z p q) : (0 < gm_O v z p ∧ gm_O v z q < 0 ∧ gm_O p q v < 0 ∧ 0 < gm_O p q z) ∨ (gm_O v z p < 0 ∧ 0 < gm_O v z q ∧ 0 < gm_O p q v ∧ gm_O p q z < 0) := by
  have e : gm_O v z p - gm_O v z q = - (gm_O p q v - gm_O p q z) := by unfold gm_O; grind
  unfold gm_px gm_opp at h
  omega
/-- an edge over the segment v z, with an end outside beyond: it crosses a side at v; p on the left -/
theorem gm_CRl {a v c z p q : gm_P} (hT : 0 < gm_O a v c) (z1 : 0 < gm_O a v z) (z2 : 0 < gm_O v c z) (z3 : 0 ≤ gm_O c a z) (x1 : 0 < gm_O v z p) (x2 : gm_O v z q < 0) (x3 : gm_O p q v < 0) (x4 : 0 < gm_O p q z) (hp : 0 < gm_O c a p) (ho : gm_O a v p < 0 ∨ gm_O v c p < 0) : gm_px a v p q := by
  have s2 : gm_O a v p < 0 := by
    refine Classical.byContradiction fun n => ?_
    have o2 : gm_O v c p < 0 := by omega
    have g := gm_G v c z a p
    have e1 : gm_O v a p = - gm_O a v p := by unfold gm_O; grind
    have e2 : gm_O v c a = gm_O a v c := by unfold gm_O; grind
    have e3 : gm_O v z a = gm_O a v z := by unfold gm_O; grind
    rw [e1, e2, e3] at g
    have t1 := gm_sg (gm_O v c z) (- gm_O a v p)
    have t2 := gm_sg (gm_O a v c) (gm_O v z p)
    have t3 := gm_sg (gm_O v c p) (gm_O a v z)
    generalize gm_O v c z * (- gm_O a v p) = X at *
    generalize gm_O a v c * gm_O v z p = Y at *
    generalize gm_O v c p * gm_O a v z = Z at *
    clear e1 e2 e3
    omega
  have s3 : 0 < gm_O a v q := by
    have i := gm_I a v p q v z
    rw [gm_O3, Int.mul_zero] at i
    have t1 := gm_sg (gm_O p q v) (gm_O a v z)
    have t2 := gm_sg (gm_O v z p) (gm_O a v q)
    have t3 := gm_sg (gm_O v z q) (gm_O a v p)
    generalize gm_O p q v * gm_O a v z = X at *
    generalize gm_O v z p * gm_O a v q = Y at *
    generalize gm_O v z q * gm_O a v p = Z at *
    omega
  have s4 : 0 < gm_O p q a := by
    refine Classical.byContradiction fun n => ?_
    have g := gm_G p a v z q
    have e1 : gm_O p a v = gm_O a v p := by unfold gm_O; grind
    have e2 : gm_O p z q = - gm_O p q z := by unfold gm_O; grind
    have e3 : gm_O p v q = - gm_O p q v := by unfold gm_O; grind
    have e4 : gm_O p a q = - gm_O p q a := by unfold gm_O; grind
    have e5 : gm_O p v z = gm_O v z p := by unfold gm_O; grind
    rw [e1, e2, e3, e4, e5] at g
    have k : 0 < gm_O p a z := by
      have t1 := gm_sg (gm_O a v p) (- gm_O p q z)
      have t2 := gm_sg (gm_O p a z) (- gm_O p q v)
      have t3 := gm_sg (- gm_O p q a) (gm_O v z p)
      generalize gm_O a v p * (- gm_O p q z) = X at *
      generalize gm_O p a z * (- gm_O p q v) = Y at *
      generalize (- gm_O p q a) * gm_O v z p = Z at *
      clear e1 e2 e3 e4 e5
      omega
    have b := gm_B c a a v z p
    rw [gm_O3, Int.mul_zero] at b
    have f1 : gm_O z a p = - gm_O p a z := by unfold gm_O; grind
    have f2 : gm_O c a v = gm_O a v c := by unfold gm_O; grind
    rw [f1, f2] at b
    have t1 := gm_sg (gm_O a v z) (gm_O c a p)
    have t2 := gm_sg (- gm_O p a z) (gm_O a v c)
    have t3 := gm_sg (gm_O a v p) (gm_O c a z)
    generalize gm_O a v z * gm_O c a p = X at *
    generalize (- gm_O p a z) * gm_O a v c = Y at *
    generalize gm_O a v p * gm_O c a z = Z at *
    clear e1 e2 e3 e4 e5 f1 f2 g
    omega
  exact ⟨Or.inr ⟨s2, s3⟩, Or.inl ⟨s4, x3⟩⟩
theorem gm_CRr {a v c z p q : gm_P} (hT : 0 < gm_O a v c) (z1 : 0 < gm_O a v z) (z2 : 0 < gm_O v c z) (z3 : 0 ≤ gm_O c a z) (x1 : gm_O v z p < 0) (x2 : 0 < gm_O v z q) (x3 : 0 < gm_O p q v) (x4 : gm_O p q z < 0) (hp : 0 < gm_O c a p) (ho : gm_O a v p < 0 ∨ gm_O v c p < 0) : gm_px v c p q := by
  have s2 : gm_O v c p < 0 := by
    refine Classical.byContradiction fun n => ?_
    have o2 : gm_O a v p < 0 := by omega
    have g := gm_G v c z a p
    have e1 : gm_O v a p = - gm_O a v p := by unfold gm_O; grind
    have e2 : gm_O v c a = gm_O a v c := by unfold gm_O; grind
    have e3 : gm_O v z a = gm_O a v z := by unfold gm_O; grind
    rw [e1, e2, e3] at g
    have t1 := gm_sg (gm_O v c z) (- gm_O a v p)
    have t2 := gm_sg (gm_O a v c) (gm_O v z p)
    have t3 := gm_sg (gm_O v c p) (gm_O a v z)
    generalize gm_O v c z * (- gm_O a v p) = X at *
    generalize gm_O a v c * gm_O v z p = Y at *
    generalize gm_O v c p * gm_O a v z = Z at *
    clear e1 e2 e3
    omega
  have s3 : 0 < gm_O v c q := by
    have i := gm_I v c p q v z
    rw [gm_O2, Int.mul_zero] at i
    have t1 := gm_sg (gm_O p q v) (gm_O v c z)
    have t2 := gm_sg (gm_O v z p) (gm_O v c q)
    have t3 := gm_sg (gm_O v z q) (gm_O v c p)
    generalize gm_O p q v * gm_O v c z = X at *
    generalize gm_O v z p * gm_O v c q = Y at *
    generalize gm_O v z q * gm_O v c p = Z at *
    omega
  have s4 : gm_O p q c < 0 := by
    refine Classical.byContradiction fun n => ?_
    have g := gm_G p c v z q
    have e1 : gm_O p c v = - gm_O v c p := by unfold gm_O; grind
    have e2 : gm_O p z q = - gm_O p q z := by unfold gm_O; grind
    have e3 : gm_O p v q = - gm_O p q v := by unfold gm_O; grind
    have e4 : gm_O p c q = - gm_O p q c := by unfold gm_O; grind
    have e5 : gm_O p v z = gm_O v z p := by unfold gm_O; grind
    rw [e1, e2, e3, e4, e5] at g
    have k : gm_O p c z < 0 := by
      have t1 := gm_sg (- gm_O v c p) (- gm_O p q z)
      have t2 := gm_sg (gm_O p c z) (- gm_O p q v)
      have t3 := gm_sg (- gm_O p q c) (gm_O v z p)
      generalize (- gm_O v c p) * (- gm_O p q z) = X at *
      generalize gm_O p c z * (- gm_O p q v) = Y at *
      generalize (- gm_O p q c) * gm_O v z p = Z at *
      clear e1 e2 e3 e4 e5
      omega
    have b := gm_B c a v c z p
    rw [gm_O2, Int.mul_zero] at b
    have f1 : gm_O c z p = gm_O p c z := by unfold gm_O; grind
    have f2 : gm_O c a v = gm_O a v c := by unfold gm_O; grind
    rw [f1, f2] at b
    have t1 := gm_sg (gm_O v c z) (gm_O c a p)
    have t2 := gm_sg (gm_O p c z) (gm_O a v c)
    have t3 := gm_sg (gm_O v c p) (gm_O c a z)
    generalize gm_O v c z * gm_O c a p = X at *
    generalize gm_O p c z * gm_O a v c = Y at *
    generalize gm_O v c p * gm_O c a z = Z at *
    clear e1 e2 e3 e4 e5 f1 f2 g
    omega
  exact ⟨Or.inr ⟨s2, s3⟩, Or.inl ⟨x3, s4⟩⟩
theorem gm_CR {a v c z p q : gm_P} (hT : 0 < gm_O a v c) (z1 : 0 < gm_O a v z) (z2 : 0 < gm_O v c z) (z3 : 0 ≤ gm_O c a z) (hx : gm_px v z p q) (hp : 0 < gm_O c a p) (ho : ¬ gm_in a v c p) : gm_px a v p q ∨ gm_px v c p q := by
  have ho' : gm_O a v p < 0 ∨ gm_O v c p < 0 := by unfold gm_in at ho; omega
  rcases gm_px_or hx with ⟨x1, x2, x3, x4⟩ | ⟨x1, x2, x3, x4⟩
  · exact Or.inl (gm_CRl hT z1 z2 z3 x1 x2 x3 x4 hp ho')
  · exact Or.inr (gm_CRr hT z1 z2 z3 x1 x2 x3 x4 hp ho')
/-- one end of an edge that crosses v z is higher over c a than z, if v is higher -/
theorem gm_hi {a v c z p q : gm_P} (hv : gm_O c a z < gm_O c a v) (hx : gm_px v z p q) : gm_O c a z < gm_O c a p ∨ gm_O c a z < gm_O c a q := by
  have i := gm_I c a p q v z
  have e : gm_O v z p - gm_O v z q = - (gm_O p q v - gm_O p q z) := by unfold gm_O; grind
  have j : - (gm_O p q z * (gm_O c a v - gm_O c a z)) + gm_O v z p * (gm_O c a q - gm_O c a z) - gm_O v z q * (gm_O c a p - gm_O c a z) = 0 := by grind
  have t1 := gm_sg (gm_O p q z) (gm_O c a v - gm_O c a z)
  have t2 := gm_sg (gm_O v z p) (gm_O c a q - gm_O c a z)
  have t3 := gm_sg (gm_O v z q) (gm_O c a p - gm_O c a z)
  have hh := gm_px_or hx
  generalize gm_O p q z * (gm_O c a v - gm_O c a z) = X at *
  generalize gm_O v z p * (gm_O c a q - gm_O c a z) = Y at *
  generalize gm_O v z q * (gm_O c a p - gm_O c a z) = Z at *
  clear i e hx
  omega
/-- an edge over the third side of an ear, p on the ear's side: it crosses one of the other sides, or holds the tip -/
theorem gm_CK {a t c p q : gm_P} (hT : 0 < gm_O a t c) (x1 : 0 < gm_O c a p) (x2 : gm_O c a q < 0) (x3 : 0 < gm_O p q a) (x4 : gm_O p q c < 0) (ho : ¬ gm_in a t c p) : gm_px a t p q ∨ gm_px t c p q ∨ gm_on p q t := by
  have ho' : gm_O a t p < 0 ∨ gm_O t c p < 0 := by unfold gm_in at ho; omega
  have g := gm_G p q a t c
  have e1 : gm_O p t c = gm_O t c p := by unfold gm_O; grind
  have e2 : gm_O p a c = - gm_O c a p := by unfold gm_O; grind
  have e3 : gm_O p a t = gm_O a t p := by unfold gm_O; grind
  rw [e1, e2, e3] at g
  have t1 := gm_sg (gm_O p q a) (gm_O t c p)
  have t2 := gm_sg (gm_O p q t) (- gm_O c a p)
  have t3 := gm_sg (gm_O p q c) (gm_O a t p)
  have lt : gm_O c a t = gm_O a t c := by unfold gm_O; grind
  have i1 := gm_I c a p q a t
  rw [gm_O3, Int.mul_zero, lt] at i1
  have u1 := gm_sg (gm_O p q a) (gm_O a t c)
  have u2 := gm_sg (gm_O a t p) (gm_O c a q)
  have u3 := gm_sg (gm_O a t q) (gm_O c a p)
  have i2 := gm_I c a p q c t
  rw [gm_O2, Int.mul_zero, lt] at i2
  have f1 : gm_O c t p = - gm_O t c p := by unfold gm_O; grind
  have f2 : gm_O c t q = - gm_O t c q := by unfold gm_O; grind
  rw [f1, f2] at i2
  have w1 := gm_sg (gm_O p q c) (gm_O a t c)
  have w2 := gm_sg (- gm_O t c p) (gm_O c a q)
  have w3 := gm_sg (- gm_O t c q) (gm_O c a p)
  rcases Int.lt_trichotomy (gm_O p q t) 0 with h | h | h
  · have s1 : gm_O a t p < 0 := by
      generalize gm_O p q a * gm_O t c p = X at *
      generalize gm_O p q t * (- gm_O c a p) = Y at *
      generalize gm_O p q c * gm_O a t p = Z at *
      clear e1 e2 e3 f1 f2 lt i1 i2 u1 u2 u3 w1 w2 w3
      omega
    have s2 : 0 < gm_O a t q := by
      generalize gm_O p q a * gm_O a t c = X at *
      generalize gm_O a t p * gm_O c a q = Y at *
      generalize gm_O a t q * gm_O c a p = Z at *
      clear e1 e2 e3 f1 f2 lt i2 t1 t2 t3 w1 w2 w3 g
      omega
    exact Or.inl ⟨Or.inr ⟨s1, s2⟩, Or.inl ⟨x3, h⟩⟩
  · have s1 : gm_O a t p < 0 := by
      rw [h, Int.zero_mul] at g
      generalize gm_O p q a * gm_O t c p = X at *
      generalize gm_O p q c * gm_O a t p = Z at *
      clear e1 e2 e3 f1 f2 lt i1 i2 u1 u2 u3 w1 w2 w3 t2
      omega
    have s2 : 0 < gm_O a t q := by
      generalize gm_O p q a * gm_O a t c = X at *
      generalize gm_O a t p * gm_O c a q = Y at *
      generalize gm_O a t q * gm_O c a p = Z at *
      clear e1 e2 e3 f1 f2 lt i2 t1 t2 t3 w1 w2 w3 g
      omega
    refine Or.inr (Or.inr ⟨h, ?_⟩)
    have h' : gm_O t p q = 0 := by rw [gm_Oc]; exact h
    refine gm_col2 (d1 := t.1 - a.1) (d2 := t.2 - a.2) (p1 := p.1 - t.1) (p2 := p.2 - t.2) (q1 := q.1 - t.1) (q2 := q.2 - t.2) h' ?_ ?_
    · have := gm_SV' a t p
      unfold gm_S gm_V at this
      try dsimp only at this
      omega
    · have := gm_SV' a t q
      unfold gm_S gm_V at this
      try dsimp only at this
      omega
  · have s1 : gm_O t c p < 0 := by
      generalize gm_O p q a * gm_O t c p = X at *
      generalize gm_O p q t * (- gm_O c a p) = Y at *
      generalize gm_O p q c * gm_O a t p = Z at *
      clear e1 e2 e3 f1 f2 lt i1 i2 u1 u2 u3 w1 w2 w3
      omega
    have s2 : 0 < gm_O t c q := by
      generalize gm_O p q c * gm_O a t c = X at *
      generalize (- gm_O t c p) * gm_O c a q = Y at *
      generalize (- gm_O t c q) * gm_O c a p = Z at *
      clear e1 e2 e3 f1 f2 lt i1 t1 t2 t3 u1 u2 u3 g
      omega
    exact Or.inr (Or.inl ⟨Or.inr ⟨s1, s2⟩, Or.inl ⟨h, x4⟩⟩)
theorem gm_CK2 {a t c p q : gm_P} (hT : 0 < gm_O a t c) (hx : gm_px a c p q) (hp : ¬ gm_in a t c p) (hq : ¬ gm_in a t c q) : gm_px a t p q ∨ gm_px t c p q ∨ gm_on p q t := by
  have e1 : gm_O a c p = - gm_O c a p := by unfold gm_O; grind
  have e2 : gm_O a c q = - gm_O c a q := by unfold gm_O; grind
  rcases gm_px_or hx with ⟨x1, x2, x3, x4⟩ | ⟨x1, x2, x3, x4⟩
  · have f1 : gm_O q p a = - gm_O p q a := by unfold gm_O; grind
    have f2 : gm_O q p c = - gm_O p q c := by unfold gm_O; grind
    rcases gm_CK (p := q) (q := p) hT (by omega) (by omega) (by omega) (by omega) hq with h | h | h
    · exact Or.inl (gm_px_s2 h)
    · exact Or.inr (Or.inl (gm_px_s2 h))
    · exact Or.inr (Or.inr (gm_on_s h))
  · exact gm_CK hT (by omega) (by omega) x3 x4 hp
/-- on a segment: an affine function that is not negative at both ends -/
theorem gm_seg {v z x : gm_P} (a b : gm_P) (h : gm_on v z x) (h1 : 0 ≤ gm_O a b v) (h2 : 0 ≤ gm_O a b z) (hn : x ≠ v) : 0 ≤ gm_O a b x := by
  have e : gm_O a b x * (gm_D x v v - gm_D x v z) = gm_O a b z * gm_D x v v - gm_O a b v * gm_D x v z - gm_O v z x * ((b.1 - a.1) * (v.1 - x.1) + (b.2 - a.2) * (v.2 - x.2)) := by
    unfold gm_O gm_D; grind
  rw [h.1, Int.zero_mul, Int.sub_zero] at e
  have sv : 0 < gm_D x v v := by
    refine gm_sqp (fun y => hn ?_)
    have y1 : x.1 = v.1 := by have := y.1; omega
    have y2 : x.2 = v.2 := by have := y.2; omega
    exact Prod.ext y1 y2
  have k := h.2
  have t1 := gm_sg (gm_O a b x) (gm_D x v v - gm_D x v z)
  have t2 := gm_sg (gm_O a b z) (gm_D x v v)
  have t3 := gm_sg (gm_O a b v) (gm_D x v z)
  generalize gm_O a b x * (gm_D x v v - gm_D x v z) = X at *
  generalize gm_O a b z * gm_D x v v = Y at *
  generalize gm_O a b v * gm_D x v z = Z at *
  omega
/-- strictly between v and z, v higher: higher than z -/
theorem gm_segh {v z x : gm_P} (a b : gm_P) (h : gm_on v z x) (hh : gm_O a b z < gm_O a b v) (hn : x ≠ v) (hm : x ≠ z) : gm_O a b z < gm_O a b x := by
  have e : (gm_O a b x - gm_O a b z) * (gm_D x v v - gm_D x v z) = (gm_O a b v - gm_O a b z) * (- gm_D x v z) - gm_O v z x * ((b.1 - a.1) * (v.1 - x.1) + (b.2 - a.2) * (v.2 - x.2)) := by
    unfold gm_O gm_D; grind
  rw [h.1, Int.zero_mul, Int.sub_zero] at e
  have sv : 0 < gm_D x v v := by
    refine gm_sqp (fun y => hn ?_)
    have y1 : x.1 = v.1 := by have := y.1; omega
    have y2 : x.2 = v.2 := by have := y.2; omega
    exact Prod.ext y1 y2
  have sz : 0 < gm_D x z z := by
    refine gm_sqp (fun y => hm ?_)
    have y1 : x.1 = z.1 := by have := y.1; omega
    have y2 : x.2 = z.2 := by have := y.2; omega
    exact Prod.ext y1 y2
  have i := gm_id2 (v.1 - x.1) (v.2 - x.2) (z.1 - x.1) (z.2 - x.2)
  have i' : gm_D x v z * gm_D x v z + gm_O x v z * gm_O x v z = gm_D x v v * gm_D x z z := i
  have o : gm_O x v z = 0 := by rw [gm_Oc]; exact h.1
  rw [o, Int.mul_zero, Int.add_zero] at i'
  have p := Int.mul_pos sv sz
  have t0 := gm_sg (gm_D x v z) (gm_D x v z)
  have k := h.2
  have t1 := gm_sg (gm_O a b x - gm_O a b z) (gm_D x v v - gm_D x v z)
  have t2 := gm_sg (gm_O a b v - gm_O a b z) (- gm_D x v z)
  generalize (gm_O a b x - gm_O a b z) * (gm_D x v v - gm_D x v z) = X at *
  generalize (gm_O a b v - gm_O a b z) * (- gm_D x v z) = Y at *
  generalize gm_D x v z * gm_D x v z = Z at *
  generalize gm_D x v v * gm_D x z z = T at *
  omega
/-- on the third side: in the triangle -/
theorem gm_on_in {a t c x : gm_P} (hT : 0 < gm_O a t c) (h : gm_on a c x) (hn : x ≠ a) : gm_in a t c x := by
  have e1 : gm_O a t a = 0 := gm_O2 a t
  have e2 : gm_O t c c = 0 := gm_O3 t c
  have e3 : gm_O t c a = gm_O a t c := by unfold gm_O; grind
  have e4 : gm_O c a x = - gm_O a c x := by unfold gm_O; grind
  refine ⟨gm_seg a t h (by omega) (by omega) hn, gm_seg t c h (by omega) (by omega) hn, by have := h.1; omega⟩
/-- in the triangle and not on a side: strictly -/
theorem gm_strict {a v c z : gm_P} (hT : 0 < gm_O a v c) (h : gm_in a v c z) (hn : ¬ gm_on a v z) : 0 < gm_O a v z := by
  refine Classical.byContradiction fun n => ?_
  have h0 : gm_O a v z = 0 := by have := h.1; omega
  have k : 0 < gm_D z a v := by unfold gm_on at hn; omega
  have o : gm_O z a v = 0 := by rw [gm_Oc]; exact h0
  have q := gm_col1 (d1 := c.1 - z.1) (d2 := c.2 - z.2) (p1 := a.1 - z.1) (p2 := a.2 - z.2) (q1 := v.1 - z.1) (q2 := v.2 - z.2) o k
  have q1 : 0 < gm_O z c a → 0 < gm_O z c v := q.1
  have o2 : gm_O z v a = 0 := by
    have : gm_O z v a = - gm_O z a v := by unfold gm_O; grind
    omega
  have k2 : 0 < gm_D z v a := by rw [gm_Ds]; exact k
  have r := gm_col1 (d1 := c.1 - z.1) (d2 := c.2 - z.2) (p1 := v.1 - z.1) (p2 := v.2 - z.2) (q1 := a.1 - z.1) (q2 := a.2 - z.2) o2 k2
  have r2 : gm_O z c v < 0 → gm_O z c a < 0 := r.2
  have e1 : gm_O z c v = - gm_O v c z := by unfold gm_O; grind
  have e2 : gm_O z c a = gm_O c a z := by unfold gm_O; grind
  have e3 := gm_O4 z a v c
  have e4 : gm_O z v c = gm_O v c z := by unfold gm_O; grind
  have h1 := h.2.1
  have h2 := h.2.2
  omega
theorem gm_in_r {a v c z : gm_P} (h : gm_in a v c z) : gm_in v c a z := ⟨h.2.1, h.2.2, h.1⟩
theorem gm_strict2 {a v c z : gm_P} (hT : 0 < gm_O a v c) (h : gm_in a v c z) (hn : ¬ gm_on v c z) : 0 < gm_O v c z :=
  gm_strict (by rw [← gm_Oc]; exact hT) (gm_in_r h) hn
/-- in the triangle, not the tip: nearer to the third side than the tip -/
theorem gm_low {a v c z : gm_P} (z1 : 0 < gm_O a v z) (z2 : 0 < gm_O v c z) : gm_O c a z < gm_O c a v := by
  have e : gm_O c a v = gm_O a v z + gm_O v c z + gm_O c a z := by unfold gm_O; grind
  omega
end
section
/-! sums over a closed polygon: the corners f i .. f j -/
def gm_sum (F : Nat → Int) (i : Nat) : Nat → Int
  | 0 => 0
  | n + 1 => gm_sum F i n + F (i + n)
def gm_nx (i j k : Nat) : Nat := if k = j then i else k + 1
def gm_pv (i j k : Nat) : Nat := if k = i then j else k - 1
def gm_cy (F : gm_P → gm_P → Int) (f : Nat → gm_P) (i j : Nat) : Int := gm_sum (fun k => F (f k) (f (gm_nx i j k))) i (j + 1 - i)
def gm_W (f : Nat → gm_P) (i j : Nat) (d u : gm_P) : Int := gm_cy (gm_Om d u) f i j
def gm_w (f : Nat → gm_P) (i j k : Nat) : Int := gm_W f i j (gm_V (f k) (f (gm_nx i j k))) (f k)
def gm_adj (i j a b : Nat) : Prop := (i ≤ a ∧ a ≤ j ∧ i ≤ b ∧ b ≤ j) ∧ (b = a + 1 ∨ a = b + 1 ∨ (a = i ∧ b = j) ∨ (a = j ∧ b = i))
def gm_simp (f : Nat → gm_P) (i j : Nat) : Prop :=
  (∀ a b, i ≤ a → a ≤ j → i ≤ b → b ≤ j → f a = f b → a = b) ∧
  (∀ a b x, gm_adj i j a b → i ≤ x → x ≤ j → x ≠ a → x ≠ b → ¬ gm_on (f a) (f b) (f x)) ∧
  (∀ a b c e, gm_adj i j a b → gm_adj i j c e → ¬ gm_px (f a) (f b) (f c) (f e))
theorem gm_sum_0 {F : Nat → Int} {i : Nat} : ∀ {n : Nat}, (∀ k, i ≤ k → k < i + n → F k = 0) → gm_sum F i n = 0
  | 0, _ => rfl
  | n + 1, h => by
    have a := gm_sum_0 (F := F) (i := i) (n := n) (fun k h1 h2 => h k h1 (by omega))
    have b := h (i + n) (by omega) (by omega)
    simp only [gm_sum]; omega
theorem gm_sum_c {F G : Nat → Int} {i : Nat} : ∀ {n : Nat}, (∀ k, i ≤ k → k < i + n → F k = G k) → gm_sum F i n = gm_sum G i n
  | 0, _ => rfl
  | n + 1, h => by
    have a := gm_sum_c (F := F) (G := G) (i := i) (n := n) (fun k h1 h2 => h k h1 (by omega))
    have b := h (i + n) (by omega) (by omega)
    simp only [gm_sum]; omega
theorem gm_sum_sub (F G : Nat → Int) (i : Nat) : ∀ n : Nat, gm_sum (fun k => F k - G k) i n = gm_sum F i n - gm_sum G i n
  | 0 => rfl
  | n + 1 => by
    have a := gm_sum_sub F G i n
    simp only [gm_sum]; omega
theorem gm_sum_1 {F : Nat → Int} {i k0 : Nat} : ∀ {n : Nat}, i ≤ k0 → k0 < i + n → (∀ k, i ≤ k → k < i + n → k ≠ k0 → F k = 0) → gm_sum F i n = F k0
  | 0, h1, h2, _ => by omega
  | n + 1, h1, h2, h => by
    by_cases e : k0 = i + n
    · have a := gm_sum_0 (F := F) (i := i) (n := n) (fun k h1 h2 => h k h1 (by omega) (by omega))
      simp only [gm_sum]; rw [a, e, Int.zero_add]
    · have a := gm_sum_1 (F := F) (i := i) (k0 := k0) (n := n) h1 (by omega) (fun k h1 h2 h3 => h k h1 (by omega) h3)
      have b := h (i + n) (by omega) (by omega) (by omega)
      simp only [gm_sum]; omega
theorem gm_sum_2 {F : Nat → Int} {i k0 k1 : Nat} : ∀ {n : Nat}, i ≤ k0 → k0 < i + n → i ≤ k1 → k1 < i + n → k0 ≠ k1 → (∀ k, i ≤ k → k < i + n → k ≠ k0 → k ≠ k1 → F k = 0) → gm_sum F i n = F k0 + F k1
  | 0, h1, h2, _, _, _, _ => by omega
  | n + 1, h1, h2, h3, h4, hn, h => by
    by_cases e : k0 = i + n
    · have a := gm_sum_1 (F := F) (i := i) (k0 := k1) (n := n) h3 (by omega) (fun k g1 g2 g3 => h k g1 (by omega) (by omega) g3)
      simp only [gm_sum]; rw [a, e]; omega
    · by_cases e' : k1 = i + n
      · have a := gm_sum_1 (F := F) (i := i) (k0 := k0) (n := n) h1 (by omega) (fun k g1 g2 g3 => h k g1 (by omega) g3 (by omega))
        simp only [gm_sum]; rw [a, e']
      · have a := gm_sum_2 (F := F) (i := i) (k0 := k0) (k1 := k1) (n := n) h1 (by omega) h3 (by omega) hn (fun k g1 g2 g3 g4 => h k g1 (by omega) g3 g4)
        have b := h (i + n) (by omega) (by omega) (by omega) (by omega)
        simp only [gm_sum]; omega
theorem gm_tel0 (H : Nat → Int) (i j : Nat) : ∀ n : Nat, i + n ≤ j → gm_sum (fun k => H (gm_nx i j k) - H k) i n = H (i + n) - H i
  | 0, _ => by simp only [gm_sum, Nat.add_zero]; omega
  | n + 1, h => by
    have a := gm_tel0 H i j n (by omega)
    have e : gm_nx i j (i + n) = i + (n + 1) := by unfold gm_nx; rw [if_neg (by omega)]; omega
    simp only [gm_sum]; rw [a, e]; omega
theorem gm_tel (H : Nat → Int) {i j : Nat} (h : i ≤ j) : gm_sum (fun k => H (gm_nx i j k) - H k) i (j + 1 - i) = 0 := by
  obtain ⟨n, rfl⟩ : ∃ n, j = i + n := ⟨j - i, by omega⟩
  have e : i + n + 1 - i = n + 1 := by omega
  have a := gm_tel0 H i (i + n) n (by omega)
  have e2 : gm_nx i (i + n) (i + n) = i := by unfold gm_nx; rw [if_pos rfl]
  rw [e]; simp only [gm_sum]; rw [a, e2]; omega
theorem gm_nx_in {i j k : Nat} (h : i ≤ j) (h1 : i ≤ k) (h2 : k ≤ j) : i ≤ gm_nx i j k ∧ gm_nx i j k ≤ j := by
  unfold gm_nx; split <;> omega
theorem gm_pv_in {i j k : Nat} (h1 : i ≤ k) (h2 : k ≤ j) : i ≤ gm_pv i j k ∧ gm_pv i j k ≤ j := by
  unfold gm_pv; split <;> omega
theorem gm_nxpv {i j k : Nat} (h1 : i ≤ k) (h2 : k ≤ j) : gm_nx i j (gm_pv i j k) = k := by
  unfold gm_nx gm_pv
  repeat' split
  all_goals omega
theorem gm_nx_pv {i j k m : Nat} (h1 : i ≤ k) (h2 : k ≤ j) (h : gm_nx i j k = m) : k = gm_pv i j m := by
  unfold gm_nx at h
  unfold gm_pv
  split at h <;> split <;> omega
theorem gm_adj_nx {i j k : Nat} (h : i < j) (h1 : i ≤ k) (h2 : k ≤ j) : gm_adj i j k (gm_nx i j k) := by
  unfold gm_adj gm_nx
  split <;> omega
theorem gm_adj_s {i j a b : Nat} (h : gm_adj i j a b) : gm_adj i j b a := by unfold gm_adj at *; omega
/-- the winding around a point off the edges doesn't depend on the direction -/
theorem gm_F2 {f : Nat → gm_P} {i j : Nat} {d e u : gm_P} (hij : i ≤ j) (ha : 0 < d.1 * e.2 - d.2 * e.1) (h : ∀ k, i ≤ k → k ≤ j → ¬ gm_on (f k) (f (gm_nx i j k)) u) : gm_W f i j d u = gm_W f i j e u := by
  have t := gm_tel (fun k => gm_h (gm_S d u (f k)) (gm_S e u (f k))) hij
  have s := gm_sum_c (F := fun k => gm_Om d u (f k) (f (gm_nx i j k)) - gm_Om e u (f k) (f (gm_nx i j k))) (G := fun k => gm_h (gm_S d u (f (gm_nx i j k))) (gm_S e u (f (gm_nx i j k))) - gm_h (gm_S d u (f k)) (gm_S e u (f k))) (i := i) (n := j + 1 - i) (fun k h1 h2 => gm_L1 ha (h k h1 (by omega)))
  rw [gm_sum_sub] at s
  unfold gm_W gm_cy
  omega
theorem gm_F2' {f : Nat → gm_P} {i j : Nat} {d e u : gm_P} (hij : i ≤ j) (hd : ¬ (d.1 = 0 ∧ d.2 = 0)) (he : ¬ (e.1 = 0 ∧ e.2 = 0)) (h : ∀ k, i ≤ k → k ≤ j → ¬ gm_on (f k) (f (gm_nx i j k)) u) : gm_W f i j d u = gm_W f i j e u := by
  rcases Int.lt_trichotomy (d.1 * e.2 - d.2 * e.1) 0 with g | g | g
  · have q : e.1 * d.2 - e.2 * d.1 = - (d.1 * e.2 - d.2 * e.1) := by grind
    exact (gm_F2 hij (by omega) h).symm
  · have p1 : 0 < d.1 * d.1 + d.2 * d.2 := gm_sqp hd
    have p2 : 0 < e.1 * e.1 + e.2 * e.2 := gm_sqp he
    have r1 : 0 < d.1 * d.1 - d.2 * -d.2 := by
      have : d.1 * d.1 - d.2 * -d.2 = d.1 * d.1 + d.2 * d.2 := by grind
      omega
    have a1 := gm_F2 (d := d) (e := (-d.2, d.1)) hij r1 h
    have i := gm_id2 d.1 d.2 e.1 e.2
    rw [g, Int.mul_zero, Int.add_zero] at i
    have p3 := Int.mul_pos p1 p2
    have ne : d.1 * e.1 + d.2 * e.2 ≠ 0 := by
      intro z
      rw [z] at i
      omega
    rw [a1]
    rcases (show 0 < d.1 * e.1 + d.2 * e.2 ∨ d.1 * e.1 + d.2 * e.2 < 0 by omega) with q | q
    · have r2 : 0 < e.1 * d.1 - e.2 * -d.2 := by
        have : e.1 * d.1 - e.2 * -d.2 = d.1 * e.1 + d.2 * e.2 := by grind
        omega
      exact (gm_F2 (d := e) (e := (-d.2, d.1)) hij r2 h).symm
    · have r2 : 0 < -d.2 * e.2 - d.1 * e.1 := by
        have : -d.2 * e.2 - d.1 * e.1 = - (d.1 * e.1 + d.2 * e.2) := by grind
        omega
      exact gm_F2 (d := (-d.2, d.1)) (e := e) hij r2 h
  · exact gm_F2 hij g h
/-- at a corner: the change of direction shows at its two neighbours alone -/
theorem gm_F2v {f : Nat → gm_P} {i j m : Nat} {d e : gm_P} (hij : i + 2 ≤ j) (h1 : i ≤ m) (h2 : m ≤ j) (ha : 0 < d.1 * e.2 - d.2 * e.1) (h : ∀ k, i ≤ k → k ≤ j → k ≠ m → gm_nx i j k ≠ m → ¬ gm_on (f k) (f (gm_nx i j k)) (f m)) : gm_W f i j d (f m) - gm_W f i j e (f m) = gm_h (gm_S d (f m) (f (gm_pv i j m))) (gm_S e (f m) (f (gm_pv i j m))) - gm_h (gm_S d (f m) (f (gm_nx i j m))) (gm_S e (f m) (f (gm_nx i j m))) := by
  have t := gm_tel (fun k => gm_h (gm_S d (f m) (f k)) (gm_S e (f m) (f k))) (show i ≤ j by omega)
  have pm := gm_pv_in h1 h2
  have npm := gm_nxpv h1 h2
  have ne : gm_pv i j m ≠ m := by unfold gm_pv; split <;> omega
  have s := gm_sum_2 (F := fun k => (gm_Om d (f m) (f k) (f (gm_nx i j k)) - gm_Om e (f m) (f k) (f (gm_nx i j k))) - (gm_h (gm_S d (f m) (f (gm_nx i j k))) (gm_S e (f m) (f (gm_nx i j k))) - gm_h (gm_S d (f m) (f k)) (gm_S e (f m) (f k)))) (i := i) (k0 := m) (k1 := gm_pv i j m) (n := j + 1 - i) h1 (by omega) pm.1 (by omega) (fun z => ne z.symm) (fun k g1 g2 g3 g4 => by
    have := gm_L1 (u := f m) ha (h k g1 (by omega) g3 (fun z => g4 (gm_nx_pv g1 (by omega) z)))
    try dsimp only
    omega)
  rw [gm_sum_sub, gm_sum_sub, t] at s
  try dsimp only at s
  rw [npm, gm_Om_p, gm_Om_p, gm_Om_q, gm_Om_q] at s
  unfold gm_W gm_cy
  omega
theorem gm_VV (u w x : gm_P) : (gm_V u w).1 * (gm_V w x).2 - (gm_V u w).2 * (gm_V w x).1 = gm_O u w x := by unfold gm_V gm_O; grind
theorem gm_VV1 (u w x : gm_P) : (gm_V u w).1 * (gm_V u x).2 - (gm_V u w).2 * (gm_V u x).1 = gm_O u w x := rfl
theorem gm_om_b (x : Int) : gm_om 0 x x = gm_b x := by
  unfold gm_om gm_b
  repeat' split
  all_goals omega
theorem gm_h0 (x : Int) : gm_h 0 x = 0 := by unfold gm_h; rw [if_neg (by decide)]
theorem gm_hn {b : Int} (x : Int) (h : b ≤ 0) : gm_h b x = 0 := by unfold gm_h; rw [if_neg (by omega)]
theorem gm_h1 {b x : Int} (h : 0 < b) (k : x ≤ 0) : gm_h b x = 1 := by unfold gm_h; rw [if_pos h, if_neg (by omega)]
theorem gm_hp {x : Int} (b : Int) (k : 0 < x) : gm_h b x = 0 := by unfold gm_h; split <;> simp [k]
theorem gm_om_c {α β α' β' : Int} (g : Int) (h1 : 0 < α ↔ 0 < α') (h2 : 0 < β ↔ 0 < β') : gm_om α β g = gm_om α' β' g := by
  unfold gm_om
  repeat' split
  all_goals omega
theorem gm_ne {f : Nat → gm_P} {i j a b : Nat} (hs : gm_simp f i j) (h1 : i ≤ a) (h2 : a ≤ j) (h3 : i ≤ b) (h4 : b ≤ j) (h : a ≠ b) : f a ≠ f b := fun e => h (hs.1 a b h1 h2 h3 h4 e)
/-- the winding on the left of an edge is the same for all edges: one step -/
theorem gm_J {f : Nat → gm_P} {i j k : Nat} (h2 : i + 2 ≤ j) (hs : gm_simp f i j) (hk : i ≤ k) (hk' : k < j) : gm_w f i j k = gm_w f i j (k + 1) := by
  have e1 : gm_nx i j k = k + 1 := by unfold gm_nx; rw [if_neg (by omega)]
  have e2 : gm_pv i j (k + 1) = k := by unfold gm_pv; rw [if_neg (by omega)]; omega
  have nn := gm_nx_in (k := k + 1) (show i ≤ j by omega) (by omega) (by omega)
  have nk : gm_nx i j (k + 1) ≠ k := by unfold gm_nx; split <;> omega
  have nk1 : gm_nx i j (k + 1) ≠ k + 1 := by unfold gm_nx; split <;> omega
  have A : gm_W f i j (gm_V (f k) (f (k + 1))) (f k) - gm_W f i j (gm_V (f k) (f (k + 1))) (f (k + 1)) = gm_b (gm_O (f k) (f (k + 1)) (f (gm_nx i j (k + 1)))) := by
    unfold gm_W gm_cy
    rw [← gm_sum_sub, gm_sum_1 (k0 := k + 1) (by omega) (by omega)]
    · try dsimp only
      rw [gm_Om_p, Int.sub_zero]
      unfold gm_Om
      rw [gm_SV, gm_SV, gm_O3, gm_om_b]
    · intro m g1 g2 g3
      try dsimp only
      by_cases e : m = k
      · rw [e, e1, gm_Om_p, gm_Om_q]; rfl
      · have mi := gm_nx_in (k := m) (show i ≤ j by omega) g1 (by omega)
        have n1 : gm_nx i j m ≠ k + 1 := fun z => e (by have := gm_nx_pv g1 (by omega) z; omega)
        have ad := gm_adj_nx (k := k) (show i < j by omega) hk (by omega)
        rw [e1] at ad
        have ad' := gm_adj_nx (k := m) (show i < j by omega) g1 (by omega)
        have r := gm_R (u := f k) (u' := f (k + 1)) (p := f m) (q := f (gm_nx i j m)) (hs.2.2 _ _ _ _ ad ad') (fun z => absurd z (hs.2.1 _ _ _ ad g1 (by omega) e g3)) (fun z => by
          by_cases y : gm_nx i j m = k
          · rw [y]
          · exact absurd z (hs.2.1 _ _ _ ad mi.1 mi.2 y n1)) (hs.2.1 _ _ _ ad' (by omega) (by omega) (fun z => g3 z.symm) (fun z => n1 z.symm))
        omega
  have off : ∀ m, i ≤ m → m ≤ j → m ≠ k + 1 → gm_nx i j m ≠ k + 1 → ¬ gm_on (f m) (f (gm_nx i j m)) (f (k + 1)) := fun m g1 g2 g3 g4 =>
    hs.2.1 _ _ _ (gm_adj_nx (show i < j by omega) g1 g2) (by omega) (by omega) (fun z => g3 z.symm) (fun z => g4 z.symm)
  show gm_W f i j (gm_V (f k) (f (gm_nx i j k))) (f k) = gm_W f i j (gm_V (f (k + 1)) (f (gm_nx i j (k + 1)))) (f (k + 1))
  rw [e1]
  have vv := gm_VV (f k) (f (k + 1)) (f (gm_nx i j (k + 1)))
  have vv' : (gm_V (f (k + 1)) (f (gm_nx i j (k + 1)))).1 * (gm_V (f k) (f (k + 1))).2 - (gm_V (f (k + 1)) (f (gm_nx i j (k + 1)))).2 * (gm_V (f k) (f (k + 1))).1 = - gm_O (f k) (f (k + 1)) (f (gm_nx i j (k + 1))) := by rw [← vv]; grind
  have oc : gm_O (f (k + 1)) (f (gm_nx i j (k + 1))) (f k) = gm_O (f k) (f (k + 1)) (f (gm_nx i j (k + 1))) := (gm_Oc _ _ _).symm
  rcases Int.lt_trichotomy (gm_O (f k) (f (k + 1)) (f (gm_nx i j (k + 1)))) 0 with g | g | g
  · have B := gm_F2v (d := gm_V (f (k + 1)) (f (gm_nx i j (k + 1)))) (e := gm_V (f k) (f (k + 1))) h2 (show i ≤ k + 1 by omega) (show k + 1 ≤ j by omega) (by omega) off
    rw [e2, gm_SV, gm_SV, gm_O3, gm_h0, gm_hn _ (by omega)] at B
    have : gm_b (gm_O (f k) (f (k + 1)) (f (gm_nx i j (k + 1)))) = 0 := by unfold gm_b; rw [if_neg (by omega)]
    omega
  · have c : gm_W f i j (gm_V (f k) (f (k + 1))) (f (k + 1)) = gm_W f i j (gm_V (f (k + 1)) (f (gm_nx i j (k + 1)))) (f (k + 1)) := by
      unfold gm_W gm_cy
      refine gm_sum_c (fun m g1 g2 => ?_)
      have ad := gm_adj_nx (k := k) (show i < j by omega) hk (by omega)
      rw [e1] at ad
      have ad2 := gm_adj_nx (k := k + 1) (show i < j by omega) (by omega) (by omega)
      have nf : ¬ 0 < gm_D (f (k + 1)) (f (gm_nx i j (k + 1))) (f k) := by
        intro z
        rcases gm_fold (oc.trans g) z with y | y
        · exact hs.2.1 _ _ _ ad2 hk (by omega) (by omega) (fun z => nk z.symm) y
        · exact hs.2.1 _ _ _ (gm_adj_s ad) nn.1 nn.2 nk1 nk y
      have pos : 0 < (gm_V (f k) (f (k + 1))).1 * (gm_V (f (k + 1)) (f (gm_nx i j (k + 1)))).1 + (gm_V (f k) (f (k + 1))).2 * (gm_V (f (k + 1)) (f (gm_nx i j (k + 1)))).2 := by
        have q : (gm_V (f k) (f (k + 1))).1 * (gm_V (f (k + 1)) (f (gm_nx i j (k + 1)))).1 + (gm_V (f k) (f (k + 1))).2 * (gm_V (f (k + 1)) (f (gm_nx i j (k + 1)))).2 = - gm_D (f (k + 1)) (f (gm_nx i j (k + 1))) (f k) := by unfold gm_V gm_D; grind
        have p1 : 0 < (gm_V (f k) (f (k + 1))).1 * (gm_V (f k) (f (k + 1))).1 + (gm_V (f k) (f (k + 1))).2 * (gm_V (f k) (f (k + 1))).2 := by
          refine gm_sqp (fun y => gm_ne hs hk (by omega) (show i ≤ k + 1 by omega) (by omega) (by omega) ?_)
          have y1 := y.1
          have y2 := y.2
          unfold gm_V at y1 y2
          try dsimp only at y1 y2
          exact Prod.ext (by omega) (by omega)
        have p2 : 0 < (gm_V (f (k + 1)) (f (gm_nx i j (k + 1)))).1 * (gm_V (f (k + 1)) (f (gm_nx i j (k + 1)))).1 + (gm_V (f (k + 1)) (f (gm_nx i j (k + 1)))).2 * (gm_V (f (k + 1)) (f (gm_nx i j (k + 1)))).2 := by
          refine gm_sqp (fun y => gm_ne hs (show i ≤ k + 1 by omega) (by omega) nn.1 nn.2 (fun z => nk1 z.symm) ?_)
          have y1 := y.1
          have y2 := y.2
          unfold gm_V at y1 y2
          try dsimp only at y1 y2
          exact Prod.ext (by omega) (by omega)
        have i2 := gm_id2 (gm_V (f k) (f (k + 1))).1 (gm_V (f k) (f (k + 1))).2 (gm_V (f (k + 1)) (f (gm_nx i j (k + 1)))).1 (gm_V (f (k + 1)) (f (gm_nx i j (k + 1)))).2
        rw [vv, g, Int.mul_zero, Int.add_zero] at i2
        have p3 := Int.mul_pos p1 p2
        have ne : (gm_V (f k) (f (k + 1))).1 * (gm_V (f (k + 1)) (f (gm_nx i j (k + 1)))).1 + (gm_V (f k) (f (k + 1))).2 * (gm_V (f (k + 1)) (f (gm_nx i j (k + 1)))).2 ≠ 0 := by
          intro z
          rw [z] at i2
          omega
        omega
      have pos' : 0 < (gm_V (f (k + 1)) (f (gm_nx i j (k + 1)))).1 * (gm_V (f k) (f (k + 1))).1 + (gm_V (f (k + 1)) (f (gm_nx i j (k + 1)))).2 * (gm_V (f k) (f (k + 1))).2 := by
        have q : (gm_V (f (k + 1)) (f (gm_nx i j (k + 1)))).1 * (gm_V (f k) (f (k + 1))).1 + (gm_V (f (k + 1)) (f (gm_nx i j (k + 1)))).2 * (gm_V (f k) (f (k + 1))).2 = (gm_V (f k) (f (k + 1))).1 * (gm_V (f (k + 1)) (f (gm_nx i j (k + 1)))).1 + (gm_V (f k) (f (k + 1))).2 * (gm_V (f (k + 1)) (f (gm_nx i j (k + 1)))).2 := by grind
        rw [q]; exact pos
      have key : ∀ x : gm_P, 0 < gm_S (gm_V (f k) (f (k + 1))) (f (k + 1)) x ↔ 0 < gm_S (gm_V (f (k + 1)) (f (gm_nx i j (k + 1)))) (f (k + 1)) x := by
        intro x
        have a := (gm_col1 (d1 := x.1 - (f (k + 1)).1) (d2 := x.2 - (f (k + 1)).2) (vv.trans g) pos).2
        have b := (gm_col1 (d1 := x.1 - (f (k + 1)).1) (d2 := x.2 - (f (k + 1)).2) (vv'.trans (by omega)) pos').2
        have c1 : gm_S (gm_V (f k) (f (k + 1))) (f (k + 1)) x = - ((x.1 - (f (k + 1)).1) * (gm_V (f k) (f (k + 1))).2 - (x.2 - (f (k + 1)).2) * (gm_V (f k) (f (k + 1))).1) := by unfold gm_S; grind
        have c2 : gm_S (gm_V (f (k + 1)) (f (gm_nx i j (k + 1)))) (f (k + 1)) x = - ((x.1 - (f (k + 1)).1) * (gm_V (f (k + 1)) (f (gm_nx i j (k + 1)))).2 - (x.2 - (f (k + 1)).2) * (gm_V (f (k + 1)) (f (gm_nx i j (k + 1)))).1) := by unfold gm_S; grind
        rw [c1, c2]
        constructor
        · intro z
          have := a (by omega)
          omega
        · intro z
          have := b (by omega)
          omega
      exact gm_om_c _ (key _) (key _)
    have : gm_b (gm_O (f k) (f (k + 1)) (f (gm_nx i j (k + 1)))) = 0 := by unfold gm_b; rw [if_neg (by omega)]
    omega
  · have B := gm_F2v (d := gm_V (f k) (f (k + 1))) (e := gm_V (f (k + 1)) (f (gm_nx i j (k + 1)))) h2 (show i ≤ k + 1 by omega) (show k + 1 ≤ j by omega) (by omega) off
    rw [e2, gm_SV', gm_SV', gm_SV, gm_SV, gm_O2, gm_h0, gm_O3, gm_h1 g (by decide)] at B
    have : gm_b (gm_O (f k) (f (k + 1)) (f (gm_nx i j (k + 1)))) = 1 := by unfold gm_b; rw [if_pos g]
    omega
theorem gm_Jall {f : Nat → gm_P} {i j : Nat} (h2 : i + 2 ≤ j) (hs : gm_simp f i j) : ∀ n, i + n ≤ j → gm_w f i j (i + n) = gm_w f i j i
  | 0, _ => rfl
  | n + 1, h => by
    have a := gm_Jall h2 hs n (by omega)
    have b := gm_J (k := i + n) h2 hs (by omega) (by omega)
    have e : i + (n + 1) = i + n + 1 := by omega
    rw [e, ← b, a]
theorem gm_Jk {f : Nat → gm_P} {i j k : Nat} (h2 : i + 2 ≤ j) (hs : gm_simp f i j) (h : i ≤ k) (h' : k ≤ j) : gm_w f i j k = gm_w f i j i := by
  have := gm_Jall h2 hs (k - i) (by omega)
  rwa [show i + (k - i) = k by omega] at this
/-! extreme corners -/
def gm_ext (f : Nat → gm_P) (i j m : Nat) (l : gm_P) : Prop := ∀ x, i ≤ x → x ≤ j → x ≠ m → gm_H l (f m) (f x)
/-- at an extreme corner the winding on the left is 1 for a left turn, else 0 -/
theorem gm_extw {f : Nat → gm_P} {i j m : Nat} {l : gm_P} (h2 : i + 2 ≤ j) (h3 : i ≤ m) (h4 : m ≤ j) (hx : gm_ext f i j m l) : gm_w f i j m = gm_b (gm_O (f m) (f (gm_nx i j m)) (f (gm_pv i j m))) := by
  have nn := gm_nx_in (show i ≤ j by omega) h3 h4
  have pp := gm_pv_in h3 h4
  have npm := gm_nxpv h3 h4
  have nm : gm_nx i j m ≠ m := by unfold gm_nx; split <;> omega
  have pm : gm_pv i j m ≠ m := by unfold gm_pv; split <;> omega
  have t := gm_tel (fun k => gm_b (gm_O (f m) (f (gm_nx i j m)) (f k))) (show i ≤ j by omega)
  have hc := hx _ nn.1 nn.2 nm
  have b0 : gm_b 0 = 0 := by unfold gm_b; rw [if_neg (by decide)]
  have s := gm_sum_1 (F := fun k => gm_Om (gm_V (f m) (f (gm_nx i j m))) (f m) (f k) (f (gm_nx i j k)) - (gm_b (gm_O (f m) (f (gm_nx i j m)) (f (gm_nx i j k))) - gm_b (gm_O (f m) (f (gm_nx i j m)) (f k)))) (i := i) (k0 := gm_pv i j m) (n := j + 1 - i) pp.1 (by omega) (fun k g1 g2 g3 => by
    try dsimp only
    by_cases e : k = m
    · rw [e, gm_Om_p, gm_O3, gm_O2, b0]; rfl
    · have kn := gm_nx_in (k := k) (show i ≤ j by omega) g1 (by omega)
      have := gm_L3 hc (hx k g1 (by omega) e) (hx _ kn.1 kn.2 (fun z => g3 (gm_nx_pv g1 (by omega) z)))
      omega)
  rw [gm_sum_sub, t] at s
  try dsimp only at s
  rw [npm, gm_Om_q, gm_O2, b0] at s
  unfold gm_w gm_W gm_cy
  omega
/-- an extreme corner turns -/
theorem gm_extn {f : Nat → gm_P} {i j m : Nat} {l : gm_P} (h2 : i + 2 ≤ j) (hs : gm_simp f i j) (h3 : i ≤ m) (h4 : m ≤ j) (hx : gm_ext f i j m l) : gm_O (f m) (f (gm_nx i j m)) (f (gm_pv i j m)) ≠ 0 := by
  intro z
  have nn := gm_nx_in (show i ≤ j by omega) h3 h4
  have pp := gm_pv_in h3 h4
  have npm := gm_nxpv h3 h4
  have nm : gm_nx i j m ≠ m := by unfold gm_nx; split <;> omega
  have pm : gm_pv i j m ≠ m := by unfold gm_pv; split <;> omega
  have np : gm_nx i j m ≠ gm_pv i j m := by
    unfold gm_nx gm_pv
    repeat' split
    all_goals omega
  have d := gm_L3b (hx _ pp.1 pp.2 pm) (hx _ nn.1 nn.2 nm) z
  have ad := gm_adj_nx (k := m) (show i < j by omega) h3 h4
  have ad' := gm_adj_nx (k := gm_pv i j m) (show i < j by omega) pp.1 pp.2
  rw [npm] at ad'
  rcases gm_fold z d with y | y
  · exact hs.2.1 _ _ _ ad pp.1 pp.2 pm (fun z => np z.symm) y
  · exact hs.2.1 _ _ _ (gm_adj_s ad') nn.1 nn.2 nm np y
/-- there is one for each direction -/
theorem gm_ext_ex {f : Nat → gm_P} {i : Nat} (l : gm_P) (hl : ¬ (l.1 = 0 ∧ l.2 = 0)) : ∀ n, (∀ a b, i ≤ a → a ≤ i + n → i ≤ b → b ≤ i + n → f a = f b → a = b) → ∃ m, i ≤ m ∧ m ≤ i + n ∧ gm_ext f i (i + n) m l := by
  intro n
  induction n with
  | zero => intro _; exact ⟨i, by omega, by omega, fun x h1 h2 h3 => by omega⟩
  | succ n ih =>
    intro hd
    obtain ⟨m, m1, m2, hm⟩ := ih (fun a b h1 h2 h3 h4 => hd a b h1 (by omega) h3 (by omega))
    have ne : f m ≠ f (i + (n + 1)) := fun e => by have := hd m (i + (n + 1)) m1 (by omega) (by omega) (by omega) e; omega
    have S : ∀ a b : gm_P, gm_S l a b = (l.1 * b.2 - l.2 * b.1) - (l.1 * a.2 - l.2 * a.1) := by intro a b; unfold gm_S; grind
    have T : ∀ a b : gm_P, l.1 * (b.1 - a.1) + l.2 * (b.2 - a.2) = (l.1 * b.1 + l.2 * b.2) - (l.1 * a.1 + l.2 * a.2) := by intro a b; grind
    have key : ∀ a b : gm_P, gm_H l a b ↔ ((l.1 * a.2 - l.2 * a.1) < (l.1 * b.2 - l.2 * b.1) ∨ ((l.1 * a.2 - l.2 * a.1) = (l.1 * b.2 - l.2 * b.1) ∧ (l.1 * a.1 + l.2 * a.2) < (l.1 * b.1 + l.2 * b.2))) := by
      intro a b
      unfold gm_H
      rw [S, T]
      omega
    have tot : gm_H l (f m) (f (i + (n + 1))) ∨ gm_H l (f (i + (n + 1))) (f m) := by
      refine Classical.byContradiction fun z => ne ?_
      rw [key, key] at z
      have q1 : l.1 * ((f m).2 - (f (i + (n + 1))).2) - l.2 * ((f m).1 - (f (i + (n + 1))).1) = 0 := by
        have := S (f (i + (n + 1))) (f m)
        unfold gm_S at this
        omega
      have q2 : l.1 * ((f m).1 - (f (i + (n + 1))).1) + l.2 * ((f m).2 - (f (i + (n + 1))).2) = 0 := by
        have := T (f (i + (n + 1))) (f m)
        omega
      have i2 := gm_id2 l.1 l.2 ((f m).1 - (f (i + (n + 1))).1) ((f m).2 - (f (i + (n + 1))).2)
      rw [q1, q2] at i2
      have p := gm_sqp hl
      have r : ((f m).1 - (f (i + (n + 1))).1) * ((f m).1 - (f (i + (n + 1))).1) + ((f m).2 - (f (i + (n + 1))).2) * ((f m).2 - (f (i + (n + 1))).2) = 0 := by
        have s := gm_sg (l.1 * l.1 + l.2 * l.2) (((f m).1 - (f (i + (n + 1))).1) * ((f m).1 - (f (i + (n + 1))).1) + ((f m).2 - (f (i + (n + 1))).2) * ((f m).2 - (f (i + (n + 1))).2))
        omega
      have r2 : (f m).1 - (f (i + (n + 1))).1 = 0 ∧ (f m).2 - (f (i + (n + 1))).2 = 0 := by
        refine Classical.byContradiction fun y => ?_
        have := gm_sqp y
        omega
      exact Prod.ext (by omega) (by omega)
    rcases tot with t | t
    · refine ⟨m, m1, by omega, fun x h1 h2 h3 => ?_⟩
      by_cases e : x = i + (n + 1)
      · rw [e]; exact t
      · exact hm x h1 (by omega) h3
    · refine ⟨i + (n + 1), by omega, by omega, fun x h1 h2 h3 => ?_⟩
      by_cases e : x = m
      · rw [e]; exact t
      · have a := hm x h1 (by omega) e
        rw [key] at a t ⊢
        omega
end
section
/-! a simple polygon that runs to the left has an ear, away from its closing edge -/
theorem gm_argmax {i : Nat} (Q : Nat → Prop) (key : Nat → Int) : ∀ n, (∃ x, i ≤ x ∧ x ≤ i + n ∧ Q x) → ∃ l, i ≤ l ∧ l ≤ i + n ∧ Q l ∧ ∀ x, i ≤ x → x ≤ i + n → Q x → key x ≤ key l := by
  intro n
  induction n with
  | zero =>
    intro ⟨x, h1, h2, h3⟩
    refine ⟨x, h1, h2, h3, fun y g1 g2 g3 => ?_⟩
    rw [show y = x by omega]
    exact Int.le_refl _
  | succ n ih =>
    intro ⟨x, h1, h2, h3⟩
    by_cases q : ∃ x, i ≤ x ∧ x ≤ i + n ∧ Q x
    · obtain ⟨l, l1, l2, l3, l4⟩ := ih q
      by_cases w : Q (i + (n + 1)) ∧ key l < key (i + (n + 1))
      · refine ⟨i + (n + 1), by omega, by omega, w.1, fun y g1 g2 g3 => ?_⟩
        by_cases e : y = i + (n + 1)
        · rw [e]; exact Int.le_refl _
        · have := l4 y g1 (by omega) g3
          omega
      · refine ⟨l, l1, by omega, l3, fun y g1 g2 g3 => ?_⟩
        by_cases e : y = i + (n + 1)
        · rw [e] at g3 ⊢
          have : ¬ key l < key (i + (n + 1)) := fun z => w ⟨g3, z⟩
          omega
        · exact l4 y g1 (by omega) g3
    · have e : x = i + (n + 1) := by
        refine Classical.byContradiction fun z => q ⟨x, h1, by omega, h3⟩
      refine ⟨x, h1, h2, h3, fun y g1 g2 g3 => ?_⟩
      have e' : y = i + (n + 1) := by
        refine Classical.byContradiction fun z => q ⟨y, g1, by omega, g3⟩
      rw [e, e']; exact Int.le_refl _
theorem gm_V0 {x x' : gm_P} (h : x ≠ x') : ¬ ((gm_V x x').1 = 0 ∧ (gm_V x x').2 = 0) := by
  intro z
  have z1 := z.1
  have z2 := z.2
  unfold gm_V at z1 z2
  try dsimp only at z1 z2
  exact h (Prod.ext (by omega) (by omega))
/-- along a segment that doesn't meet the polygon behind its start -/
theorem gm_step {f : Nat → gm_P} {r s : Nat} {x x' : gm_P} (hrs : r + 2 ≤ s) (h0 : gm_W f r s (gm_V x x') x = 0) (ne : x ≠ x') (c1 : ∀ k, r ≤ k → k ≤ s → ¬ gm_px x x' (f k) (f (gm_nx r s k))) (c2 : ∀ k, r ≤ k → k ≤ s → gm_on x x' (f k) → f k = x) (c4 : ∀ k, r ≤ k → k ≤ s → ¬ gm_on (f k) (f (gm_nx r s k)) x') (d : gm_P) (hd : ¬ (d.1 = 0 ∧ d.2 = 0)) : gm_W f r s d x' = 0 := by
  have e : gm_W f r s (gm_V x x') x = gm_W f r s (gm_V x x') x' := by
    unfold gm_W gm_cy
    refine gm_sum_c (fun k g1 g2 => ?_)
    have kn := gm_nx_in (k := k) (show r ≤ s by omega) g1 (by omega)
    exact gm_R (c1 k g1 (by omega)) (c2 k g1 (by omega)) (c2 _ kn.1 kn.2) (c4 k g1 (by omega))
  rw [gm_F2' (d := d) (e := gm_V x x') (by omega) hd (gm_V0 ne) c4, ← e, h0]
/-- a point in the triangle of an ear is wound around -/
theorem gm_earx {f : Nat → gm_P} {r s t : Nat} {x : gm_P} (hrs : r + 2 ≤ s) (hs : gm_simp f r s) (hw : gm_w f r s r = 1) (t1 : r < t) (t2 : t < s) (hT : 0 < gm_O (f (t - 1)) (f t) (f (t + 1))) (he : ∀ y, r ≤ y → y ≤ s → y ≠ t - 1 → y ≠ t → y ≠ t + 1 → ¬ gm_in (f (t - 1)) (f t) (f (t + 1)) (f y)) (xo : ∀ k, r ≤ k → k ≤ s → ¬ gm_on (f k) (f (gm_nx r s k)) x) (xin : gm_in (f (t - 1)) (f t) (f (t + 1)) x) (hz : ∀ d : gm_P, ¬ (d.1 = 0 ∧ d.2 = 0) → gm_W f r s d x = 0) : False := by
  have n1 : gm_nx r s t = t + 1 := by unfold gm_nx; rw [if_neg (by omega)]
  have p1 : gm_pv r s t = t - 1 := by unfold gm_pv; rw [if_neg (by omega)]
  have n2 : gm_nx r s (t - 1) = t := by unfold gm_nx; rw [if_neg (by omega)]; omega
  have ad1 := gm_adj_nx (k := t - 1) (show r < s by omega) (by omega) (by omega)
  rw [n2] at ad1
  have ad2 := gm_adj_nx (k := t) (show r < s by omega) (by omega) (by omega)
  rw [n1] at ad2
  have o1 := xo (t - 1) (by omega) (by omega)
  rw [n2] at o1
  have o2 := xo t (by omega) (by omega)
  rw [n1] at o2
  have z1 := gm_strict hT xin o1
  have z2 := gm_strict2 hT xin o2
  have z3 := xin.2.2
  have wt : gm_w f r s t = 1 := by rw [gm_Jk hrs hs (by omega) (by omega), hw]
  unfold gm_w at wt
  rw [n1] at wt
  have eva : gm_O (f t) x (f (t - 1)) = gm_O (f (t - 1)) (f t) x := by unfold gm_O; grind
  have evc : gm_O (f t) x (f (t + 1)) = - gm_O (f t) (f (t + 1)) x := by unfold gm_O; grind
  have B := gm_F2v (f := f) (i := r) (j := s) (m := t) (d := gm_V (f t) (f (t + 1))) (e := gm_V (f t) x) hrs (by omega) (by omega) (by rw [gm_VV1]; exact z2) (fun k g1 g2 g3 g4 => hs.2.1 _ _ _ (gm_adj_nx (show r < s by omega) g1 g2) (by omega) (by omega) (fun z => g3 z.symm) (fun z => g4 z.symm))
  rw [n1, p1, gm_SV, gm_SV, gm_SV, gm_SV, gm_O3, gm_h0, gm_hp _ (by omega)] at B
  have W1 : gm_W f r s (gm_V (f t) x) (f t) = 1 := by omega
  have nt : f t ≠ x := by
    intro z
    rw [← z, gm_O3] at z1
    omega
  have e : gm_W f r s (gm_V (f t) x) (f t) = gm_W f r s (gm_V (f t) x) x := by
    unfold gm_W gm_cy
    refine gm_sum_c (fun k g1 g2 => ?_)
    have kn := gm_nx_in (k := k) (show r ≤ s by omega) g1 (by omega)
    have c2 : ∀ y, r ≤ y → y ≤ s → gm_on (f t) x (f y) → f y = f t := by
      intro y y1 y2 h
      by_cases e : y = t
      · rw [e]
      · exfalso
        have ny : f y ≠ f t := gm_ne hs y1 y2 (by omega) (by omega) e
        have q1 := gm_seg (f (t - 1)) (f t) h (by rw [gm_O3]; exact Int.le_refl _) (by omega) ny
        have q2 := gm_seg (f t) (f (t + 1)) h (by rw [gm_O2]; exact Int.le_refl _) (by omega) ny
        have q3 := gm_seg (f (t + 1)) (f (t - 1)) h (by rw [gm_Oc]; omega) z3 ny
        by_cases e1 : y = t - 1
        · have := h.1
          rw [e1] at this
          omega
        · by_cases e2 : y = t + 1
          · have := h.1
            rw [e2] at this
            omega
          · exact he y y1 y2 e1 e e2 ⟨q1, q2, q3⟩
    have c1 : ∀ p q, gm_adj r s p q → gm_px (f t) x (f p) (f q) → ¬ gm_O (f (t + 1)) (f (t - 1)) x < gm_O (f (t + 1)) (f (t - 1)) (f p) := by
      intro p q ad px hi
      have ap := ad.1
      have np : ∀ y, gm_O (f t) x (f y) = 0 → p ≠ y := by
        intro y hy e
        have := px.1
        rw [e] at this
        unfold gm_opp at this
        omega
      have npt : p ≠ t := np t (gm_O2 _ _)
      have npa : p ≠ t - 1 := fun e => by rw [e, gm_O3] at hi; omega
      have npc : p ≠ t + 1 := fun e => by rw [e, gm_O2] at hi; omega
      rcases gm_CR hT z1 z2 z3 px (by omega) (he p ap.1 ap.2.1 npa npt npc) with h | h
      · exact hs.2.2 _ _ _ _ ad1 ad h
      · exact hs.2.2 _ _ _ _ ad2 ad h
    have ad := gm_adj_nx (k := k) (show r < s by omega) g1 (by omega)
    refine gm_R (fun px => ?_) (c2 k g1 (by omega)) (c2 _ kn.1 kn.2) (xo k g1 (by omega))
    rcases gm_hi (a := f (t - 1)) (c := f (t + 1)) (gm_low z1 z2) px with h | h
    · exact c1 _ _ ad px h
    · exact c1 _ _ (gm_adj_s ad) (gm_px_s2 px) h
  have := hz (gm_V (f t) x) (gm_V0 nt)
  omega
/-- an extreme corner off the closing edge -/
theorem gm_mid {f : Nat → gm_P} {i j : Nat} (h2 : i + 2 ≤ j) (hs : gm_simp f i j) : ∃ m l, i < m ∧ m < j ∧ gm_ext f i j m l := by
  have ne := gm_ne hs (a := i) (b := j) (by omega) (by omega) (by omega) (by omega) (by omega)
  have v0 := gm_V0 ne
  have v1 : ¬ ((gm_V (f j) (f i)).1 = 0 ∧ (gm_V (f j) (f i)).2 = 0) := gm_V0 (fun z => ne z.symm)
  have ij : i + (j - i) = j := by omega
  have E1 := gm_ext_ex (f := f) (i := i) (gm_V (f i) (f j)) v0 (j - i) (by rw [ij]; exact hs.1)
  have E2 := gm_ext_ex (f := f) (i := i) (gm_V (f j) (f i)) v1 (j - i) (by rw [ij]; exact hs.1)
  rw [ij] at E1 E2
  obtain ⟨m1, a1, a2, a3⟩ := E1
  obtain ⟨m2, b1, b2, b3⟩ := E2
  by_cases q1 : m1 = i ∨ m1 = j
  · by_cases q2 : m2 = i ∨ m2 = j
    · exfalso
      have k1 : ∀ x, i ≤ x → x ≤ j → 0 ≤ gm_O (f i) (f j) (f x) := by
        intro x x1 x2
        by_cases e : x = m1
        · rcases q1 with q | q
          · rw [e, q, gm_O2]; exact Int.le_refl _
          · rw [e, q, gm_O3]; exact Int.le_refl _
        · have h := a3 x x1 x2 e
          have g : gm_S (gm_V (f i) (f j)) (f m1) (f x) = gm_O (f i) (f j) (f x) := by
            rcases q1 with q | q
            · rw [q, gm_SV]
            · rw [q, gm_SV']
          unfold gm_H at h
          rw [g] at h
          omega
      have k2 : ∀ x, i ≤ x → x ≤ j → 0 ≤ gm_O (f j) (f i) (f x) := by
        intro x x1 x2
        by_cases e : x = m2
        · rcases q2 with q | q
          · rw [e, q, gm_O3]; exact Int.le_refl _
          · rw [e, q, gm_O2]; exact Int.le_refl _
        · have h := b3 x x1 x2 e
          have g : gm_S (gm_V (f j) (f i)) (f m2) (f x) = gm_O (f j) (f i) (f x) := by
            rcases q2 with q | q
            · rw [q, gm_SV']
            · rw [q, gm_SV]
          unfold gm_H at h
          rw [g] at h
          omega
      have k : ∀ x, i ≤ x → x ≤ j → gm_O (f i) (f j) (f x) = 0 := by
        intro x x1 x2
        have h1 := k1 x x1 x2
        have h2 := k2 x x1 x2
        have h3 := gm_Os (f i) (f j) (f x)
        omega
      refine gm_extn h2 hs a1 a2 a3 ?_
      have nn := gm_nx_in (k := m1) (show i ≤ j by omega) a1 a2
      have pp := gm_pv_in a1 a2
      have x0 := k m1 a1 a2
      have x1 := k _ nn.1 nn.2
      have x2 := k _ pp.1 pp.2
      have e : gm_O (f m1) (f (gm_nx i j m1)) (f (gm_pv i j m1)) * gm_D (f i) (f j) (f j) = (gm_O (f i) (f j) (f (gm_pv i j m1)) - gm_O (f i) (f j) (f m1)) * (((f j).1 - (f i).1) * ((f (gm_nx i j m1)).1 - (f m1).1) + ((f j).2 - (f i).2) * ((f (gm_nx i j m1)).2 - (f m1).2)) - (gm_O (f i) (f j) (f (gm_nx i j m1)) - gm_O (f i) (f j) (f m1)) * (((f j).1 - (f i).1) * ((f (gm_pv i j m1)).1 - (f m1).1) + ((f j).2 - (f i).2) * ((f (gm_pv i j m1)).2 - (f m1).2)) := by
        unfold gm_O gm_D; grind
      rw [x0, x1, x2] at e
      have dp : 0 < gm_D (f i) (f j) (f j) := gm_sqp v0
      have s := gm_sg (gm_O (f m1) (f (gm_nx i j m1)) (f (gm_pv i j m1))) (gm_D (f i) (f j) (f j))
      simp only [Int.sub_self, Int.zero_mul] at e
      omega
    · exact ⟨m2, _, by omega, by omega, b3⟩
  · exact ⟨m1, _, by omega, by omega, a3⟩
/-- the diagonal from an extreme corner that is no ear -/
theorem gm_diag {f : Nat → gm_P} {i j m l : Nat} (hs : gm_simp f i j) (h1 : i < m) (h2 : m < j) (l1 : i ≤ l) (l2 : l ≤ j) (hT : 0 < gm_O (f (m - 1)) (f m) (f (m + 1))) (ln : l ≠ m - 1 ∧ l ≠ m ∧ l ≠ m + 1) (lin : gm_in (f (m - 1)) (f m) (f (m + 1)) (f l)) (mx : ∀ x, i ≤ x → x ≤ j → x ≠ m - 1 ∧ x ≠ m ∧ x ≠ m + 1 → gm_in (f (m - 1)) (f m) (f (m + 1)) (f x) → gm_O (f (m + 1)) (f (m - 1)) (f x) ≤ gm_O (f (m + 1)) (f (m - 1)) (f l)) : 0 < gm_O (f (m - 1)) (f m) (f l) ∧ 0 < gm_O (f m) (f (m + 1)) (f l) ∧ (∀ x, i ≤ x → x ≤ j → x ≠ m → x ≠ l → ¬ gm_on (f m) (f l) (f x)) ∧ (∀ p q, gm_adj i j p q → ¬ gm_px (f m) (f l) (f p) (f q)) := by
  have ad1 : gm_adj i j (m - 1) m := by unfold gm_adj; omega
  have ad2 : gm_adj i j m (m + 1) := by unfold gm_adj; omega
  have z1 := gm_strict hT lin (hs.2.1 _ _ _ ad1 l1 l2 ln.1 ln.2.1)
  have z2 := gm_strict2 hT lin (hs.2.1 _ _ _ ad2 l1 l2 ln.2.1 ln.2.2)
  have z3 := lin.2.2
  have lo := gm_low z1 z2
  have eva : gm_O (f m) (f l) (f (m - 1)) = gm_O (f (m - 1)) (f m) (f l) := by unfold gm_O; grind
  have evc : gm_O (f m) (f l) (f (m + 1)) = - gm_O (f m) (f (m + 1)) (f l) := by unfold gm_O; grind
  refine ⟨z1, z2, ?_, ?_⟩
  · intro x x1 x2 n1 n2 h
    have nv : f x ≠ f m := gm_ne hs x1 x2 (by omega) (by omega) n1
    have nz : f x ≠ f l := gm_ne hs x1 x2 l1 l2 n2
    have xa : x ≠ m - 1 := fun e => by have := h.1; rw [e] at this; omega
    have xc : x ≠ m + 1 := fun e => by have := h.1; rw [e] at this; omega
    have q1 := gm_seg (f (m - 1)) (f m) h (by rw [gm_O3]; exact Int.le_refl _) (by omega) nv
    have q2 := gm_seg (f m) (f (m + 1)) h (by rw [gm_O2]; exact Int.le_refl _) (by omega) nv
    have q3 := gm_seg (f (m + 1)) (f (m - 1)) h (by omega) z3 nv
    have := mx x x1 x2 ⟨xa, n1, xc⟩ ⟨q1, q2, q3⟩
    have := gm_segh (f (m + 1)) (f (m - 1)) h lo nv nz
    omega
  · have c1 : ∀ p q, gm_adj i j p q → gm_px (f m) (f l) (f p) (f q) → ¬ gm_O (f (m + 1)) (f (m - 1)) (f l) < gm_O (f (m + 1)) (f (m - 1)) (f p) := by
      intro p q ad px hi
      have ap := ad.1
      have np : ∀ y, gm_O (f m) (f l) (f y) = 0 → p ≠ y := by
        intro y hy e
        have := px.1
        rw [e] at this
        unfold gm_opp at this
        omega
      have npm : p ≠ m := np m (gm_O2 _ _)
      have npa : p ≠ m - 1 := fun e => by rw [e, gm_O3] at hi; omega
      have npc : p ≠ m + 1 := fun e => by rw [e, gm_O2] at hi; omega
      have no : ¬ gm_in (f (m - 1)) (f m) (f (m + 1)) (f p) := fun z => by
        have := mx p ap.1 ap.2.1 ⟨npa, npm, npc⟩ z
        omega
      rcases gm_CR hT z1 z2 z3 px (by omega) no with h | h
      · exact hs.2.2 _ _ _ _ ad1 ad h
      · exact hs.2.2 _ _ _ _ ad2 ad h
    intro p q ad px
    rcases gm_hi (a := f (m - 1)) (c := f (m + 1)) lo px with h | h
    · exact c1 _ _ ad px h
    · exact c1 _ _ (gm_adj_s ad) (gm_px_s2 px) h
theorem gm_sub {f : Nat → gm_P} {i j r s : Nat} (hs : gm_simp f i j) (h1 : i ≤ r) (h2 : r + 2 ≤ s) (h3 : s ≤ j) (d1 : ∀ x, i ≤ x → x ≤ j → x ≠ r → x ≠ s → ¬ gm_on (f r) (f s) (f x)) (d2 : ∀ p q, gm_adj i j p q → ¬ gm_px (f r) (f s) (f p) (f q)) : gm_simp f r s := by
  have ad : ∀ a b, gm_adj r s a b → gm_adj i j a b ∨ (a = r ∧ b = s) ∨ (a = s ∧ b = r) := by
    intro a b h
    unfold gm_adj at *
    omega
  refine ⟨fun a b g1 g2 g3 g4 => hs.1 a b (by omega) (by omega) (by omega) (by omega), ?_, ?_⟩
  · intro a b x h g1 g2 g3 g4 on
    rcases ad a b h with k | ⟨k1, k2⟩ | ⟨k1, k2⟩
    · exact hs.2.1 a b x k (by omega) (by omega) g3 g4 on
    · rw [k1, k2] at on
      exact d1 x (by omega) (by omega) (by omega) (by omega) on
    · rw [k1, k2] at on
      exact d1 x (by omega) (by omega) (by omega) (by omega) (gm_on_s on)
  · intro a b c e h g px
    have self : ∀ a b : gm_P, ¬ gm_px a b a b := by
      intro a b h
      have := h.1
      rw [gm_O2] at this
      unfold gm_opp at this
      omega
    have self2 : ∀ a b : gm_P, ¬ gm_px a b b a := fun a b h => self a b (gm_px_s2 h)
    rcases ad a b h with k | ⟨k1, k2⟩ | ⟨k1, k2⟩ <;> rcases ad c e g with y | ⟨y1, y2⟩ | ⟨y1, y2⟩
    · exact hs.2.2 a b c e k y px
    · rw [y1, y2] at px; exact d2 _ _ k (gm_px_s px)
    · rw [y1, y2] at px; exact d2 _ _ k (gm_px_s1 (gm_px_s px))
    · rw [k1, k2] at px; exact d2 _ _ y px
    · rw [k1, k2, y1, y2] at px; exact self _ _ px
    · rw [k1, k2, y1, y2] at px; exact self2 _ _ px
    · rw [k1, k2] at px; exact d2 _ _ y (gm_px_s1 px)
    · rw [k1, k2, y1, y2] at px; exact self2 _ _ px
    · rw [k1, k2, y1, y2] at px; exact self _ _ px
/-- an edge of the range r .. s -/
theorem gm_edge {i j r s k : Nat} (h1 : i ≤ r) (h2 : r + 2 ≤ s) (h3 : s ≤ j) (k1 : r ≤ k) (k2 : k ≤ s) : gm_adj i j k (gm_nx r s k) ∨ (k = s ∧ gm_nx r s k = r) := by
  unfold gm_adj gm_nx
  split <;> omega
theorem gm_off {f : Nat → gm_P} {i j r s x : Nat} (hs : gm_simp f i j) (h1 : i ≤ r) (h2 : r + 2 ≤ s) (h3 : s ≤ j) (d1 : ∀ x, i ≤ x → x ≤ j → x ≠ r → x ≠ s → ¬ gm_on (f r) (f s) (f x)) (x1 : i ≤ x) (x2 : x ≤ j) (x3 : x < r ∨ s < x) (k : Nat) (k1 : r ≤ k) (k2 : k ≤ s) : ¬ gm_on (f k) (f (gm_nx r s k)) (f x) := by
  intro on
  have kn := gm_nx_in (show r ≤ s by omega) k1 k2
  rcases gm_edge h1 h2 h3 k1 k2 with a | ⟨a1, a2⟩
  · exact hs.2.1 _ _ _ a x1 x2 (by omega) (by omega) on
  · rw [a2, a1] at on
    exact d1 x x1 x2 (by omega) (by omega) (gm_on_s on)
theorem gm_out {f : Nat → gm_P} {i j r s x x' : Nat} (hs : gm_simp f i j) (h1 : i ≤ r) (h2 : r + 2 ≤ s) (h3 : s ≤ j) (d1 : ∀ x, i ≤ x → x ≤ j → x ≠ r → x ≠ s → ¬ gm_on (f r) (f s) (f x)) (d2 : ∀ p q, gm_adj i j p q → ¬ gm_px (f r) (f s) (f p) (f q)) (ad : gm_adj i j x x') (ne : x ≠ x') (xo : x' < r ∨ s < x') (h0 : gm_W f r s (gm_V (f x) (f x')) (f x) = 0) (d : gm_P) (hd : ¬ (d.1 = 0 ∧ d.2 = 0)) : gm_W f r s d (f x') = 0 := by
  have a := ad.1
  refine gm_step h2 h0 (gm_ne hs a.1 a.2.1 a.2.2.1 a.2.2.2 ne) ?_ ?_ (gm_off hs h1 h2 h3 d1 a.2.2.1 a.2.2.2 xo) d hd
  · intro k k1 k2 px
    rcases gm_edge h1 h2 h3 k1 k2 with b | ⟨b1, b2⟩
    · exact hs.2.2 _ _ _ _ ad b px
    · rw [b2, b1] at px
      exact d2 _ _ ad (gm_px_s1 (gm_px_s px))
  · intro k k1 k2 on
    by_cases e : k = x
    · rw [e]
    · exact absurd on (hs.2.1 _ _ _ ad (by omega) (by omega) e (by omega))
theorem gm_walkA {Z : Nat → Prop} {i j r s : Nat} (h1 : i < r) (h2 : r ≤ s) (h3 : s ≤ j) (st : ∀ x x', gm_adj i j x x' → x ≠ x' → (x < r ∨ s < x) → (x' < r ∨ s < x') → Z x → Z x') (h0 : Z (r - 1)) (x : Nat) (x1 : i ≤ x) (x2 : x ≤ j) (x3 : x < r ∨ s < x) : Z x := by
  have dn : ∀ n, i + n ≤ r - 1 → Z (r - 1 - n) := by
    intro n
    induction n with
    | zero => intro _; exact h0
    | succ n ih =>
      intro h
      exact st (r - 1 - n) (r - 1 - (n + 1)) (by unfold gm_adj; omega) (by omega) (by omega) (by omega) (ih (by omega))
  rcases x3 with y | y
  · have := dn (r - 1 - x) (by omega)
    rwa [show r - 1 - (r - 1 - x) = x by omega] at this
  · have zi := dn (r - 1 - i) (by omega)
    rw [show r - 1 - (r - 1 - i) = i by omega] at zi
    have zj := st i j (by unfold gm_adj; omega) (by omega) (by omega) (by omega) zi
    have up : ∀ n, s < j - n → Z (j - n) := by
      intro n
      induction n with
      | zero => intro _; exact zj
      | succ n ih =>
        intro h
        exact st (j - n) (j - (n + 1)) (by unfold gm_adj; omega) (by omega) (by omega) (by omega) (ih (by omega))
    have := up (j - x) (by omega)
    rwa [show j - (j - x) = x by omega] at this
theorem gm_walkB {Z : Nat → Prop} {i j r s : Nat} (h1 : i ≤ r) (h2 : r ≤ s) (h3 : s < j) (st : ∀ x x', gm_adj i j x x' → x ≠ x' → (x < r ∨ s < x) → (x' < r ∨ s < x') → Z x → Z x') (h0 : Z (s + 1)) (x : Nat) (x1 : i ≤ x) (x2 : x ≤ j) (x3 : x < r ∨ s < x) : Z x := by
  have up : ∀ n, s + 1 + n ≤ j → Z (s + 1 + n) := by
    intro n
    induction n with
    | zero => intro _; exact h0
    | succ n ih =>
      intro h
      exact st (s + 1 + n) (s + 1 + (n + 1)) (by unfold gm_adj; omega) (by omega) (by omega) (by omega) (ih (by omega))
  rcases x3 with y | y
  · have zj := up (j - (s + 1)) (by omega)
    rw [show s + 1 + (j - (s + 1)) = j by omega] at zj
    have zi := st j i (by unfold gm_adj; omega) (by omega) (by omega) (by omega) zj
    have dn : ∀ n, i + n < r → Z (i + n) := by
      intro n
      induction n with
      | zero => intro _; exact zi
      | succ n ih =>
        intro h
        exact st (i + n) (i + (n + 1)) (by unfold gm_adj; omega) (by omega) (by omega) (by omega) (ih (by omega))
    have := dn (x - i) (by omega)
    rwa [show i + (x - i) = x by omega] at this
  · have := up (x - (s + 1)) (by omega)
    rwa [show s + 1 + (x - (s + 1)) = x by omega] at this
theorem gm_b1 {x : Int} (h : gm_b x = 1) : 0 < x := by
  unfold gm_b at h
  split at h
  · assumption
  · omega
theorem gm_bp {x : Int} (h : 0 < x) : gm_b x = 1 := by unfold gm_b; rw [if_pos h]
def gm_ear (f : Nat → gm_P) (i j t : Nat) : Prop := i < t ∧ t < j ∧ 0 < gm_O (f (t - 1)) (f t) (f (t + 1)) ∧ ∀ x, i ≤ x → x ≤ j → x ≠ t - 1 → x ≠ t → x ≠ t + 1 → ¬ gm_in (f (t - 1)) (f t) (f (t + 1)) (f x)
/-- from an ear of the part r .. s to one of the whole -/
theorem gm_lift {f : Nat → gm_P} {i j r s t : Nat} (hs : gm_simp f i j) (h1 : i ≤ r) (h2 : r + 2 ≤ s) (h3 : s ≤ j) (d1 : ∀ x, i ≤ x → x ≤ j → x ≠ r → x ≠ s → ¬ gm_on (f r) (f s) (f x)) (d2 : ∀ p q, gm_adj i j p q → ¬ gm_px (f r) (f s) (f p) (f q)) (hw : gm_w f r s r = 1) (he : gm_ear f r s t) (hz : ∀ x, i ≤ x → x ≤ j → (x < r ∨ s < x) → ∀ d : gm_P, ¬ (d.1 = 0 ∧ d.2 = 0) → gm_W f r s d (f x) = 0) : gm_ear f i j t := by
  obtain ⟨t1, t2, t3, t4⟩ := he
  refine ⟨by omega, by omega, t3, fun x x1 x2 n1 n2 n3 xin => ?_⟩
  by_cases o : x < r ∨ s < x
  · exact gm_earx h2 (gm_sub hs h1 h2 h3 d1 d2) hw t1 t2 t3 t4 (gm_off hs h1 h2 h3 d1 x1 x2 o) xin (hz x x1 x2 o)
  · exact t4 x (by omega) (by omega) n1 n2 n3 xin
theorem gm_E : ∀ (n : Nat) (f : Nat → gm_P) (i j : Nat), j - i ≤ n → i + 2 ≤ j → gm_simp f i j → gm_w f i j i = 1 → ∃ t, gm_ear f i j t := by
  intro n
  induction n with
  | zero => intro f i j h1 h2; omega
  | succ n ih =>
    intro f i j hn h2 hs hw
    obtain ⟨m, l0, m1, m2, hx⟩ := gm_mid h2 hs
    have nm : gm_nx i j m = m + 1 := by unfold gm_nx; rw [if_neg (by omega)]
    have pm : gm_pv i j m = m - 1 := by unfold gm_pv; rw [if_neg (by omega)]
    have wm : gm_w f i j m = 1 := by rw [gm_Jk h2 hs (by omega) (by omega), hw]
    have hT' : 0 < gm_O (f m) (f (m + 1)) (f (m - 1)) := by
      rw [gm_extw h2 (by omega) (by omega) hx, nm, pm] at wm
      exact gm_b1 wm
    have hT : 0 < gm_O (f (m - 1)) (f m) (f (m + 1)) := by rw [gm_Oc]; exact hT'
    by_cases em : ∃ x, i ≤ x ∧ x ≤ i + (j - i) ∧ ((x ≠ m - 1 ∧ x ≠ m ∧ x ≠ m + 1) ∧ gm_in (f (m - 1)) (f m) (f (m + 1)) (f x))
    · obtain ⟨l, l1, l2, ⟨ln, lin⟩, mx⟩ := gm_argmax (i := i) _ (fun x => gm_O (f (m + 1)) (f (m - 1)) (f x)) (j - i) em
      have l2' : l ≤ j := by omega
      obtain ⟨z1, z2, d1, d2⟩ := gm_diag hs m1 m2 l1 l2' hT ln lin (fun x x1 x2 g1 g2 => mx x x1 (by omega) ⟨g1, g2⟩)
      have eva : gm_O (f m) (f l) (f (m - 1)) = gm_O (f (m - 1)) (f m) (f l) := by unfold gm_O; grind
      have eav : gm_O (f m) (f (m - 1)) (f l) = - gm_O (f (m - 1)) (f m) (f l) := by unfold gm_O; grind
      by_cases lm : m < l
      · -- the part m .. l
        have sq := gm_sub hs (r := m) (s := l) (by omega) (by omega) l2' (fun x a b c d => d1 x a b c d) d2
        have nq : gm_nx m l m = m + 1 := by unfold gm_nx; rw [if_neg (by omega)]
        have pq : gm_pv m l m = l := by unfold gm_pv; rw [if_pos rfl]
        have xq : gm_ext f m l m l0 := fun x a b c => hx x (by omega) (by omega) c
        have wq : gm_w f m l m = 1 := by
          rw [gm_extw (by omega) (by omega) (by omega) xq, nq, pq]
          exact gm_bp z2
        obtain ⟨t, ht⟩ := ih f m l (by omega) (by omega) sq wq
        refine ⟨t, gm_lift hs (r := m) (s := l) (by omega) (by omega) l2' d1 d2 wq ht ?_⟩
        refine fun x x1 x2 x3 => gm_walkA (Z := fun x => ∀ d : gm_P, ¬ (d.1 = 0 ∧ d.2 = 0) → gm_W f m l d (f x) = 0) m1 (by omega) l2' ?_ ?_ x x1 x2 x3
        · intro x x' ad ne _ o' hz
          exact gm_out hs (by omega) (by omega) l2' d1 d2 ad ne o' (hz _ (gm_V0 (gm_ne hs ad.1.1 ad.1.2.1 ad.1.2.2.1 ad.1.2.2.2 ne)))
        · refine gm_out (x := m) hs (by omega) (by omega) l2' d1 d2 (by unfold gm_adj; omega) (by omega) (by omega) ?_
          have B := gm_F2v (f := f) (i := m) (j := l) (m := m) (d := gm_V (f m) (f (m + 1))) (e := gm_V (f m) (f (m - 1))) (by omega) (by omega) (by omega) (by rw [gm_VV1]; exact hT') (fun k g1 g2 g3 g4 => sq.2.1 _ _ _ (gm_adj_nx (by omega) g1 g2) (by omega) (by omega) (fun z => g3 z.symm) (fun z => g4 z.symm))
          rw [nq, pq, gm_SV, gm_SV, gm_SV, gm_SV, gm_O3, gm_h0, gm_h1 z2 (by omega)] at B
          unfold gm_w at wq
          rw [nq] at wq
          omega
      · -- the part l .. m
        have dd1 : ∀ x, i ≤ x → x ≤ j → x ≠ l → x ≠ m → ¬ gm_on (f l) (f m) (f x) := fun x a b c d h => d1 x a b d c (gm_on_s h)
        have dd2 : ∀ p q, gm_adj i j p q → ¬ gm_px (f l) (f m) (f p) (f q) := fun p q a h => d2 p q a (gm_px_s1 h)
        have sq := gm_sub hs (r := l) (s := m) l1 (by omega) (by omega) dd1 dd2
        have nq : gm_nx l m m = l := by unfold gm_nx; rw [if_pos rfl]
        have pq : gm_pv l m m = m - 1 := by unfold gm_pv; rw [if_neg (by omega)]
        have xq : gm_ext f l m m l0 := fun x a b c => hx x (by omega) (by omega) c
        have wq' : gm_w f l m m = 1 := by
          rw [gm_extw (by omega) (by omega) (by omega) xq, nq, pq]
          exact gm_bp (by omega)
        have wq : gm_w f l m l = 1 := by rw [← gm_Jk (k := m) (by omega) sq (by omega) (by omega), wq']
        obtain ⟨t, ht⟩ := ih f l m (by omega) (by omega) sq wq
        refine ⟨t, gm_lift hs (r := l) (s := m) l1 (by omega) (by omega) dd1 dd2 wq ht ?_⟩
        refine fun x x1 x2 x3 => gm_walkB (Z := fun x => ∀ d : gm_P, ¬ (d.1 = 0 ∧ d.2 = 0) → gm_W f l m d (f x) = 0) l1 (by omega) m2 ?_ ?_ x x1 x2 x3
        · intro x x' ad ne _ o' hz
          exact gm_out hs l1 (by omega) (by omega) dd1 dd2 ad ne o' (hz _ (gm_V0 (gm_ne hs ad.1.1 ad.1.2.1 ad.1.2.2.1 ad.1.2.2.2 ne)))
        · refine gm_out (x := m) hs l1 (by omega) (by omega) dd1 dd2 (by unfold gm_adj; omega) (by omega) (by omega) ?_
          have B := gm_F2v (f := f) (i := l) (j := m) (m := m) (d := gm_V (f m) (f (m + 1))) (e := gm_V (f m) (f l)) (by omega) (by omega) (by omega) (by rw [gm_VV1]; exact z2) (fun k g1 g2 g3 g4 => sq.2.1 _ _ _ (gm_adj_nx (by omega) g1 g2) (by omega) (by omega) (fun z => g3 z.symm) (fun z => g4 z.symm))
          rw [nq, pq, gm_SV, gm_SV, gm_SV, gm_SV, gm_O3, gm_h1 z2 (by decide), gm_hp _ (show 0 < gm_O (f m) (f l) (f (m - 1)) by omega)] at B
          unfold gm_w at wq'
          rw [nq] at wq'
          omega
    · refine ⟨m, m1, m2, hT, fun x x1 x2 n1 n2 n3 xin => em ⟨x, x1, by omega, ⟨n1, n2, n3⟩, xin⟩⟩
end
section
/-! cutting an ear off; the area; the run of cuts -/
def gm_sk (f : Nat → gm_P) (t : Nat) : Nat → gm_P := fun k => if k < t then f k else f (k + 1)
def gm_ix (t k : Nat) : Nat := if k < t then k else k + 1
theorem gm_sk_ix (f : Nat → gm_P) (t k : Nat) : gm_sk f t k = f (gm_ix t k) := by unfold gm_sk gm_ix; split <;> rfl
def gm_er (f : Nat → gm_P) (j t : Nat) : Prop := 0 < gm_O (f (gm_pv 0 j t)) (f t) (f (gm_nx 0 j t)) ∧ ∀ x, x ≤ j → x ≠ gm_pv 0 j t → x ≠ t → x ≠ gm_nx 0 j t → ¬ gm_in (f (gm_pv 0 j t)) (f t) (f (gm_nx 0 j t)) (f x)
theorem gm_ix_adj {j t a b : Nat} (h : t < j) (h2 : 3 ≤ j) (ad : gm_adj 0 (j - 1) a b) : gm_adj 0 j (gm_ix t a) (gm_ix t b) ∨ (gm_ix t a = gm_pv 0 j t ∧ gm_ix t b = gm_nx 0 j t) ∨ (gm_ix t a = gm_nx 0 j t ∧ gm_ix t b = gm_pv 0 j t) := by
  have pv : (t = 0 ∧ gm_pv 0 j t = j) ∨ (t ≠ 0 ∧ gm_pv 0 j t = t - 1) := by unfold gm_pv; split <;> omega
  have nx : gm_nx 0 j t = t + 1 := by unfold gm_nx; rw [if_neg (by omega)]
  have ia : (a < t ∧ gm_ix t a = a) ∨ (t ≤ a ∧ gm_ix t a = a + 1) := by unfold gm_ix; split <;> omega
  have ib : (b < t ∧ gm_ix t b = b) ∨ (t ≤ b ∧ gm_ix t b = b + 1) := by unfold gm_ix; split <;> omega
  unfold gm_adj at *
  omega
theorem gm_ix_ne (t k : Nat) : gm_ix t k ≠ t := by unfold gm_ix; split <;> omega
theorem gm_ix_le {j t k : Nat} (h : k ≤ j - 1) (hj : 1 ≤ j) (ht : t < j) : gm_ix t k ≤ j := by unfold gm_ix; split <;> omega
theorem gm_ix_in {t a b : Nat} (h : gm_ix t a = gm_ix t b) : a = b := by
  unfold gm_ix at h
  split at h <;> split at h <;> omega
theorem gm_cut_simp {f : Nat → gm_P} {j t : Nat} (h3 : 3 ≤ j) (ht : t < j) (hs : gm_simp f 0 j) (he : gm_er f j t) : gm_simp (gm_sk f t) 0 (j - 1) := by
  have pi := gm_pv_in (i := 0) (j := j) (k := t) (by omega) (by omega)
  have ni := gm_nx_in (i := 0) (j := j) (k := t) (by omega) (by omega) (by omega)
  have npv := gm_nxpv (i := 0) (j := j) (k := t) (by omega) (by omega)
  have ad1 := gm_adj_nx (i := 0) (j := j) (k := gm_pv 0 j t) (by omega) pi.1 pi.2
  rw [npv] at ad1
  have ad2 := gm_adj_nx (i := 0) (j := j) (k := t) (by omega) (by omega) (by omega)
  have ne1 : gm_pv 0 j t ≠ t := by unfold gm_pv; split <;> omega
  have ne2 : gm_nx 0 j t ≠ t := by unfold gm_nx; split <;> omega
  have nvx : ∀ x, x ≤ j → x ≠ gm_pv 0 j t → x ≠ t → x ≠ gm_nx 0 j t → ¬ gm_on (f (gm_pv 0 j t)) (f (gm_nx 0 j t)) (f x) := by
    intro x x1 n1 n2 n3 on
    exact he.2 x x1 n1 n2 n3 (gm_on_in he.1 on (gm_ne hs (by omega) x1 pi.1 pi.2 n1))
  have nxx : ∀ p q, gm_adj 0 j p q → p ≠ t → q ≠ t → ¬ gm_px (f (gm_pv 0 j t)) (f (gm_nx 0 j t)) (f p) (f q) := by
    intro p q ad np nq px
    have a := ad.1
    have px1 := px.1
    have no : ∀ y, (y = p ∨ y = q) → y ≤ j → y ≠ t → ¬ gm_in (f (gm_pv 0 j t)) (f t) (f (gm_nx 0 j t)) (f y) := by
      intro y hy y1 y2
      refine he.2 y y1 ?_ y2 ?_
      · intro e
        have z := gm_O2 (f (gm_pv 0 j t)) (f (gm_nx 0 j t))
        unfold gm_opp at px1
        rcases hy with hy | hy
        · rw [← hy, e] at px1; omega
        · rw [← hy, e] at px1; omega
      · intro e
        have z := gm_O3 (f (gm_pv 0 j t)) (f (gm_nx 0 j t))
        unfold gm_opp at px1
        rcases hy with hy | hy
        · rw [← hy, e] at px1; omega
        · rw [← hy, e] at px1; omega
    rcases gm_CK2 he.1 px (no p (Or.inl rfl) a.2.1 np) (no q (Or.inr rfl) a.2.2.2 nq) with h | h | h
    · exact hs.2.2 _ _ _ _ ad1 ad h
    · exact hs.2.2 _ _ _ _ ad2 ad h
    · exact hs.2.1 _ _ _ ad (by omega) (by omega) (fun z => np z.symm) (fun z => nq z.symm) h
  have self : ∀ a b : gm_P, ¬ gm_px a b a b := by
    intro a b h
    have := h.1
    rw [gm_O2] at this
    unfold gm_opp at this
    omega
  have self2 : ∀ a b : gm_P, ¬ gm_px a b b a := fun a b h => self a b (gm_px_s2 h)
  refine ⟨?_, ?_, ?_⟩
  · intro a b _ g2 _ g4 e
    rw [gm_sk_ix, gm_sk_ix] at e
    exact gm_ix_in (hs.1 _ _ (by omega) (gm_ix_le g2 (by omega) ht) (by omega) (gm_ix_le g4 (by omega) ht) e)
  · intro a b x ad _ g2 n1 n2 on
    rw [gm_sk_ix, gm_sk_ix, gm_sk_ix] at on
    have xi := gm_ix_le g2 (by omega) ht
    have m1 : gm_ix t x ≠ gm_ix t a := fun z => n1 (gm_ix_in z)
    have m2 : gm_ix t x ≠ gm_ix t b := fun z => n2 (gm_ix_in z)
    rcases gm_ix_adj ht h3 ad with k | ⟨k1, k2⟩ | ⟨k1, k2⟩
    · exact hs.2.1 _ _ _ k (by omega) xi m1 m2 on
    · rw [k1] at m1; rw [k2] at m2; rw [k1, k2] at on
      exact nvx _ xi m1 (gm_ix_ne t x) m2 on
    · rw [k1] at m1; rw [k2] at m2; rw [k1, k2] at on
      exact nvx _ xi m2 (gm_ix_ne t x) m1 (gm_on_s on)
  · intro a b c e g h px
    rw [gm_sk_ix, gm_sk_ix, gm_sk_ix, gm_sk_ix] at px
    have ia := gm_ix_ne t a
    have ib := gm_ix_ne t b
    have ic := gm_ix_ne t c
    have ie := gm_ix_ne t e
    rcases gm_ix_adj ht h3 g with k | ⟨k1, k2⟩ | ⟨k1, k2⟩ <;> rcases gm_ix_adj ht h3 h with y | ⟨y1, y2⟩ | ⟨y1, y2⟩
    · exact hs.2.2 _ _ _ _ k y px
    · rw [y1, y2] at px; exact nxx _ _ k ia ib (gm_px_s px)
    · rw [y1, y2] at px; exact nxx _ _ k ia ib (gm_px_s1 (gm_px_s px))
    · rw [k1, k2] at px; exact nxx _ _ y ic ie px
    · rw [k1, k2, y1, y2] at px; exact self _ _ px
    · rw [k1, k2, y1, y2] at px; exact self2 _ _ px
    · rw [k1, k2] at px; exact nxx _ _ y ic ie (gm_px_s1 px)
    · rw [k1, k2, y1, y2] at px; exact self2 _ _ px
    · rw [k1, k2, y1, y2] at px; exact self _ _ px
theorem gm_cy_path (F : gm_P → gm_P → Int) (f : Nat → gm_P) (j : Nat) : gm_cy F f 0 j = gm_sum (fun k => F (f k) (f (k + 1))) 0 j + F (f j) (f 0) := by
  unfold gm_cy
  have e : j + 1 - 0 = j + 1 := by omega
  rw [e]
  simp only [gm_sum]
  have e2 : gm_nx 0 j (0 + j) = 0 := by unfold gm_nx; rw [if_pos (by omega)]
  rw [e2, Nat.zero_add]
  have s := gm_sum_c (F := fun k => F (f k) (f (gm_nx 0 j k))) (G := fun k => F (f k) (f (k + 1))) (i := 0) (n := j) (fun k h1 h2 => by
    try dsimp only
    have : gm_nx 0 j k = k + 1 := by unfold gm_nx; rw [if_neg (by omega)]
    rw [this])
  rw [s]
theorem gm_sum_l (G : Nat → Int) : ∀ n, gm_sum G 0 (n + 1) = G 0 + gm_sum (fun k => G (k + 1)) 0 n
  | 0 => by simp only [gm_sum, Nat.add_zero]; omega
  | n + 1 => by
    have a := gm_sum_l G n
    have e : gm_sum G 0 (n + 1 + 1) = gm_sum G 0 (n + 1) + G (0 + (n + 1)) := rfl
    have e2 : gm_sum (fun k => G (k + 1)) 0 (n + 1) = gm_sum (fun k => G (k + 1)) 0 n + G (0 + n + 1) := rfl
    have e3 : 0 + (n + 1) = 0 + n + 1 := by omega
    rw [e, e2, a, e3]; omega
theorem gm_cut_path (F : gm_P → gm_P → Int) (f : Nat → gm_P) (s : Nat) : ∀ m, gm_sum (fun k => F (f k) (f (k + 1))) 0 (s + 2 + m) = gm_sum (fun k => F (gm_sk f (s + 1) k) (gm_sk f (s + 1) (k + 1))) 0 (s + 1 + m) - F (f s) (f (s + 2)) + F (f s) (f (s + 1)) + F (f (s + 1)) (f (s + 2))
  | 0 => by
    have a : gm_sum (fun k => F (f k) (f (k + 1))) 0 (s + 2 + 0) = gm_sum (fun k => F (f k) (f (k + 1))) 0 s + F (f (0 + s)) (f (0 + s + 1)) + F (f (0 + (s + 1))) (f (0 + (s + 1) + 1)) := rfl
    have b : gm_sum (fun k => F (gm_sk f (s + 1) k) (gm_sk f (s + 1) (k + 1))) 0 (s + 1 + 0) = gm_sum (fun k => F (gm_sk f (s + 1) k) (gm_sk f (s + 1) (k + 1))) 0 s + F (gm_sk f (s + 1) (0 + s)) (gm_sk f (s + 1) (0 + s + 1)) := rfl
    have c := gm_sum_c (F := fun k => F (gm_sk f (s + 1) k) (gm_sk f (s + 1) (k + 1))) (G := fun k => F (f k) (f (k + 1))) (i := 0) (n := s) (fun k h1 h2 => by
      try dsimp only
      have e1 : gm_sk f (s + 1) k = f k := by unfold gm_sk; rw [if_pos (by omega)]
      have e2 : gm_sk f (s + 1) (k + 1) = f (k + 1) := by unfold gm_sk; rw [if_pos (by omega)]
      rw [e1, e2])
    have e1 : gm_sk f (s + 1) (0 + s) = f s := by unfold gm_sk; rw [if_pos (by omega), Nat.zero_add]
    have e2 : gm_sk f (s + 1) (0 + s + 1) = f (s + 2) := by unfold gm_sk; rw [if_neg (by omega), Nat.zero_add]
    rw [a, b, c, e1, e2, show 0 + s + 1 = s + 1 by omega, show 0 + s = s by omega, show 0 + (s + 1) + 1 = s + 2 by omega, show 0 + (s + 1) = s + 1 by omega]
    omega
  | m + 1 => by
    have ih := gm_cut_path F f s m
    have a : gm_sum (fun k => F (f k) (f (k + 1))) 0 (s + 2 + (m + 1)) = gm_sum (fun k => F (f k) (f (k + 1))) 0 (s + 2 + m) + F (f (0 + (s + 2 + m))) (f (0 + (s + 2 + m) + 1)) := rfl
    have b : gm_sum (fun k => F (gm_sk f (s + 1) k) (gm_sk f (s + 1) (k + 1))) 0 (s + 1 + (m + 1)) = gm_sum (fun k => F (gm_sk f (s + 1) k) (gm_sk f (s + 1) (k + 1))) 0 (s + 1 + m) + F (gm_sk f (s + 1) (0 + (s + 1 + m))) (gm_sk f (s + 1) (0 + (s + 1 + m) + 1)) := rfl
    have e1 : gm_sk f (s + 1) (0 + (s + 1 + m)) = f (0 + (s + 2 + m)) := by
      unfold gm_sk; rw [if_neg (by omega), show 0 + (s + 1 + m) + 1 = 0 + (s + 2 + m) by omega]
    have e2 : gm_sk f (s + 1) (0 + (s + 1 + m) + 1) = f (0 + (s + 2 + m) + 1) := by
      unfold gm_sk; rw [if_neg (by omega), show 0 + (s + 1 + m) + 1 + 1 = 0 + (s + 2 + m) + 1 by omega]
    rw [a, b, ih, e1, e2]
    omega
theorem gm_cut_sum (F : gm_P → gm_P → Int) {f : Nat → gm_P} {j t : Nat} (ht : t < j) (hj : 2 ≤ j) : gm_cy F f 0 j = gm_cy F (gm_sk f t) 0 (j - 1) - F (f (gm_pv 0 j t)) (f (gm_nx 0 j t)) + F (f (gm_pv 0 j t)) (f t) + F (f t) (f (gm_nx 0 j t)) := by
  have n1 : gm_nx 0 j t = t + 1 := by unfold gm_nx; rw [if_neg (by omega)]
  rw [n1, gm_cy_path, gm_cy_path]
  cases t with
  | zero =>
    have p1 : gm_pv 0 j 0 = j := by unfold gm_pv; rw [if_pos rfl]
    rw [p1]
    obtain ⟨n, rfl⟩ : ∃ n, j = n + 1 := ⟨j - 1, by omega⟩
    have a := gm_sum_l (fun k => F (f k) (f (k + 1))) n
    have e : ∀ k, gm_sk f 0 k = f (k + 1) := by intro k; unfold gm_sk; rw [if_neg (by omega)]
    have s := gm_sum_c (F := fun k => F (gm_sk f 0 k) (gm_sk f 0 (k + 1))) (G := fun k => F (f (k + 1)) (f (k + 1 + 1))) (i := 0) (n := n) (fun k h1 h2 => by (try dsimp only); rw [e, e])
    rw [a, Nat.add_sub_cancel, s, e, e]
    simp only [Nat.zero_add]
    omega
  | succ s =>
    have p1 : gm_pv 0 j (s + 1) = s := by unfold gm_pv; rw [if_neg (by omega)]; omega
    obtain ⟨m, rfl⟩ : ∃ m, j = s + 2 + m := ⟨j - (s + 2), by omega⟩
    have a := gm_cut_path F f s m
    have e0 : gm_sk f (s + 1) 0 = f 0 := by unfold gm_sk; rw [if_pos (by omega)]
    have e1 : gm_sk f (s + 1) (s + 2 + m - 1) = f (s + 2 + m) := by unfold gm_sk; rw [if_neg (by omega), show s + 2 + m - 1 + 1 = s + 2 + m by omega]
    rw [p1, e0, e1, a, show s + 2 + m - 1 = s + 1 + m by omega, show s + 1 + 1 = s + 2 by omega]
    omega
theorem gm_ix_nx {j t k : Nat} (ht : t < j) (h3 : 3 ≤ j) (hk : k ≤ j - 1) (hn : gm_ix t k ≠ gm_pv 0 j t) : gm_ix t (gm_nx 0 (j - 1) k) = gm_nx 0 j (gm_ix t k) := by
  unfold gm_ix gm_nx gm_pv at *
  repeat' split at hn
  all_goals repeat' split
  all_goals omega
theorem gm_cut_w {f : Nat → gm_P} {j t : Nat} (h3 : 3 ≤ j) (ht : t < j) (hs : gm_simp f 0 j) (he : gm_er f j t) (hw : gm_w f 0 j 0 = 1) : gm_w (gm_sk f t) 0 (j - 1) 0 = 1 := by
  have sp := gm_cut_simp h3 ht hs he
  have n1 : gm_nx 0 j t = t + 1 := by unfold gm_nx; rw [if_neg (by omega)]
  obtain ⟨k, k1, k2, k3, k4⟩ : ∃ k, k ≤ j - 1 ∧ gm_ix t k ≠ gm_pv 0 j t ∧ gm_ix t k ≠ t ∧ gm_ix t k ≠ gm_nx 0 j t := by
    rw [n1]
    by_cases e : t = 0
    · refine ⟨1, by omega, ?_, gm_ix_ne t 1, ?_⟩ <;> unfold gm_ix <;> (try unfold gm_pv) <;> repeat' split
      all_goals omega
    · by_cases e2 : t + 2 ≤ j
      · refine ⟨t + 1, by omega, ?_, gm_ix_ne t _, ?_⟩ <;> unfold gm_ix <;> (try unfold gm_pv) <;> repeat' split
        all_goals omega
      · refine ⟨0, by omega, ?_, gm_ix_ne t _, ?_⟩ <;> unfold gm_ix <;> (try unfold gm_pv) <;> repeat' split
        all_goals omega
  have kl := gm_ix_le k1 (by omega) ht
  rw [← gm_Jk (k := k) (by omega) sp (by omega) k1]
  have wk : gm_w f 0 j (gm_ix t k) = 1 := by rw [gm_Jk (by omega) hs (by omega) kl, hw]
  unfold gm_w at wk ⊢
  rw [gm_sk_ix, gm_sk_ix, gm_ix_nx ht h3 k1 k2]
  unfold gm_W at wk ⊢
  rw [gm_cut_sum _ ht (by omega)] at wk
  have T := gm_T0 (gm_V (f (gm_ix t k)) (f (gm_nx 0 j (gm_ix t k)))) he.1 (he.2 _ kl k2 k3 k4)
  rw [gm_Om_a _ _ (f (gm_pv 0 j t)) (f (gm_nx 0 j t))] at T
  omega
def gm_ar (p q : gm_P) : Int := p.1 * q.2 - q.1 * p.2
theorem gm_cut_area {f : Nat → gm_P} {j t : Nat} (ht : t < j) (hj : 2 ≤ j) : gm_cy gm_ar f 0 j = gm_cy gm_ar (gm_sk f t) 0 (j - 1) + gm_O (f (gm_pv 0 j t)) (f t) (f (gm_nx 0 j t)) := by
  rw [gm_cut_sum gm_ar ht hj]
  have e : ∀ a b c : gm_P, gm_O a b c = gm_ar a b + gm_ar b c - gm_ar a c := by intro a b c; unfold gm_O gm_ar; grind
  rw [e]
  omega
theorem gm_tri_w (f : Nat → gm_P) : gm_w f 0 2 0 = gm_b (gm_O (f 0) (f 1) (f 2)) := by
  unfold gm_w gm_W
  have e0 : gm_nx 0 2 0 = 1 := by unfold gm_nx; rw [if_neg (by omega)]
  rw [e0, gm_cy_path]
  show 0 + gm_Om (gm_V (f 0) (f 1)) (f 0) (f (0 + 0)) (f (0 + 0 + 1)) + gm_Om (gm_V (f 0) (f 1)) (f 0) (f (0 + 1)) (f (0 + 1 + 1)) + gm_Om (gm_V (f 0) (f 1)) (f 0) (f 2) (f 0) = _
  rw [gm_Om_q]
  show 0 + gm_Om (gm_V (f 0) (f 1)) (f 0) (f 0) (f 1) + gm_Om (gm_V (f 0) (f 1)) (f 0) (f 1) (f 2) + 0 = _
  rw [gm_Om_p]
  unfold gm_Om
  rw [gm_SV, gm_SV, gm_O3, gm_om_b]
  omega
theorem gm_tri_area (f : Nat → gm_P) : gm_cy gm_ar f 0 2 = gm_O (f 0) (f 1) (f 2) := by
  rw [gm_cy_path]
  show 0 + gm_ar (f 0) (f 1) + gm_ar (f 1) (f 2) + gm_ar (f 2) (f 0) = _
  unfold gm_ar gm_O; grind
theorem gm_ear_er {f : Nat → gm_P} {j t : Nat} (h : gm_ear f 0 j t) : gm_er f j t := by
  obtain ⟨t1, t2, t3, t4⟩ := h
  have n1 : gm_nx 0 j t = t + 1 := by unfold gm_nx; rw [if_neg (by omega)]
  have p1 : gm_pv 0 j t = t - 1 := by unfold gm_pv; rw [if_neg (by omega)]
  unfold gm_er
  rw [n1, p1]
  exact ⟨t3, fun x x1 a b c => t4 x (by omega) x1 a b c⟩
theorem gm_area_pos : ∀ (n : Nat) (f : Nat → gm_P), gm_simp f 0 (n + 2) → gm_w f 0 (n + 2) 0 = 1 → 0 < gm_cy gm_ar f 0 (n + 2)
  | 0, f, _, hw => by
    rw [show 0 + 2 = 2 from rfl] at hw ⊢
    rw [gm_tri_w] at hw
    rw [gm_tri_area]
    exact gm_b1 hw
  | n + 1, f, hs, hw => by
    obtain ⟨t, ht⟩ := gm_E _ f 0 (n + 1 + 2) (Nat.le_refl _) (by omega) hs hw
    have er := gm_ear_er ht
    have t2 := ht.2.1
    have a := gm_cut_area (f := f) (j := n + 1 + 2) t2 (by omega)
    have e : n + 1 + 2 - 1 = n + 2 := by omega
    have s := gm_cut_simp (by omega) t2 hs er
    have w := gm_cut_w (by omega) t2 hs er hw
    rw [e] at a s w
    have ih := gm_area_pos n (gm_sk f t) s w
    have p := er.1
    omega
/-! the other way around -/
def gm_rev (f : Nat → gm_P) (j : Nat) : Nat → gm_P := fun k => f (j - k)
theorem gm_rev_simp {f : Nat → gm_P} {j : Nat} (hs : gm_simp f 0 j) : gm_simp (gm_rev f j) 0 j := by
  have ad : ∀ a b, gm_adj 0 j a b → gm_adj 0 j (j - a) (j - b) := by
    intro a b h
    unfold gm_adj at *
    omega
  refine ⟨fun a b _ g2 _ g4 e => ?_, fun a b x h _ g2 n1 n2 => ?_, fun a b c e g h => ?_⟩
  · have := hs.1 (j - a) (j - b) (by omega) (by omega) (by omega) (by omega) e
    omega
  · have a1 := h.1
    exact hs.2.1 _ _ _ (ad a b h) (by omega) (by omega) (by omega) (by omega)
  · exact hs.2.2 _ _ _ _ (ad a b g) (ad c e h)
theorem gm_w01 {f : Nat → gm_P} {j : Nat} (h2 : 2 ≤ j) (hs : gm_simp f 0 j) : gm_w f 0 j 0 = 1 ∨ gm_w (gm_rev f j) 0 j 0 = 1 := by
  have E := gm_ext_ex (f := f) (i := 0) (1, 0) (by simp) j (by rw [Nat.zero_add]; exact hs.1)
  rw [Nat.zero_add] at E
  obtain ⟨m, m1, m2, hx⟩ := E
  have nz := gm_extn (by omega) hs m1 m2 hx
  have rs := gm_rev_simp hs
  have hx' : gm_ext (gm_rev f j) 0 j (j - m) (1, 0) := by
    intro x x1 x2 n
    unfold gm_rev
    rw [show j - (j - m) = m by omega]
    exact hx _ (by omega) (by omega) (by omega)
  have a := gm_extw (by omega) m1 m2 hx
  have b := gm_extw (f := gm_rev f j) (by omega) (by omega) (by omega) hx'
  rw [gm_Jk (by omega) hs m1 m2] at a
  rw [gm_Jk (by omega) rs (by omega) (by omega)] at b
  have q1 : gm_rev f j (j - m) = f m := by unfold gm_rev; rw [show j - (j - m) = m by omega]
  have q2 : gm_rev f j (gm_nx 0 j (j - m)) = f (gm_pv 0 j m) := by
    unfold gm_rev gm_nx gm_pv
    congr 1
    repeat' split
    all_goals omega
  have q3 : gm_rev f j (gm_pv 0 j (j - m)) = f (gm_nx 0 j m) := by
    unfold gm_rev gm_nx gm_pv
    congr 1
    repeat' split
    all_goals omega
  rw [q1, q2, q3] at b
  have o : gm_O (f m) (f (gm_pv 0 j m)) (f (gm_nx 0 j m)) = - gm_O (f m) (f (gm_nx 0 j m)) (f (gm_pv 0 j m)) := by unfold gm_O; grind
  rcases (show 0 < gm_O (f m) (f (gm_nx 0 j m)) (f (gm_pv 0 j m)) ∨ gm_O (f m) (f (gm_nx 0 j m)) (f (gm_pv 0 j m)) < 0 by omega) with h | h
  · exact Or.inl (a.trans (gm_bp h))
  · exact Or.inr (b.trans (gm_bp (by omega)))
theorem gm_rev_path (f : Nat → gm_P) (j : Nat) : ∀ n, n ≤ j → gm_sum (fun k => gm_ar (f (j - k)) (f (j - (k + 1)))) 0 n = gm_sum (fun k => gm_ar (f k) (f (k + 1))) 0 (j - n) - gm_sum (fun k => gm_ar (f k) (f (k + 1))) 0 j
  | 0, _ => by rw [Nat.sub_zero]; simp only [gm_sum]; omega
  | n + 1, h => by
    have ih := gm_rev_path f j n (by omega)
    have e : j - n = (j - (n + 1)) + 1 := by omega
    have s : gm_sum (fun k => gm_ar (f k) (f (k + 1))) 0 (j - n) = gm_sum (fun k => gm_ar (f k) (f (k + 1))) 0 (j - (n + 1)) + gm_ar (f (j - (n + 1))) (f (j - n)) := by
      rw [e]
      simp only [gm_sum, Nat.zero_add]
    have a : ∀ p q : gm_P, gm_ar p q = - gm_ar q p := by intro p q; unfold gm_ar; grind
    have b := a (f (j - n)) (f (j - (n + 1)))
    simp only [gm_sum, Nat.zero_add]
    rw [ih, s, b]
    omega
theorem gm_rev_area (f : Nat → gm_P) (j : Nat) : gm_cy gm_ar (gm_rev f j) 0 j = - gm_cy gm_ar f 0 j := by
  rw [gm_cy_path, gm_cy_path]
  have p := gm_rev_path f j j (Nat.le_refl _)
  rw [Nat.sub_self] at p
  have a : ∀ p q : gm_P, gm_ar p q = - gm_ar q p := by intro p q; unfold gm_ar; grind
  have b := a (f 0) (f j)
  unfold gm_rev
  rw [p, Nat.sub_self, Nat.sub_zero, b]
  simp only [gm_sum]
  omega
/-- simple and the area not negative: it runs to the left -/
theorem gm_good0 {f : Nat → gm_P} {j : Nat} (h2 : 2 ≤ j) (hs : gm_simp f 0 j) (ha : 0 ≤ gm_cy gm_ar f 0 j) : gm_w f 0 j 0 = 1 := by
  rcases gm_w01 h2 hs with h | h
  · exact h
  · exfalso
    obtain ⟨n, rfl⟩ : ∃ n, j = n + 2 := ⟨j - 2, by omega⟩
    have := gm_area_pos n _ (gm_rev_simp hs) h
    rw [gm_rev_area] at this
    omega
def gm_Good (f : Nat → gm_P) (n : Nat) : Prop := 3 ≤ n ∧ gm_simp f 0 (n - 1) ∧ gm_w f 0 (n - 1) 0 = 1
theorem gm_good_ear {f : Nat → gm_P} {n : Nat} (h : gm_Good f n) : ∃ t, t < n - 1 ∧ gm_er f (n - 1) t := by
  have h1 := h.1
  obtain ⟨t, ht⟩ := gm_E _ f 0 (n - 1) (Nat.le_refl _) (by omega) h.2.1 h.2.2
  exact ⟨t, ht.2.1, gm_ear_er ht⟩
theorem gm_good_cut {f : Nat → gm_P} {n t : Nat} (h : gm_Good f n) (h4 : 4 ≤ n) (ht : t < n - 1) (he : gm_er f (n - 1) t) : gm_Good (gm_sk f t) (n - 1) :=
  ⟨by omega, gm_cut_simp (by omega) ht h.2.1 he, gm_cut_w (by omega) ht h.2.1 he h.2.2⟩
end
section
/-! whole numbers in ints; segments as the two texts see them -/
def mt_c (z : Int) : Int32 := Int32.ofInt z
theorem mt_cT (x : Int32) : mt_c x.toInt = x := Int32.ofInt_toInt x
theorem mt_tc {z : Int} (h1 : -2000000000 ≤ z) (h2 : z ≤ 2000000000) : (mt_c z).toInt = z := Int32.toInt_ofInt_of_le (by omega) (by omega)
theorem mt_add (a b : Int) : mt_c a + mt_c b = mt_c (a + b) := (Int32.ofInt_add a b).symm
theorem mt_sub (a b : Int) : mt_c a - mt_c b = mt_c (a - b) := (Int32.ofInt_sub a b).symm
theorem mt_mul (a b : Int) : mt_c a * mt_c b = mt_c (a * b) := (Int32.ofInt_mul a b).symm
theorem mt_neg (a : Int) : - mt_c a = mt_c (-a) := (Int32.ofInt_neg a).symm
theorem mt_n (n : Nat) : mt_c (n : Int) = nI n := Int32.ofInt_eq_ofNat
def mt_sm (z : Int) : Prop := -2000000000 ≤ z ∧ z ≤ 2000000000
theorem mt_lt {a b : Int} (ha : mt_sm a) (hb : mt_sm b) : mt_c a < mt_c b ↔ a < b := by
  rw [Int32.lt_iff_toInt_lt, mt_tc ha.1 ha.2, mt_tc hb.1 hb.2]
theorem mt_le {a b : Int} (ha : mt_sm a) (hb : mt_sm b) : mt_c a ≤ mt_c b ↔ a ≤ b := by
  rw [Int32.le_iff_toInt_le, mt_tc ha.1 ha.2, mt_tc hb.1 hb.2]
theorem mt_eq {a b : Int} (ha : mt_sm a) (hb : mt_sm b) : mt_c a = mt_c b ↔ a = b := by
  rw [← Int32.toInt_inj, mt_tc ha.1 ha.2, mt_tc hb.1 hb.2]
theorem mt_0 : (0 : Int32) = mt_c 0 := by decide
theorem mt_1 : (1 : Int32) = mt_c 1 := by decide
theorem mt_m1 : (-1 : Int32) = mt_c (-1) := by decide
theorem mt_2 : (2 : Int32) = mt_c 2 := by decide
theorem mt_s0 : mt_sm 0 := by unfold mt_sm; omega
theorem mt_lt0 {a : Int} (ha : mt_sm a) : mt_c a < 0 ↔ a < 0 := by rw [mt_0]; exact mt_lt ha mt_s0
theorem mt_0lt {a : Int} (ha : mt_sm a) : 0 < mt_c a ↔ 0 < a := by rw [mt_0]; exact mt_lt mt_s0 ha
theorem mt_le0 {a : Int} (ha : mt_sm a) : mt_c a ≤ 0 ↔ a ≤ 0 := by rw [mt_0]; exact mt_le ha mt_s0
theorem mt_0le {a : Int} (ha : mt_sm a) : 0 ≤ mt_c a ↔ 0 ≤ a := by rw [mt_0]; exact mt_le mt_s0 ha
theorem mt_eq0 {a : Int} (ha : mt_sm a) : mt_c a = 0 ↔ a = 0 := by rw [mt_0]; exact mt_eq ha mt_s0
/-- a product within bounds -/
theorem mt_bd {a b M N : Int} (h1 : -M ≤ a) (h2 : a ≤ M) (h3 : -N ≤ b) (h4 : b ≤ N) : -(M * N) ≤ a * b ∧ a * b ≤ M * N := by
  have p1 := Int.mul_nonneg (show 0 ≤ M - a by omega) (show 0 ≤ N + b by omega)
  have p2 := Int.mul_nonneg (show 0 ≤ M + a by omega) (show 0 ≤ N - b by omega)
  have p3 := Int.mul_nonneg (show 0 ≤ M - a by omega) (show 0 ≤ N - b by omega)
  have p4 := Int.mul_nonneg (show 0 ≤ M + a by omega) (show 0 ≤ N + b by omega)
  have e1 : (M - a) * (N + b) = M * N + M * b - a * N - a * b := by grind
  have e2 : (M + a) * (N - b) = M * N - M * b + a * N - a * b := by grind
  have e3 : (M - a) * (N - b) = M * N - M * b - a * N + a * b := by grind
  have e4 : (M + a) * (N + b) = M * N + M * b + a * N + a * b := by grind
  rw [e1] at p1
  rw [e2] at p2
  rw [e3] at p3
  rw [e4] at p4
  generalize M * N = w at *
  generalize M * b = x at *
  generalize a * N = y at *
  generalize a * b = z at *
  omega
def mt_B (p : gm_P) : Prop := (-1000 ≤ p.1 ∧ p.1 ≤ 1000) ∧ (-1000 ≤ p.2 ∧ p.2 ≤ 1000)
theorem mt_Ob {a b c : gm_P} (ha : mt_B a) (hb : mt_B b) (hc : mt_B c) : -8000000 ≤ gm_O a b c ∧ gm_O a b c ≤ 8000000 := by
  unfold mt_B at *
  have x := mt_bd (M := 2000) (N := 2000) (a := b.1 - a.1) (b := c.2 - a.2) (by omega) (by omega) (by omega) (by omega)
  have y := mt_bd (M := 2000) (N := 2000) (a := b.2 - a.2) (b := c.1 - a.1) (by omega) (by omega) (by omega) (by omega)
  unfold gm_O
  generalize (b.1 - a.1) * (c.2 - a.2) = X at *
  generalize (b.2 - a.2) * (c.1 - a.1) = Y at *
  omega
theorem mt_Db {a b c : gm_P} (ha : mt_B a) (hb : mt_B b) (hc : mt_B c) : -8000000 ≤ gm_D a b c ∧ gm_D a b c ≤ 8000000 := by
  unfold mt_B at *
  have x := mt_bd (M := 2000) (N := 2000) (a := b.1 - a.1) (b := c.1 - a.1) (by omega) (by omega) (by omega) (by omega)
  have y := mt_bd (M := 2000) (N := 2000) (a := b.2 - a.2) (b := c.2 - a.2) (by omega) (by omega) (by omega) (by omega)
  unfold gm_D
  generalize (b.1 - a.1) * (c.1 - a.1) = X at *
  generalize (b.2 - a.2) * (c.2 - a.2) = Y at *
  omega
theorem mt_Os {a b c : gm_P} (ha : mt_B a) (hb : mt_B b) (hc : mt_B c) : mt_sm (gm_O a b c) := by
  have := mt_Ob ha hb hc
  unfold mt_sm
  omega
theorem mt_Ds {a b c : gm_P} (ha : mt_B a) (hb : mt_B b) (hc : mt_B c) : mt_sm (gm_D a b c) := by
  have := mt_Db ha hb hc
  unfold mt_sm
  omega
/-! two closed segments have a common point -/
def gm_meet (a b c d : gm_P) : Prop := gm_px a b c d ∨ gm_on a b c ∨ gm_on a b d ∨ gm_on c d a ∨ gm_on c d b
theorem gm_same {a b c d : gm_P} (h : ¬ gm_on a b c) (z : gm_O a b c = 0) : (0 < gm_O c d a ↔ 0 < gm_O c d b) ∧ (gm_O c d a < 0 ↔ gm_O c d b < 0) := by
  have k : 0 < gm_D c a b := by unfold gm_on at h; omega
  have g : gm_O c a b = 0 := by rw [gm_Oc]; exact z
  have g' : gm_O c b a = 0 := by
    have : gm_O c b a = - gm_O c a b := by unfold gm_O; grind
    omega
  have k' : 0 < gm_D c b a := by rw [gm_Ds]; exact k
  have x := gm_col1 (d1 := d.1 - c.1) (d2 := d.2 - c.2) g k
  have y := gm_col1 (d1 := d.1 - c.1) (d2 := d.2 - c.2) g' k'
  exact ⟨⟨x.1, y.1⟩, ⟨x.2, y.2⟩⟩
def gm_sep (a b c d : gm_P) : Prop := ¬ (0 < gm_O a b c ↔ 0 < gm_O a b d)
theorem gm_meetX {a b c d : gm_P} (h1 : ¬ gm_on a b c) (h2 : ¬ gm_on a b d) (h3 : ¬ gm_on c d a) (h4 : ¬ gm_on c d b) : (gm_sep a b c d ∧ gm_sep c d a b) ↔ gm_px a b c d := by
  have s1 := gm_same (d := d) h1
  have s2 := gm_same (d := c) h2
  have s3 := gm_same (d := b) h3
  have s4 := gm_same (d := a) h4
  have e1 := gm_Os d c a
  have e2 := gm_Os d c b
  have e3 := gm_Os b a c
  have e4 := gm_Os b a d
  unfold gm_sep gm_px gm_opp
  constructor
  · intro ⟨x, y⟩
    by_cases z1 : gm_O a b c = 0
    · exact absurd (s1 z1).1 y
    · by_cases z2 : gm_O a b d = 0
      · have := (s2 z2).2
        exact absurd (by omega) y
      · by_cases z3 : gm_O c d a = 0
        · exact absurd (s3 z3).1 x
        · by_cases z4 : gm_O c d b = 0
          · have := (s4 z4).2
            exact absurd (by omega) x
          · omega
  · intro h
    omega
theorem gm_ends {a b x : gm_P} (h : gm_O a b x = 0) (k : gm_D x a b = 0) : x = a ∨ x = b := by
  have i := gm_id2 (a.1 - x.1) (a.2 - x.2) (b.1 - x.1) (b.2 - x.2)
  have i' : gm_D x a b * gm_D x a b + gm_O x a b * gm_O x a b = gm_D x a a * gm_D x b b := i
  have o : gm_O x a b = 0 := by rw [gm_Oc]; exact h
  rw [o, k] at i'
  refine Classical.byContradiction fun n => ?_
  have n1 : x ≠ a := fun z => n (Or.inl z)
  have n2 : x ≠ b := fun z => n (Or.inr z)
  have p1 : 0 < gm_D x a a := gm_sqp (fun y => n1 (Prod.ext (by have := y.1; omega) (by have := y.2; omega)))
  have p2 : 0 < gm_D x b b := gm_sqp (fun y => n2 (Prod.ext (by have := y.1; omega) (by have := y.2; omega)))
  have := Int.mul_pos p1 p2
  omega
/-! the diagonal's two readings -/
def gm_blX (f : Nat → gm_P) (j a b k : Nat) : Prop :=
  ((k ≠ a ∧ k ≠ b) ∧ gm_on (f a) (f b) (f k)) ∨ ((k ≠ a ∧ k ≠ b ∧ gm_nx 0 j k ≠ a ∧ gm_nx 0 j k ≠ b) ∧ gm_meet (f a) (f b) (f k) (f (gm_nx 0 j k)))
def gm_blY (f : Nat → gm_P) (j a b k : Nat) : Prop :=
  gm_px (f a) (f b) (f k) (f (gm_nx 0 j k)) ∨ (gm_O (f a) (f b) (f k) = 0 ∧ gm_D (f k) (f a) (f b) < 0) ∨ (gm_O (f a) (f b) (f (gm_nx 0 j k)) = 0 ∧ gm_D (f (gm_nx 0 j k)) (f a) (f b) < 0) ∨ ((gm_O (f a) (f b) (f k) = 0 ∧ gm_O (f a) (f b) (f (gm_nx 0 j k)) = 0) ∧ (gm_D (f a) (f k) (f (gm_nx 0 j k)) < 0 ∨ gm_D (f b) (f k) (f (gm_nx 0 j k)) < 0))
theorem gm_D1 (a b : gm_P) : gm_D a a b = 0 := by unfold gm_D; grind
theorem gm_D2 (a b : gm_P) : gm_D a b a = 0 := by unfold gm_D; grind
theorem gm_line {a b p q : gm_P} (n : a ≠ b) (h1 : gm_O a b p = 0) (h2 : gm_O a b q = 0) (x : gm_P) (hx : x = a ∨ x = b) : gm_O p q x = 0 := by
  have e : gm_O p q x * gm_D a b b = (gm_O a b x - gm_O a b p) * ((b.1 - a.1) * (q.1 - p.1) + (b.2 - a.2) * (q.2 - p.2)) - (gm_O a b q - gm_O a b p) * ((b.1 - a.1) * (x.1 - p.1) + (b.2 - a.2) * (x.2 - p.2)) := by
    unfold gm_O gm_D; grind
  have hx' : gm_O a b x = 0 := by
    rcases hx with h | h
    · rw [h, gm_O2]
    · rw [h, gm_O3]
  rw [h1, h2, hx'] at e
  simp only [Int.sub_self, Int.zero_mul] at e
  have pp : 0 < gm_D a b b := gm_sqp (fun y => n (Prod.ext (by have := y.1; omega) (by have := y.2; omega)))
  have s := gm_sg (gm_O p q x) (gm_D a b b)
  omega
theorem gm_bl {f : Nat → gm_P} {j a b : Nat} (h2 : 2 ≤ j) (hs : gm_simp f 0 j) (ha : a ≤ j) (hb : b ≤ j) (ne : a ≠ b) : (∃ k, k ≤ j ∧ gm_blX f j a b k) ↔ (∃ k, k ≤ j ∧ gm_blY f j a b k) := by
  have nab := gm_ne hs (by omega) ha (by omega) hb ne
  have st : ∀ k, k ≤ j → k ≠ a → k ≠ b → gm_on (f a) (f b) (f k) → gm_O (f a) (f b) (f k) = 0 ∧ gm_D (f k) (f a) (f b) < 0 := by
    intro k k1 n1 n2 on
    refine ⟨on.1, ?_⟩
    have := on.2
    rcases (show gm_D (f k) (f a) (f b) < 0 ∨ gm_D (f k) (f a) (f b) = 0 by omega) with h | h
    · exact h
    · rcases gm_ends on.1 h with e | e
      · exact absurd e (gm_ne hs (by omega) k1 (by omega) ha n1)
      · exact absurd e (gm_ne hs (by omega) k1 (by omega) hb n2)
  constructor
  · intro ⟨k, k1, h⟩
    have kn := gm_nx_in (i := 0) (j := j) (k := k) (by omega) (by omega) k1
    have ad := gm_adj_nx (i := 0) (j := j) (k := k) (by omega) (by omega) k1
    refine ⟨k, k1, ?_⟩
    rcases h with ⟨⟨n1, n2⟩, on⟩ | ⟨⟨n1, n2, n3, n4⟩, m⟩
    · exact Or.inr (Or.inl (st k k1 n1 n2 on))
    · rcases m with m | m | m | m | m
      · exact Or.inl m
      · exact Or.inr (Or.inl (st k k1 n1 n2 m))
      · exact Or.inr (Or.inr (Or.inl (st _ kn.2 n3 n4 m)))
      · exact absurd m (hs.2.1 _ _ _ ad (by omega) ha (fun z => n1 z.symm) (fun z => n3 z.symm))
      · exact absurd m (hs.2.1 _ _ _ ad (by omega) hb (fun z => n2 z.symm) (fun z => n4 z.symm))
  · intro ⟨k, k1, h⟩
    have kn := gm_nx_in (i := 0) (j := j) (k := k) (by omega) (by omega) k1
    have ad := gm_adj_nx (i := 0) (j := j) (k := k) (by omega) (by omega) k1
    rcases h with m | ⟨o, d⟩ | ⟨o, d⟩ | ⟨⟨o1, o2⟩, d⟩
    · have x := m.1
      unfold gm_opp at x
      refine ⟨k, k1, Or.inr ⟨⟨?_, ?_, ?_, ?_⟩, Or.inl m⟩⟩
      · intro e; rw [e, gm_O2] at x; omega
      · intro e; rw [e, gm_O3] at x; omega
      · intro e; rw [e, gm_O2] at x; omega
      · intro e; rw [e, gm_O3] at x; omega
    · refine ⟨k, k1, Or.inl ⟨⟨?_, ?_⟩, o, by omega⟩⟩
      · intro e; rw [e, gm_D1] at d; omega
      · intro e; rw [e, gm_D2] at d; omega
    · refine ⟨gm_nx 0 j k, kn.2, Or.inl ⟨⟨?_, ?_⟩, o, by omega⟩⟩
      · intro e; rw [e, gm_D1] at d; omega
      · intro e; rw [e, gm_D2] at d; omega
    · exfalso
      rcases d with d | d
      · have on : gm_on (f k) (f (gm_nx 0 j k)) (f a) := ⟨gm_line nab o1 o2 _ (Or.inl rfl), by omega⟩
        refine hs.2.1 _ _ _ ad (by omega) ha ?_ ?_ on
        · intro e; rw [e, gm_D1] at d; omega
        · intro e; rw [← e, gm_D2] at d; omega
      · have on : gm_on (f k) (f (gm_nx 0 j k)) (f b) := ⟨gm_line nab o1 o2 _ (Or.inr rfl), by omega⟩
        refine hs.2.1 _ _ _ ad (by omega) hb ?_ ?_ on
        · intro e; rw [e, gm_D1] at d; omega
        · intro e; rw [← e, gm_D2] at d; omega
/-! the document's four conditions give gm_simp -/
theorem gm_simpI {f : Nat → gm_P} {j : Nat} (h2 : 2 ≤ j) (r : ∀ a b, a ≤ j → b ≤ j → a ≠ b → f a ≠ f b) (fo : ∀ k, k ≤ j → ¬ (gm_O (f k) (f (gm_pv 0 j k)) (f (gm_nx 0 j k)) = 0 ∧ 0 < gm_D (f k) (f (gm_pv 0 j k)) (f (gm_nx 0 j k)))) (me : ∀ a b, a < b → b ≤ j → b ≠ gm_nx 0 j a → a ≠ gm_nx 0 j b → ¬ gm_meet (f a) (f (gm_nx 0 j a)) (f b) (f (gm_nx 0 j b))) : gm_simp f 0 j := by
  -- two edges without a common corner don't meet
  have me' : ∀ a b, a ≤ j → b ≤ j → a ≠ b → b ≠ gm_nx 0 j a → a ≠ gm_nx 0 j b → ¬ gm_meet (f a) (f (gm_nx 0 j a)) (f b) (f (gm_nx 0 j b)) := by
    intro a b ha hb n1 n2 n3 m
    rcases (show a < b ∨ b < a by omega) with h | h
    · exact me a b h hb n2 n3 m
    · refine me b a h ha n3 n2 ?_
      rcases m with m | m | m | m | m
      · exact Or.inl (gm_px_s m)
      · exact Or.inr (Or.inr (Or.inr (Or.inl m)))
      · exact Or.inr (Or.inr (Or.inr (Or.inr m)))
      · exact Or.inr (Or.inl m)
      · exact Or.inr (Or.inr (Or.inl m))
  have nv : ∀ k x, k ≤ j → x ≤ j → x ≠ k → x ≠ gm_nx 0 j k → ¬ gm_on (f k) (f (gm_nx 0 j k)) (f x) := by
    intro k x hk hx n1 n2 on
    have kn := gm_nx_in (i := 0) (j := j) (k := k) (by omega) (by omega) hk
    by_cases c1 : k = gm_nx 0 j x
    · -- x is the corner before k
      have p : gm_pv 0 j k = x := (gm_nx_pv (by omega) hx c1.symm).symm
      refine fo k hk ⟨?_, ?_⟩
      · rw [p]
        have e : gm_O (f k) (f x) (f (gm_nx 0 j k)) = - gm_O (f k) (f (gm_nx 0 j k)) (f x) := by unfold gm_O; grind
        have := on.1
        omega
      · rw [p]
        have e : gm_D (f x) (f k) (f (gm_nx 0 j k)) = gm_D (f k) (f x) (f x) - gm_D (f k) (f x) (f (gm_nx 0 j k)) := by unfold gm_D; grind
        have pp : 0 < gm_D (f k) (f x) (f x) := gm_sqp (fun y => r x k hx hk n1 (Prod.ext (by have := y.1; omega) (by have := y.2; omega)))
        have := on.2
        omega
    · exact me' k x hk hx (fun z => n1 z.symm) n2 c1 (Or.inr (Or.inl on))
  have ed : ∀ a b, gm_adj 0 j a b → (a ≤ j ∧ b = gm_nx 0 j a) ∨ (b ≤ j ∧ a = gm_nx 0 j b) := by
    intro a b h
    unfold gm_adj at h
    by_cases e1 : a = j <;> by_cases e2 : b = j <;> unfold gm_nx <;> simp only [e1, e2, if_true, if_false] <;> omega
  have px0 : ∀ a b, a ≤ j → b ≤ j → ¬ gm_px (f a) (f (gm_nx 0 j a)) (f b) (f (gm_nx 0 j b)) := by
    intro a b ha hb px
    have x := px.1
    have y := px.2
    unfold gm_opp at x y
    by_cases e1 : a = b
    · rw [e1, gm_O2] at x; omega
    · by_cases e2 : b = gm_nx 0 j a
      · rw [← e2, gm_O3] at x; omega
      · by_cases e3 : a = gm_nx 0 j b
        · rw [← e3, gm_O2] at x; omega
        · exact me' a b ha hb e1 e2 e3 (Or.inl px)
  refine ⟨fun a b _ ha _ hb e => ?_, fun a b x ad _ hx n1 n2 on => ?_, fun a b c e g h px => ?_⟩
  · refine Classical.byContradiction fun n => r a b ha hb n e
  · rcases ed a b ad with ⟨h1, h3⟩ | ⟨h1, h3⟩
    · rw [h3] at on n2
      exact nv a x h1 hx n1 n2 on
    · rw [h3] at on n1
      exact nv b x h1 hx n2 n1 (gm_on_s on)
  · rcases ed a b g with ⟨h1, h3⟩ | ⟨h1, h3⟩ <;> rcases ed c e h with ⟨h4, h5⟩ | ⟨h4, h5⟩ <;> rw [h3, h5] at px
    · exact px0 _ _ h1 h4 px
    · exact px0 _ _ h1 h4 (gm_px_s2 px)
    · exact px0 _ _ h1 h4 (gm_px_s1 px)
    · exact px0 _ _ h1 h4 (gm_px_s1 (gm_px_s2 px))
end
section
/-! the run of cuts over the ring, as arrays hold it -/
def mt_p (xs ys : Nat → Int32) (k : Nat) : gm_P := ((xs k).toInt, (ys k).toInt)
def mt_ab (z : Int) : Int := if z < 0 then -z else z
def mt_T (P : Nat → gm_P) (fc mc lc : Nat → Int32) (n : Nat) : Int := gm_sum (fun t => mt_ab (gm_O (P (fc t).toNatClampNeg) (P (mc t).toNatClampNeg) (P (lc t).toNatClampNeg))) 0 n
def mt_V (cnt : Nat) (fc mc lc : Nat → Int32) (n : Nat) : Prop := ∀ t, t < n → ∃ a b c, a < cnt ∧ b < cnt ∧ c < cnt ∧ fc t = nI a ∧ mc t = nI b ∧ lc t = nI c
def mt_CI (P : Nat → gm_P) (cnt : Nat) (A : Int) (rg : Nat → Int32) (R : Nat → Nat) (left : Nat) (fc mc lc : Nat → Int32) (n : Nat) : Prop :=
  (∀ k, k < left → rg k = nI (R k) ∧ R k < cnt) ∧ (3 ≤ left → gm_Good (fun k => P (R k)) left) ∧ mt_T P fc mc lc n + gm_cy gm_ar (fun k => P (R k)) 0 (left - 1) = A ∧ n + left = cnt ∧ mt_V cnt fc mc lc n
theorem mt_us {f : Nat → Int32} {k : Nat} {x : Int32} : upd f k x k = x := if_pos rfl
theorem mt_un {f : Nat → Int32} {k j : Nat} {x : Int32} (h : j ≠ k) : upd f k x j = f j := if_neg h
theorem mt_skR (P : Nat → gm_P) (R : Nat → Nat) (t : Nat) : (fun k => P (if k < t then R k else R (k + 1))) = gm_sk (fun k => P (R k)) t := by
  funext k
  unfold gm_sk
  split <;> rfl
theorem mt_cut {P : Nat → gm_P} {cnt : Nat} {A : Int} {rg rg' : Nat → Int32} {R : Nat → Nat} {left : Nat} {fc mc lc : Nat → Int32} {n t : Nat} (hc : cnt ≤ 32) (h : mt_CI P cnt A rg R left fc mc lc n) (h3 : 3 ≤ left) (ht : t < left - 1) (he : gm_er (fun k => P (R k)) (left - 1) t) (hr : ∀ k, k < left - 1 → rg' k = if k < t then rg k else rg (k + 1)) : mt_CI P cnt A rg' (fun k => if k < t then R k else R (k + 1)) (left - 1) (upd fc n (nI (R (gm_pv 0 (left - 1) t)))) (upd mc n (nI (R t))) (upd lc n (nI (R (gm_nx 0 (left - 1) t)))) (n + 1) := by
  obtain ⟨c1, c2, c3, c4, c5⟩ := h
  have pi := gm_pv_in (i := 0) (j := left - 1) (k := t) (by omega) (by omega)
  have ni := gm_nx_in (i := 0) (j := left - 1) (k := t) (by omega) (by omega) (by omega)
  have p1 := (c1 (gm_pv 0 (left - 1) t) (by omega)).2
  have p2 := (c1 t (by omega)).2
  have p3 := (c1 (gm_nx 0 (left - 1) t) (by omega)).2
  refine ⟨?_, ?_, ?_, by omega, ?_⟩
  · intro k hk
    rw [hr k hk]
    show _ = nI (if k < t then R k else R (k + 1)) ∧ (if k < t then R k else R (k + 1)) < cnt
    by_cases e : k < t
    · rw [if_pos e, if_pos e]; exact c1 k (by omega)
    · rw [if_neg e, if_neg e]; exact c1 (k + 1) (by omega)
  · intro h4
    have g := gm_good_cut (c2 h3) (by omega) ht he
    rw [← mt_skR] at g
    exact g
  · have ca := gm_cut_area (f := fun k => P (R k)) (j := left - 1) ht (by omega)
    rw [← mt_skR] at ca
    have s := gm_sum_c (F := fun t' => mt_ab (gm_O (P (upd fc n (nI (R (gm_pv 0 (left - 1) t))) t').toNatClampNeg) (P (upd mc n (nI (R t)) t').toNatClampNeg) (P (upd lc n (nI (R (gm_nx 0 (left - 1) t))) t').toNatClampNeg))) (G := fun t' => mt_ab (gm_O (P (fc t').toNatClampNeg) (P (mc t').toNatClampNeg) (P (lc t').toNatClampNeg))) (i := 0) (n := n) (fun k h1 h2 => by
      try dsimp only
      rw [mt_un (show k ≠ n by omega), mt_un (show k ≠ n by omega), mt_un (show k ≠ n by omega)])
    unfold mt_T at c3 ⊢
    simp only [gm_sum, Nat.zero_add]
    rw [s, mt_us, mt_us, mt_us, nI_clamp (by omega), nI_clamp (by omega), nI_clamp (by omega)]
    have pos : 0 < gm_O (P (R (gm_pv 0 (left - 1) t))) (P (R t)) (P (R (gm_nx 0 (left - 1) t))) := he.1
    have ab : mt_ab (gm_O (P (R (gm_pv 0 (left - 1) t))) (P (R t)) (P (R (gm_nx 0 (left - 1) t)))) = gm_O (P (R (gm_pv 0 (left - 1) t))) (P (R t)) (P (R (gm_nx 0 (left - 1) t))) := by
      unfold mt_ab
      rw [if_neg (by omega)]
    rw [ab]
    have ca' : gm_cy gm_ar (fun k => P (R k)) 0 (left - 1) = gm_cy gm_ar (fun k => P (if k < t then R k else R (k + 1))) 0 (left - 1 - 1) + gm_O (P (R (gm_pv 0 (left - 1) t))) (P (R t)) (P (R (gm_nx 0 (left - 1) t))) := ca
    omega
  · intro k hk
    by_cases e : k = n
    · refine ⟨_, _, _, p1, p2, p3, ?_, ?_, ?_⟩
      · rw [e]; exact mt_us
      · rw [e]; exact mt_us
      · rw [e]; exact mt_us
    · obtain ⟨a, b, c, q1, q2, q3, q4, q5, q6⟩ := c5 k (by omega)
      exact ⟨a, b, c, q1, q2, q3, (mt_un e).trans q4, (mt_un e).trans q5, (mt_un e).trans q6⟩
theorem mt_end {P : Nat → gm_P} {cnt : Nat} {A : Int} {rg : Nat → Int32} {R : Nat → Nat} {fc mc lc : Nat → Int32} {n : Nat} (h : mt_CI P cnt A rg R 2 fc mc lc n) : mt_T P fc mc lc n = A ∧ n + 2 = cnt ∧ mt_V cnt fc mc lc n := by
  obtain ⟨_, _, c3, c4, c5⟩ := h
  refine ⟨?_, c4, c5⟩
  rw [show 2 - 1 = 1 from rfl, gm_cy_path] at c3
  have e : gm_sum (fun k => gm_ar (P (R k)) (P (R (k + 1)))) 0 1 = 0 + gm_ar (P (R 0)) (P (R 1)) := rfl
  have a : gm_ar (P (R 1)) (P (R 0)) = - gm_ar (P (R 0)) (P (R 1)) := by unfold gm_ar; grind
  rw [e] at c3
  omega
theorem mt_start1 {P : Nat → gm_P} {cnt : Nat} {rg fc mc lc : Nat → Int32} (h3 : 3 ≤ cnt) (hs : gm_simp P 0 (cnt - 1)) (ha : 0 < gm_cy gm_ar P 0 (cnt - 1)) (hr : ∀ k, k < cnt → rg k = nI k) : mt_CI P cnt (mt_ab (gm_cy gm_ar P 0 (cnt - 1))) rg (fun k => k) cnt fc mc lc 0 := by
  have w := gm_good0 (show 2 ≤ cnt - 1 by omega) hs (by omega)
  refine ⟨fun k hk => ⟨hr k hk, hk⟩, fun _ => ⟨h3, hs, w⟩, ?_, by omega, fun t ht => by omega⟩
  show mt_T P fc mc lc 0 + gm_cy gm_ar P 0 (cnt - 1) = _
  unfold mt_T mt_ab
  rw [if_neg (by omega)]
  simp only [gm_sum]
  omega
theorem mt_start2 {P : Nat → gm_P} {cnt : Nat} {rg fc mc lc : Nat → Int32} (h3 : 3 ≤ cnt) (hs : gm_simp P 0 (cnt - 1)) (ha : gm_cy gm_ar P 0 (cnt - 1) ≤ 0) (hr : ∀ k, k < cnt → rg k = nI (cnt - 1 - k)) : mt_CI P cnt (mt_ab (gm_cy gm_ar P 0 (cnt - 1))) rg (fun k => cnt - 1 - k) cnt fc mc lc 0 := by
  have rs := gm_rev_simp hs
  have ra := gm_rev_area P (cnt - 1)
  have e : gm_rev P (cnt - 1) = fun k => P (cnt - 1 - k) := rfl
  rw [e] at rs ra
  have w := gm_good0 (show 2 ≤ cnt - 1 by omega) rs (by omega)
  have kl : ∀ k, k < cnt → cnt - 1 - k < cnt := fun k hk => by omega
  refine ⟨fun k hk => ⟨hr k hk, kl k hk⟩, fun _ => ⟨h3, rs, w⟩, ?_, by omega, fun t ht => by omega⟩
  show mt_T P fc mc lc 0 + gm_cy gm_ar (fun k => P (cnt - 1 - k)) 0 (cnt - 1) = _
  rw [ra]
  unfold mt_T mt_ab
  simp only [gm_sum]
  split <;> omega
/-- there is an ear ahead of the last place -/
theorem mt_ear {P : Nat → gm_P} {cnt : Nat} {A : Int} {rg : Nat → Int32} {R : Nat → Nat} {left : Nat} {fc mc lc : Nat → Int32} {n : Nat} (h : mt_CI P cnt A rg R left fc mc lc n) (h3 : 3 ≤ left) : ∃ t, t < left - 1 ∧ gm_er (fun k => P (R k)) (left - 1) t := gm_good_ear (h.2.1 h3)
theorem mt_inj {P : Nat → gm_P} {cnt : Nat} {A : Int} {rg : Nat → Int32} {R : Nat → Nat} {left : Nat} {fc mc lc : Nat → Int32} {n : Nat} (h : mt_CI P cnt A rg R left fc mc lc n) (h3 : 3 ≤ left) {a b : Nat} (ha : a < left) (hb : b < left) (e : R a = R b) : a = b :=
  (h.2.1 h3).2.1.1 a b (by omega) (by omega) (by omega) (by omega) (by show P (R a) = P (R b); rw [e])
end
section
/-! the small methods of both texts, each by its pure value -/
section
variable {cp st tr : Int32} {xs ys kd fc mc lc rg : Nat → Int32} {n : Nat} {post : Int32 → Prop}
theorem x_next {k : Nat} (hk : k < n) (hn : n ≤ 32) (h : post (nI (gm_nx 0 (n - 1) k))) : wpX_next post (cp, st, nI n, tr, xs, ys, kd, fc, mc, lc, rg) (nI k) := by
  show (nI n ≤ nI k + 1 → post 0) ∧ (¬ nI n ≤ nI k + 1 → post (nI k + 1))
  rw [nI_1, nI_leI (by omega) (by omega)]
  unfold gm_nx at h
  by_cases e : k = n - 1
  · rw [if_pos e, nI_0] at h
    exact ⟨fun _ => h, fun z => absurd (by omega) z⟩
  · rw [if_neg e] at h
    exact ⟨fun z => absurd z (by omega), fun _ => h⟩
theorem mt_dec {k : Nat} (h : 0 < k) : nI k - 1 = nI (k - 1) := by
  obtain ⟨j, rfl⟩ : ∃ j, k = j + 1 := ⟨k - 1, by omega⟩
  rw [nI_pred, Nat.add_sub_cancel]
theorem x_prev {k : Nat} (hk : k < n) (hn : n ≤ 32) (h : post (nI (gm_pv 0 (n - 1) k))) : wpX_prev post (cp, st, nI n, tr, xs, ys, kd, fc, mc, lc, rg) (nI k) := by
  show (nI k ≤ 0 → post (nI n - 1)) ∧ (¬ nI k ≤ 0 → post (nI k - 1))
  rw [← nI_0, nI_leI (by omega) (by omega)]
  unfold gm_pv at h
  by_cases e : k = 0
  · rw [if_pos e] at h
    exact ⟨fun _ => by rw [mt_dec (by omega)]; exact h, fun z => absurd (by omega) z⟩
  · rw [if_neg e] at h
    exact ⟨fun z => absurd z (by omega), fun _ => by rw [mt_dec (by omega)]; exact h⟩
theorem y_nxt {k : Nat} (hk : k < n) (hn : n ≤ 32) (h : post (nI (gm_nx 0 (n - 1) k))) : wpY_nxt post (cp, nI n, st, xs, ys) (nI k) := by
  show (nI k + 1 < nI n → post (nI k + 1)) ∧ (¬ nI k + 1 < nI n → post 0)
  rw [nI_1, nI_ltI (by omega) (by omega)]
  unfold gm_nx at h
  by_cases e : k = n - 1
  · rw [if_pos e, nI_0] at h
    exact ⟨fun z => absurd z (by omega), fun _ => h⟩
  · rw [if_neg e] at h
    exact ⟨fun _ => h, fun z => absurd (by omega) z⟩
theorem y_prv {k : Nat} (hk : k < n) (hn : n ≤ 32) (h : post (nI (gm_pv 0 (n - 1) k))) : wpY_prv post (cp, nI n, st, xs, ys) (nI k) := by
  show (0 < nI k → post (nI k - 1)) ∧ (¬ 0 < nI k → post (nI n - 1))
  rw [← nI_0, nI_ltI (by omega) (by omega)]
  unfold gm_pv at h
  by_cases e : k = 0
  · rw [if_pos e] at h
    exact ⟨fun z => absurd z (by omega), fun _ => by rw [mt_dec (by omega)]; exact h⟩
  · rw [if_neg e] at h
    exact ⟨fun _ => by rw [mt_dec (by omega)]; exact h, fun z => absurd (by omega) z⟩
theorem mt_eO (ax ay bx by' cx cy : Int32) : (bx - ax) * (cy - ay) - (by' - ay) * (cx - ax) = mt_c (gm_O (ax.toInt, ay.toInt) (bx.toInt, by'.toInt) (cx.toInt, cy.toInt)) := by
  simp only [gm_O, ← mt_sub, ← mt_mul, mt_cT]
theorem mt_eD (ax ay bx by' cx cy : Int32) : (bx - ax) * (cx - ax) + (by' - ay) * (cy - ay) = mt_c (gm_D (ax.toInt, ay.toInt) (bx.toInt, by'.toInt) (cx.toInt, cy.toInt)) := by
  simp only [gm_D, ← mt_sub, ← mt_mul, ← mt_add, mt_cT]
theorem x_cross {i j : Nat} {px py : Int32} (hi : i < n) (hj : j < n) (hn : n ≤ 32) (h : post (mt_c (gm_O (mt_p xs ys i) (mt_p xs ys j) (px.toInt, py.toInt)))) : wpX_cross post (cp, st, nI n, tr, xs, ys, kd, fc, mc, lc, rg) (nI i) (nI j) px py := by
  unfold wpX_cross
  dsimp only
  have vi : vp_in (nI i) 32 := vp_in_nI (by omega) (by omega)
  have vj : vp_in (nI j) 32 := vp_in_nI (by omega) (by omega)
  refine ⟨vj, vi, vi, vj, vi, vi, ?_⟩
  rw [nI_clamp (show i < 2 ^ 31 by omega), nI_clamp (show j < 2 ^ 31 by omega), mt_eO]
  exact h
theorem x_dot {i j : Nat} {px py : Int32} (hi : i < n) (hj : j < n) (hn : n ≤ 32) (h : post (mt_c (gm_D (px.toInt, py.toInt) (mt_p xs ys i) (mt_p xs ys j)))) : wpX_dotFrom post (cp, st, nI n, tr, xs, ys, kd, fc, mc, lc, rg) px py (nI i) (nI j) := by
  unfold wpX_dotFrom
  dsimp only
  have vi : vp_in (nI i) 32 := vp_in_nI (by omega) (by omega)
  have vj : vp_in (nI j) 32 := vp_in_nI (by omega) (by omega)
  refine ⟨vi, vj, vi, vj, ?_⟩
  rw [nI_clamp (show i < 2 ^ 31 by omega), nI_clamp (show j < 2 ^ 31 by omega), mt_eD]
  exact h
theorem y_cross {ax ay bx by' cx cy : Int32} (h : post (mt_c (gm_O (ax.toInt, ay.toInt) (bx.toInt, by'.toInt) (cx.toInt, cy.toInt)))) : wpY_cross post (cp, nI n, st, xs, ys) ax ay bx by' cx cy := by
  show post ((bx - ax) * (cy - ay) - (by' - ay) * (cx - ax))
  rw [mt_eO]; exact h
theorem y_dot {ax ay bx by' cx cy : Int32} (h : post (mt_c (gm_D (ax.toInt, ay.toInt) (bx.toInt, by'.toInt) (cx.toInt, cy.toInt)))) : wpY_dot post (cp, nI n, st, xs, ys) ax ay bx by' cx cy := by
  show post ((bx - ax) * (cx - ax) + (by' - ay) * (cy - ay))
  rw [mt_eD]; exact h
theorem x_on {i j : Nat} {px py : Int32} (hi : i < n) (hj : j < n) (hn : n ≤ 32) (hB : ∀ k, k < n → mt_B (mt_p xs ys k)) (hq : mt_B (px.toInt, py.toInt)) (h1 : gm_on (mt_p xs ys i) (mt_p xs ys j) (px.toInt, py.toInt) → post 1) (h0 : ¬ gm_on (mt_p xs ys i) (mt_p xs ys j) (px.toInt, py.toInt) → post 0) : wpX_onSegment post (cp, st, nI n, tr, xs, ys, kd, fc, mc, lc, rg) (nI i) (nI j) px py := by
  unfold wpX_onSegment
  dsimp only
  refine x_cross hi hj hn ?_
  rw [mt_eq0 (mt_Os (hB i hi) (hB j hj) hq)]
  refine br_c (fun a => ?_) (fun a => h0 (fun z => a z.1))
  refine x_dot hi hj hn ?_
  rw [mt_0lt (mt_Ds hq (hB i hi) (hB j hj))]
  exact br_c (fun b => h0 (fun z => by have := z.2; omega)) (fun b => h1 ⟨a, by omega⟩)
theorem y_on {qx qy ax ay bx by' : Int32} (hq : mt_B (qx.toInt, qy.toInt)) (ha : mt_B (ax.toInt, ay.toInt)) (hb : mt_B (bx.toInt, by'.toInt)) (h1 : gm_on (ax.toInt, ay.toInt) (bx.toInt, by'.toInt) (qx.toInt, qy.toInt) → post 1) (h0 : ¬ gm_on (ax.toInt, ay.toInt) (bx.toInt, by'.toInt) (qx.toInt, qy.toInt) → post 0) : wpY_onSeg post (cp, nI n, st, xs, ys) qx qy ax ay bx by' := by
  unfold wpY_onSeg
  dsimp only
  refine y_cross (y_dot ?_)
  rw [mt_eq0 (mt_Os hq ha hb), mt_0lt (mt_Ds hq ha hb), gm_Oc]
  exact br_c (fun a => br_c (fun b => h0 (fun z => by have := z.2; omega)) (fun b => h1 ⟨a, by omega⟩)) (fun a => h0 (fun z => a z.1))
theorem x_sep {a b c d : Nat} (ha : a < n) (hb : b < n) (hc : c < n) (hd : d < n) (hn : n ≤ 32) (hB : ∀ k, k < n → mt_B (mt_p xs ys k)) (h1 : gm_sep (mt_p xs ys a) (mt_p xs ys b) (mt_p xs ys c) (mt_p xs ys d) → post 1) (h0 : ¬ gm_sep (mt_p xs ys a) (mt_p xs ys b) (mt_p xs ys c) (mt_p xs ys d) → post 0) : wpX_separates post (cp, st, nI n, tr, xs, ys, kd, fc, mc, lc, rg) (nI a) (nI b) (nI c) (nI d) := by
  have vc : vp_in (nI c) 32 := vp_in_nI (by omega) (by omega)
  have vd : vp_in (nI d) 32 := vp_in_nI (by omega) (by omega)
  have k1 := mt_le0 (mt_Os (hB a ha) (hB b hb) (hB c hc))
  have k2 := mt_le0 (mt_Os (hB a ha) (hB b hb) (hB d hd))
  have n01 : ¬ (0 : Int32) = 1 := by decide
  have n10 : ¬ (1 : Int32) = 0 := by decide
  have tail : ∀ z : Int32, (z = 0 ∧ gm_O (mt_p xs ys a) (mt_p xs ys b) (mt_p xs ys c) ≤ 0) ∨ (z = 1 ∧ 0 < gm_O (mt_p xs ys a) (mt_p xs ys b) (mt_p xs ys c)) → wX_separates_26 post (nI a) (nI b) (nI d) z cp st (nI n) tr xs ys kd fc mc lc rg := by
    intro z hz
    unfold wX_separates_26
    rw [nI_clamp (show d < 2 ^ 31 by omega)]
    refine ⟨vd, vd, x_cross ha hb hn ?_⟩
    show (mt_c (gm_O (mt_p xs ys a) (mt_p xs ys b) (mt_p xs ys d)) ≤ 0 → _) ∧ (¬ mt_c (gm_O (mt_p xs ys a) (mt_p xs ys b) (mt_p xs ys d)) ≤ 0 → _)
    rw [k2]
    unfold wX_separates_56
    unfold gm_sep at h1 h0
    rcases hz with ⟨rfl, hz⟩ | ⟨rfl, hz⟩
    · exact br_c (fun y => br_t rfl (h0 (fun w => w (by omega)))) (fun y => br_f n01 (h1 (by omega)))
    · exact br_c (fun y => br_f n10 (h1 (by omega))) (fun y => br_t rfl (h0 (fun w => w (by omega))))
  unfold wpX_separates
  dsimp only
  rw [nI_clamp (show c < 2 ^ 31 by omega)]
  refine ⟨vc, vc, x_cross ha hb hn ?_⟩
  show (mt_c (gm_O (mt_p xs ys a) (mt_p xs ys b) (mt_p xs ys c)) ≤ 0 → _) ∧ (¬ mt_c (gm_O (mt_p xs ys a) (mt_p xs ys b) (mt_p xs ys c)) ≤ 0 → _)
  rw [k1]
  exact br_c (fun y => tail 0 (Or.inl ⟨rfl, y⟩)) (fun y => tail 1 (Or.inr ⟨rfl, by omega⟩))
theorem x_meet {a b c d : Nat} (ha : a < n) (hb : b < n) (hc : c < n) (hd : d < n) (hn : n ≤ 32) (hB : ∀ k, k < n → mt_B (mt_p xs ys k)) (h1 : gm_meet (mt_p xs ys a) (mt_p xs ys b) (mt_p xs ys c) (mt_p xs ys d) → post 1) (h0 : ¬ gm_meet (mt_p xs ys a) (mt_p xs ys b) (mt_p xs ys c) (mt_p xs ys d) → post 0) : wpX_segmentsMeet post (cp, st, nI n, tr, xs, ys, kd, fc, mc, lc, rg) (nI a) (nI b) (nI c) (nI d) := by
  have va : vp_in (nI a) 32 := vp_in_nI (by omega) (by omega)
  have vb : vp_in (nI b) 32 := vp_in_nI (by omega) (by omega)
  have vc : vp_in (nI c) 32 := vp_in_nI (by omega) (by omega)
  have vd : vp_in (nI d) 32 := vp_in_nI (by omega) (by omega)
  have n10 : ¬ (1 : Int32) = 0 := by decide
  unfold wpX_segmentsMeet
  dsimp only
  rw [nI_clamp (show a < 2 ^ 31 by omega), nI_clamp (show b < 2 ^ 31 by omega), nI_clamp (show c < 2 ^ 31 by omega), nI_clamp (show d < 2 ^ 31 by omega)]
  refine ⟨vc, vc, x_on ha hb hn hB (hB c hc) (fun m1 => br_f n10 (h1 (Or.inr (Or.inl m1)))) (fun m1 => br_t rfl ?_)⟩
  refine ⟨vd, vd, x_on ha hb hn hB (hB d hd) (fun m2 => br_f n10 (h1 (Or.inr (Or.inr (Or.inl m2))))) (fun m2 => br_t rfl ?_)⟩
  refine ⟨va, va, x_on hc hd hn hB (hB a ha) (fun m3 => br_f n10 (h1 (Or.inr (Or.inr (Or.inr (Or.inl m3)))))) (fun m3 => br_t rfl ?_)⟩
  refine ⟨vb, vb, x_on hc hd hn hB (hB b hb) (fun m4 => br_f n10 (h1 (Or.inr (Or.inr (Or.inr (Or.inr m4)))))) (fun m4 => br_t rfl ?_)⟩
  have M := gm_meetX m1 m2 m3 m4
  have no : ¬ gm_px (mt_p xs ys a) (mt_p xs ys b) (mt_p xs ys c) (mt_p xs ys d) → post 0 := by
    intro z
    refine h0 (fun w => ?_)
    rcases w with w | w | w | w | w
    · exact z w
    · exact m1 w
    · exact m2 w
    · exact m3 w
    · exact m4 w
  refine x_sep ha hb hc hd hn hB (fun s1 => br_f n10 ?_) (fun s1 => br_t rfl (no (fun z => s1 (M.mpr z).1)))
  exact x_sep hc hd ha hb hn hB (fun s2 => br_f n10 (h1 (Or.inl (M.mp ⟨s1, s2⟩)))) (fun s2 => br_t rfl (no (fun z => s2 (M.mpr z).2)))
theorem y_opp {s t : Int} (hs : mt_sm s) (ht : mt_sm t) (h1 : gm_opp s t → post 1) (h0 : ¬ gm_opp s t → post 0) : wpY_opposite post (cp, nI n, st, xs, ys) (mt_c s) (mt_c t) := by
  have t8 : (¬ (0 < s ∧ t < 0)) → wY_opposite_8 post (mt_c s) (mt_c t) cp (nI n) st xs ys := by
    intro q
    unfold wY_opposite_8
    rw [mt_0le hs, mt_le0 ht]
    unfold gm_opp at h1 h0
    exact br_c (fun a => h0 (by omega)) (fun a => br_c (fun b => h0 (by omega)) (fun b => h1 (by omega)))
  unfold wpY_opposite
  dsimp only
  rw [mt_le0 hs, mt_lt0 ht]
  refine br_c (fun a => t8 (by omega)) (fun a => br_c (fun b => h1 (Or.inl ⟨by omega, b⟩)) (fun b => t8 (by omega)))
theorem x_below {a b : Nat} (ha : a < n) (hb : b < n) (hn : n ≤ 32) (h1 : (ys a < ys b ∨ (ys a = ys b ∧ ¬ xs a ≤ xs b)) → post 1) (h0 : ¬ (ys a < ys b ∨ (ys a = ys b ∧ ¬ xs a ≤ xs b)) → post 0) : wpX_isBelow post (cp, st, nI n, tr, xs, ys, kd, fc, mc, lc, rg) (nI a) (nI b) := by
  have va : vp_in (nI a) 32 := vp_in_nI (by omega) (by omega)
  have vb : vp_in (nI b) 32 := vp_in_nI (by omega) (by omega)
  unfold wpX_isBelow
  dsimp only
  rw [nI_clamp (show a < 2 ^ 31 by omega), nI_clamp (show b < 2 ^ 31 by omega)]
  refine ⟨va, vb, br_c (fun p => h1 (Or.inl p)) (fun p => ⟨va, vb, br_c (fun q => ⟨va, vb, br_c (fun r => h0 (fun z => ?_)) (fun r => h1 (Or.inr ⟨q, r⟩))⟩) (fun q => h0 (fun z => ?_))⟩)⟩
  · rcases z with z | z
    · exact p z
    · exact z.2 r
  · rcases z with z | z
    · exact p z
    · exact q z.1
theorem y_below {a b : Nat} (ha : a < n) (hb : b < n) (hn : n ≤ 32) (h1 : (ys a < ys b ∨ (ys a = ys b ∧ ¬ xs a ≤ xs b)) → post 1) (h0 : ¬ (ys a < ys b ∨ (ys a = ys b ∧ ¬ xs a ≤ xs b)) → post 0) : wpY_below post (cp, nI n, st, xs, ys) (nI a) (nI b) := by
  have va : vp_in (nI a) 32 := vp_in_nI (by omega) (by omega)
  have vb : vp_in (nI b) 32 := vp_in_nI (by omega) (by omega)
  unfold wpY_below
  dsimp only
  rw [nI_clamp (show a < 2 ^ 31 by omega), nI_clamp (show b < 2 ^ 31 by omega)]
  refine ⟨va, vb, br_c (fun p => h1 (Or.inl p)) (fun p => ⟨va, vb, br_c (fun q => ⟨va, vb, br_c (fun r => h0 (fun z => ?_)) (fun r => h1 (Or.inr ⟨q, r⟩))⟩) (fun q => h0 (fun z => ?_))⟩)⟩
  · rcases z with z | z
    · exact p z
    · exact z.2 r
  · rcases z with z | z
    · exact p z
    · exact q z.1
theorem x_tri {a b c v : Nat} (ha : a < n) (hb : b < n) (hc : c < n) (hv : v < n) (hn : n ≤ 32) (hB : ∀ k, k < n → mt_B (mt_p xs ys k)) (h1 : gm_in (mt_p xs ys a) (mt_p xs ys b) (mt_p xs ys c) (mt_p xs ys v) → post 1) (h0 : ¬ gm_in (mt_p xs ys a) (mt_p xs ys b) (mt_p xs ys c) (mt_p xs ys v) → post 0) : wpX_inTriangle post (cp, st, nI n, tr, xs, ys, kd, fc, mc, lc, rg) (nI a) (nI b) (nI c) (nI v) := by
  have vv : vp_in (nI v) 32 := vp_in_nI (by omega) (by omega)
  unfold wpX_inTriangle
  dsimp only
  rw [nI_clamp (show v < 2 ^ 31 by omega)]
  refine ⟨vv, nm_e ⟨vv, nm_e ?_⟩⟩
  have k1 := mt_lt0 (mt_Os (hB a ha) (hB b hb) (hB v hv))
  have k2 := mt_lt0 (mt_Os (hB b hb) (hB c hc) (hB v hv))
  have k3 := mt_lt0 (mt_Os (hB c hc) (hB a ha) (hB v hv))
  refine x_cross ha hb hn ?_
  refine br_c (fun p => h0 (fun z => ?_)) (fun p => x_cross hb hc hn (br_c (fun q => h0 (fun z => ?_)) (fun q => x_cross hc ha hn (br_c (fun r => h0 (fun z => ?_)) (fun r => h1 ⟨?_, ?_, ?_⟩)))))
  · have := k1.mp p; have := z.1; omega
  · have := k2.mp q; have := z.2.1; omega
  · have := k3.mp r; have := z.2.2; omega
  · exact Int.not_lt.mp (fun z => p (k1.mpr z))
  · exact Int.not_lt.mp (fun z => q (k2.mpr z))
  · exact Int.not_lt.mp (fun z => r (k3.mpr z))
end
end
section
/-! the loops of the judging: both texts by the same pure conditions -/
def mt_A (xs ys : Nat → Int32) (n k : Nat) : Int := gm_sum (fun i => gm_ar (mt_p xs ys i) (mt_p xs ys (gm_nx 0 (n - 1) i))) 0 k
def mt_rep (xs ys : Nat → Int32) (a b : Nat) : Prop := xs a = xs b ∧ ys a = ys b
def mt_fo (xs ys : Nat → Int32) (n k : Nat) : Prop := gm_O (mt_p xs ys k) (mt_p xs ys (gm_pv 0 (n - 1) k)) (mt_p xs ys (gm_nx 0 (n - 1) k)) = 0 ∧ 0 < gm_D (mt_p xs ys k) (mt_p xs ys (gm_pv 0 (n - 1) k)) (mt_p xs ys (gm_nx 0 (n - 1) k))
def mt_me (xs ys : Nat → Int32) (n a b : Nat) : Prop := (b ≠ gm_nx 0 (n - 1) a ∧ a ≠ gm_nx 0 (n - 1) b) ∧ gm_meet (mt_p xs ys a) (mt_p xs ys (gm_nx 0 (n - 1) a)) (mt_p xs ys b) (mt_p xs ys (gm_nx 0 (n - 1) b))
theorem mt_nl {n k : Nat} (h : k < n) : gm_nx 0 (n - 1) k < n := by unfold gm_nx; split <;> omega
theorem mt_pl {n k : Nat} (h : k < n) : gm_pv 0 (n - 1) k < n := by unfold gm_pv; split <;> omega
theorem mt_As (xs ys : Nat → Int32) (n k : Nat) : mt_c (mt_A xs ys n k) + (xs k * ys (gm_nx 0 (n - 1) k) - xs (gm_nx 0 (n - 1) k) * ys k) = mt_c (mt_A xs ys n (k + 1)) := by
  simp only [mt_A, gm_sum, gm_ar, mt_p, Nat.zero_add, ← mt_add, ← mt_sub, ← mt_mul, mt_cT]
section
variable {cp st tr : Int32} {xs ys kd fc mc lc rg : Nat → Int32} {n : Nat} {post : Int32 → Prop}
theorem x_area_l (hn : n ≤ 32) (h : post (mt_c (mt_A xs ys n n))) : ∀ d k, k + d = n → wX_area2_4 post cp st (nI n) tr xs ys kd fc mc lc rg (d + 1) (mt_c (mt_A xs ys n k)) (nI k) := by
  intro d
  induction d with
  | zero =>
    intro k hk
    have e : k = n := by omega
    rw [e]
    exact br_t (nI_le (Nat.le_refl n) (by omega)) h
  | succ d ih =>
    intro k hk
    have vk : vp_in (nI k) 32 := vp_in_nI (by omega) (by omega)
    have hj := mt_nl (show k < n by omega)
    have vj : vp_in (nI (gm_nx 0 (n - 1) k)) 32 := vp_in_nI (by omega) (by omega)
    refine br_f (nI_ge (by omega) (by omega)) (x_next (by omega) hn ⟨vk, vj, vj, vk, nm_r ?_ (nm_r (nI_1 k) (ih (k + 1) (by omega)))⟩)
    rw [nI_clamp (show k < 2 ^ 31 by omega), nI_clamp (show gm_nx 0 (n - 1) k < 2 ^ 31 by omega), mt_As]
theorem x_area (hn : n ≤ 32) (h : post (mt_c (mt_A xs ys n n))) : wpX_area2 post (cp, st, nI n, tr, xs, ys, kd, fc, mc, lc, rg) := by
  have k := x_area_l (cp := cp) (st := st) (tr := tr) (kd := kd) (fc := fc) (mc := mc) (lc := lc) (rg := rg) hn h n 0 (by omega)
  have e : mt_c (mt_A xs ys n 0) = 0 := mt_0.symm
  rw [e, nI_0] at k
  exact ⟨n + 1, k⟩
theorem y_area_l (hn : n ≤ 32) (h : post (mt_c (mt_A xs ys n n))) : ∀ d k, k + d = n → wY_area2_4 post cp (nI n) st xs ys (d + 1) (mt_c (mt_A xs ys n k)) (nI k) := by
  intro d
  induction d with
  | zero =>
    intro k hk
    have e : k = n := by omega
    rw [e]
    exact br_t (nI_le (Nat.le_refl n) (by omega)) h
  | succ d ih =>
    intro k hk
    have vk : vp_in (nI k) 32 := vp_in_nI (by omega) (by omega)
    have hj := mt_nl (show k < n by omega)
    have vj : vp_in (nI (gm_nx 0 (n - 1) k)) 32 := vp_in_nI (by omega) (by omega)
    refine br_f (nI_ge (by omega) (by omega)) (y_nxt (by omega) hn ⟨vk, vj, vj, vk, nm_r ?_ (nm_r (nI_1 k) (ih (k + 1) (by omega)))⟩)
    rw [nI_clamp (show k < 2 ^ 31 by omega), nI_clamp (show gm_nx 0 (n - 1) k < 2 ^ 31 by omega), mt_As]
theorem y_area (hn : n ≤ 32) (h : post (mt_c (mt_A xs ys n n))) : wpY_area2 post (cp, nI n, st, xs, ys) := by
  have k := y_area_l (cp := cp) (st := st) hn h n 0 (by omega)
  have e : mt_c (mt_A xs ys n 0) = 0 := mt_0.symm
  rw [e, nI_0] at k
  exact ⟨n + 1, k⟩
/-! repeated corners -/
theorem x_rep_l {J2 : Int32 → Prop} {a : Nat} (hn : n ≤ 32) (ha : a < n) : ∀ d b, b + d = n → ((∃ b', b ≤ b' ∧ b' < n ∧ mt_rep xs ys a b') → post 1) → ((¬ ∃ b', b ≤ b' ∧ b' < n ∧ mt_rep xs ys a b') → J2 (nI (a + 1))) → wX_hasRepeatedCorner_14 post J2 (nI a) cp st (nI n) tr xs ys kd fc mc lc rg (d + 1) (nI b) := by
  intro d
  induction d with
  | zero =>
    intro b hb h1 h0
    have e : b = n := by omega
    subst e
    exact br_t (nI_le (Nat.le_refl _) (by omega)) (nm_r (nI_1 a) (h0 (fun ⟨b', p, q, _⟩ => by omega)))
  | succ d ih =>
    intro b hb h1 h0
    have va : vp_in (nI a) 32 := vp_in_nI (by omega) (by omega)
    have vb : vp_in (nI b) 32 := vp_in_nI (by omega) (by omega)
    have ca := nI_clamp (show a < 2 ^ 31 by omega)
    have cb := nI_clamp (show b < 2 ^ 31 by omega)
    have go : ¬ mt_rep xs ys a b → wX_hasRepeatedCorner_14 post J2 (nI a) cp st (nI n) tr xs ys kd fc mc lc rg (d + 1) (nI (b + 1)) := by
      intro nr
      refine ih (b + 1) (by omega) (fun ⟨b', p, q, r⟩ => h1 ⟨b', by omega, q, r⟩) (fun z => h0 (fun ⟨b', p, q, r⟩ => ?_))
      by_cases e : b' = b
      · exact nr (e ▸ r)
      · exact z ⟨b', by omega, q, r⟩
    refine br_f (nI_ge (by omega) (by omega)) ⟨va, vb, br_c (fun e => ⟨va, vb, br_c (fun e2 => h1 ⟨b, Nat.le_refl _, by omega, ?_⟩) (fun e2 => nm_r (nI_1 b) (go (fun r => e2 ?_)))⟩) (fun e => nm_r (nI_1 b) (go (fun r => e ?_)))⟩
    · rw [ca, cb] at e e2; exact ⟨e, e2⟩
    · rw [ca, cb]; exact r.2
    · rw [ca, cb]; exact r.1
theorem x_rep_o (hn : n ≤ 32) : ∀ d a, a + d = n → ((∃ a' b', a ≤ a' ∧ a' < b' ∧ b' < n ∧ mt_rep xs ys a' b') → post 1) → ((¬ ∃ a' b', a ≤ a' ∧ a' < b' ∧ b' < n ∧ mt_rep xs ys a' b') → post 0) → wX_hasRepeatedCorner_2 post cp st (nI n) tr xs ys kd fc mc lc rg (d + 1) (nI a) := by
  intro d
  induction d with
  | zero =>
    intro a ha h1 h0
    have e : a = n := by omega
    subst e
    exact br_t (nI_le (Nat.le_refl _) (by omega)) (h0 (fun ⟨a', b', p, q, r, _⟩ => by omega))
  | succ d ih =>
    intro a ha h1 h0
    refine br_f (nI_ge (by omega) (by omega)) (nm_r (nI_1 a) ⟨n - (a + 1) + 1, x_rep_l hn (by omega) _ (a + 1) (by omega) (fun ⟨b', p, q, r⟩ => h1 ⟨a, b', Nat.le_refl _, by omega, q, r⟩) (fun z => ?_)⟩)
    refine ih (a + 1) (by omega) (fun ⟨a', b', p, q, r, s⟩ => h1 ⟨a', b', by omega, q, r, s⟩) (fun y => h0 (fun ⟨a', b', p, q, r, s⟩ => ?_))
    by_cases e : a' = a
    · exact z ⟨b', by omega, r, e ▸ s⟩
    · exact y ⟨a', b', by omega, q, r, s⟩
theorem x_rep (hn : n ≤ 32) (h1 : (∃ a b, a < b ∧ b < n ∧ mt_rep xs ys a b) → post 1) (h0 : (¬ ∃ a b, a < b ∧ b < n ∧ mt_rep xs ys a b) → post 0) : wpX_hasRepeatedCorner post (cp, st, nI n, tr, xs, ys, kd, fc, mc, lc, rg) :=
  ⟨n + 1, x_rep_o hn n 0 (by omega) (fun ⟨a, b, _, q, r, s⟩ => h1 ⟨a, b, q, r, s⟩) (fun z => h0 (fun ⟨a, b, q, r, s⟩ => z ⟨a, b, Nat.zero_le _, q, r, s⟩))⟩
/-! folded corners -/
theorem x_fo_l (hn : n ≤ 32) (hB : ∀ k, k < n → mt_B (mt_p xs ys k)) : ∀ d k, k + d = n → ((∃ k', k ≤ k' ∧ k' < n ∧ mt_fo xs ys n k') → post 1) → ((¬ ∃ k', k ≤ k' ∧ k' < n ∧ mt_fo xs ys n k') → post 0) → wX_hasFoldedCorner_2 post cp st (nI n) tr xs ys kd fc mc lc rg (d + 1) (nI k) := by
  intro d
  induction d with
  | zero =>
    intro k hk h1 h0
    have e : k = n := by omega
    subst e
    exact br_t (nI_le (Nat.le_refl _) (by omega)) (h0 (fun ⟨k', p, q, _⟩ => by omega))
  | succ d ih =>
    intro k hk h1 h0
    have hkn : k < n := by omega
    have vk : vp_in (nI k) 32 := vp_in_nI (by omega) (by omega)
    have hj := mt_nl hkn
    have hi := mt_pl hkn
    have vj : vp_in (nI (gm_nx 0 (n - 1) k)) 32 := vp_in_nI (by omega) (by omega)
    have go : ¬ mt_fo xs ys n k → wX_hasFoldedCorner_2 post cp st (nI n) tr xs ys kd fc mc lc rg (d + 1) (nI (k + 1)) := by
      intro nr
      refine ih (k + 1) (by omega) (fun ⟨b', p, q, r⟩ => h1 ⟨b', by omega, q, r⟩) (fun z => h0 (fun ⟨b', p, q, r⟩ => ?_))
      by_cases e : b' = k
      · exact nr (e ▸ r)
      · exact z ⟨b', by omega, q, r⟩
    refine br_f (nI_ge (by omega) (by omega)) (x_prev hkn hn (x_next hkn hn ⟨vj, vj, x_cross hkn hi hn ?_⟩))
    rw [nI_clamp (show gm_nx 0 (n - 1) k < 2 ^ 31 by omega), nI_clamp (show k < 2 ^ 31 by omega)]
    refine br_c (fun e => ⟨vk, vk, x_dot hi hj hn ?_⟩) (fun e => nm_r (nI_1 k) (go (fun r => e ((mt_eq0 (mt_Os (hB _ hkn) (hB _ hi) (hB _ hj))).mpr r.1))))
    have e' := (mt_eq0 (mt_Os (hB _ hkn) (hB _ hi) (hB _ hj))).mp e
    have dd := mt_le0 (mt_Ds (hB _ hkn) (hB _ hi) (hB _ hj))
    refine br_c (fun g => nm_r (nI_1 k) (go (fun r => ?_))) (fun g => h1 ⟨k, Nat.le_refl _, hkn, e', ?_⟩)
    · have := dd.mp g
      have := r.2
      omega
    · exact Int.not_le.mp (fun z => g (dd.mpr z))
theorem x_fo (hn : n ≤ 32) (hB : ∀ k, k < n → mt_B (mt_p xs ys k)) (h1 : (∃ k, k < n ∧ mt_fo xs ys n k) → post 1) (h0 : (¬ ∃ k, k < n ∧ mt_fo xs ys n k) → post 0) : wpX_hasFoldedCorner post (cp, st, nI n, tr, xs, ys, kd, fc, mc, lc, rg) :=
  ⟨n + 1, x_fo_l hn hB n 0 (by omega) (fun ⟨k, _, q, r⟩ => h1 ⟨k, q, r⟩) (fun z => h0 (fun ⟨k, q, r⟩ => z ⟨k, Nat.zero_le _, q, r⟩))⟩
/-! meeting edges -/
theorem x_me_l {J2 : Int32 → Prop} {a : Nat} (hn : n ≤ 32) (hB : ∀ k, k < n → mt_B (mt_p xs ys k)) (ha : a < n) : ∀ d b, b + d = n → ((∃ b', b ≤ b' ∧ b' < n ∧ mt_me xs ys n a b') → post 1) → ((¬ ∃ b', b ≤ b' ∧ b' < n ∧ mt_me xs ys n a b') → J2 (nI (a + 1))) → wX_hasMeetingEdges_20 post J2 (nI a) (nI (gm_nx 0 (n - 1) a)) cp st (nI n) tr xs ys kd fc mc lc rg (d + 1) (nI b) := by
  intro d
  induction d with
  | zero =>
    intro b hb h1 h0
    have e : b = n := by omega
    subst e
    exact br_t (nI_le (Nat.le_refl _) (by omega)) (nm_r (nI_1 a) (h0 (fun ⟨b', p, q, _⟩ => by omega)))
  | succ d ih =>
    intro b hb h1 h0
    have hbn : b < n := by omega
    have hj := mt_nl hbn
    have hi := mt_nl ha
    have n10 : ¬ (1 : Int32) = 0 := by decide
    have go : ¬ mt_me xs ys n a b → wX_hasMeetingEdges_20 post J2 (nI a) (nI (gm_nx 0 (n - 1) a)) cp st (nI n) tr xs ys kd fc mc lc rg (d + 1) (nI (b + 1)) := by
      intro nr
      refine ih (b + 1) (by omega) (fun ⟨b', p, q, r⟩ => h1 ⟨b', by omega, q, r⟩) (fun z => h0 (fun ⟨b', p, q, r⟩ => ?_))
      by_cases e : b' = b
      · exact nr (e ▸ r)
      · exact z ⟨b', by omega, q, r⟩
    refine br_f (nI_ge (by omega) (by omega)) (x_next hbn hn ?_)
    have c1 := nI_eq (a := b) (b := gm_nx 0 (n - 1) a) (by omega) (by omega)
    have c2 := nI_eq (a := a) (b := gm_nx 0 (n - 1) b) (by omega) (by omega)
    refine br_c (fun e => nm_r (nI_1 b) (go (fun r => r.1.1 (c1.mp e)))) (fun e => br_c (fun e2 => nm_r (nI_1 b) (go (fun r => r.1.2 (c2.mp e2)))) (fun e2 => ?_))
    exact x_meet ha hi hbn hj hn hB (fun m => br_f n10 (h1 ⟨b, Nat.le_refl _, hbn, ⟨fun z => e (c1.mpr z), fun z => e2 (c2.mpr z)⟩, m⟩)) (fun m => br_t rfl (nm_r (nI_1 b) (go (fun r => m r.2))))
theorem x_me_o (hn : n ≤ 32) (hB : ∀ k, k < n → mt_B (mt_p xs ys k)) : ∀ d a, a + d = n → ((∃ a' b', a ≤ a' ∧ a' < b' ∧ b' < n ∧ mt_me xs ys n a' b') → post 1) → ((¬ ∃ a' b', a ≤ a' ∧ a' < b' ∧ b' < n ∧ mt_me xs ys n a' b') → post 0) → wX_hasMeetingEdges_2 post cp st (nI n) tr xs ys kd fc mc lc rg (d + 1) (nI a) := by
  intro d
  induction d with
  | zero =>
    intro a ha h1 h0
    have e : a = n := by omega
    subst e
    exact br_t (nI_le (Nat.le_refl _) (by omega)) (h0 (fun ⟨a', b', p, q, r, _⟩ => by omega))
  | succ d ih =>
    intro a ha h1 h0
    refine br_f (nI_ge (by omega) (by omega)) (x_next (by omega) hn (nm_r (nI_1 a) ⟨n - (a + 1) + 1, x_me_l hn hB (by omega) _ (a + 1) (by omega) (fun ⟨b', p, q, r⟩ => h1 ⟨a, b', Nat.le_refl _, by omega, q, r⟩) (fun z => ?_)⟩))
    refine ih (a + 1) (by omega) (fun ⟨a', b', p, q, r, s⟩ => h1 ⟨a', b', by omega, q, r, s⟩) (fun y => h0 (fun ⟨a', b', p, q, r, s⟩ => ?_))
    by_cases e : a' = a
    · exact z ⟨b', by omega, r, e ▸ s⟩
    · exact y ⟨a', b', by omega, q, r, s⟩
theorem x_me (hn : n ≤ 32) (hB : ∀ k, k < n → mt_B (mt_p xs ys k)) (h1 : (∃ a b, a < b ∧ b < n ∧ mt_me xs ys n a b) → post 1) (h0 : (¬ ∃ a b, a < b ∧ b < n ∧ mt_me xs ys n a b) → post 0) : wpX_hasMeetingEdges post (cp, st, nI n, tr, xs, ys, kd, fc, mc, lc, rg) :=
  ⟨n + 1, x_me_o hn hB n 0 (by omega) (fun ⟨a, b, _, q, r, s⟩ => h1 ⟨a, b, q, r, s⟩) (fun z => h0 (fun ⟨a, b, q, r, s⟩ => z ⟨a, b, Nat.zero_le _, q, r, s⟩))⟩
end
end
section
/-! the component's triangulating: kinds, ring, ears, cuts -/
def mt_sgn (xs ys : Nat → Int32) (n : Nat) : Int32 := if mt_c (mt_A xs ys n n) ≤ 0 then -1 else 1
def mt_cv (xs ys : Nat → Int32) (n k : Nat) : Int32 := mt_sgn xs ys n * mt_c (gm_O (mt_p xs ys (gm_pv 0 (n - 1) k)) (mt_p xs ys k) (mt_p xs ys (gm_nx 0 (n - 1) k)))
def mt_kind (xs ys : Nat → Int32) (n k : Nat) : Int32 :=
  if (ys (gm_pv 0 (n - 1) k) < ys k ∨ (ys (gm_pv 0 (n - 1) k) = ys k ∧ ¬ xs (gm_pv 0 (n - 1) k) ≤ xs k)) ∧ (ys (gm_nx 0 (n - 1) k) < ys k ∨ (ys (gm_nx 0 (n - 1) k) = ys k ∧ ¬ xs (gm_nx 0 (n - 1) k) ≤ xs k)) then (if mt_cv xs ys n k ≤ 0 then 2 else 1)
  else if (ys k < ys (gm_pv 0 (n - 1) k) ∨ (ys k = ys (gm_pv 0 (n - 1) k) ∧ ¬ xs k ≤ xs (gm_pv 0 (n - 1) k))) ∧ (ys k < ys (gm_nx 0 (n - 1) k) ∨ (ys k = ys (gm_nx 0 (n - 1) k) ∧ ¬ xs k ≤ xs (gm_nx 0 (n - 1) k))) then (if mt_cv xs ys n k ≤ 0 then 4 else 3)
  else 5
theorem mt_subn {a b : Nat} (h : b ≤ a) : nI a - nI b = nI (a - b) := by
  obtain ⟨c, rfl⟩ : ∃ c, a = c + b := ⟨a - b, by omega⟩
  rw [← nI_add, Int32.add_sub_cancel, Nat.add_sub_cancel]
theorem mt_m1n (k : Nat) : nI (k + 1) + (-1) = nI k := by
  rw [← nI_1, Int32.add_assoc, show (1 : Int32) + (-1) = 0 from rfl, Int32.add_zero]
section
variable {cp st tr : Int32} {xs ys kd fc mc lc rg : Nat → Int32} {n : Nat} {post : Int32 → Prop} {pst : SX → Prop}
theorem x_k106 {J : Int32 → (Nat → Int32) → (Nat → Int32) → (Nat → Int32) → (Nat → Int32) → (Nat → Int32) → (Nat → Int32) → (Nat → Int32) → Prop} {k : Nat} {x1 z : Int32} (hk : k < n) (hn : n ≤ 32) (hz : (z = 0 ∧ mt_cv xs ys n k ≤ 0) ∨ (z = 1 ∧ ¬ mt_cv xs ys n k ≤ 0)) (hb : ¬ ((ys (gm_pv 0 (n - 1) k) < ys k ∨ (ys (gm_pv 0 (n - 1) k) = ys k ∧ ¬ xs (gm_pv 0 (n - 1) k) ≤ xs k)) ∧ (ys (gm_nx 0 (n - 1) k) < ys k ∨ (ys (gm_nx 0 (n - 1) k) = ys k ∧ ¬ xs (gm_nx 0 (n - 1) k) ≤ xs k)))) (h : J (nI (k + 1)) xs ys (upd kd k (mt_kind xs ys n k)) fc mc lc rg) : wX_fixKinds_106 pst J x1 (nI k) (nI (gm_pv 0 (n - 1) k)) (nI (gm_nx 0 (n - 1) k)) z cp st (nI n) tr xs ys kd fc mc lc rg := by
  have hp := mt_pl hk
  have hq := mt_nl hk
  have vk : vp_in (nI k) 32 := vp_in_nI (by omega) (by omega)
  have ck := nI_clamp (show k < 2 ^ 31 by omega)
  have n10 : ¬ (1 : Int32) = 0 := by decide
  have e5 : ¬ ((ys k < ys (gm_pv 0 (n - 1) k) ∨ (ys k = ys (gm_pv 0 (n - 1) k) ∧ ¬ xs k ≤ xs (gm_pv 0 (n - 1) k))) ∧ (ys k < ys (gm_nx 0 (n - 1) k) ∨ (ys k = ys (gm_nx 0 (n - 1) k) ∧ ¬ xs k ≤ xs (gm_nx 0 (n - 1) k)))) → upd kd (nI k).toNatClampNeg 5 = upd kd k (mt_kind xs ys n k) := by
    intro q
    rw [ck]
    unfold mt_kind
    rw [if_neg hb, if_neg q]
  unfold wX_fixKinds_106
  refine x_below hk hp hn (fun b1 => br_f n10 (x_below hk hq hn (fun b2 => br_f n10 ?_) (fun b2 => br_t rfl ⟨vk, nm_r (e5 (fun z => b2 z.2)) (nm_r (nI_1 k) h)⟩))) (fun b1 => br_t rfl ⟨vk, nm_r (e5 (fun z => b1 z.1)) (nm_r (nI_1 k) h)⟩)
  have kv : mt_kind xs ys n k = if mt_cv xs ys n k ≤ 0 then 4 else 3 := by
    unfold mt_kind
    rw [if_neg hb, if_pos ⟨b1, b2⟩]
  rcases hz with ⟨rfl, hz⟩ | ⟨rfl, hz⟩
  · refine br_t rfl ⟨vk, nm_r ?_ (nm_r (nI_1 k) h)⟩
    rw [ck, kv, if_pos hz]
  · refine br_f n10 ⟨vk, nm_r ?_ (nm_r (nI_1 k) h)⟩
    rw [ck, kv, if_neg hz]
theorem x_k66 {J : Int32 → (Nat → Int32) → (Nat → Int32) → (Nat → Int32) → (Nat → Int32) → (Nat → Int32) → (Nat → Int32) → (Nat → Int32) → Prop} {k : Nat} {x1 z : Int32} (hk : k < n) (hn : n ≤ 32) (hz : (z = 0 ∧ mt_cv xs ys n k ≤ 0) ∨ (z = 1 ∧ ¬ mt_cv xs ys n k ≤ 0)) (h : J (nI (k + 1)) xs ys (upd kd k (mt_kind xs ys n k)) fc mc lc rg) : wX_fixKinds_66 pst J x1 (nI k) (nI (gm_pv 0 (n - 1) k)) (nI (gm_nx 0 (n - 1) k)) z cp st (nI n) tr xs ys kd fc mc lc rg := by
  have hp := mt_pl hk
  have hq := mt_nl hk
  have vk : vp_in (nI k) 32 := vp_in_nI (by omega) (by omega)
  have ck := nI_clamp (show k < 2 ^ 31 by omega)
  have n10 : ¬ (1 : Int32) = 0 := by decide
  unfold wX_fixKinds_66
  refine x_below hp hk hn (fun b1 => br_f n10 (x_below hq hk hn (fun b2 => br_f n10 ?_) (fun b2 => br_t rfl (x_k106 hk hn hz (fun z => b2 z.2) h)))) (fun b1 => br_t rfl (x_k106 hk hn hz (fun z => b1 z.1) h))
  have kv : mt_kind xs ys n k = if mt_cv xs ys n k ≤ 0 then 2 else 1 := by
    unfold mt_kind
    rw [if_pos ⟨b1, b2⟩]
  rcases hz with ⟨rfl, hz⟩ | ⟨rfl, hz⟩
  · refine br_t rfl ⟨vk, nm_r ?_ (nm_r (nI_1 k) h)⟩
    rw [ck, kv, if_pos hz]
  · refine br_f n10 ⟨vk, nm_r ?_ (nm_r (nI_1 k) h)⟩
    rw [ck, kv, if_neg hz]
theorem x_kinds_l (hn : n ≤ 32) (h : ∀ kd', (∀ j, j < n → kd' j = mt_kind xs ys n j) → pst (cp, st, nI n, tr, xs, ys, kd', fc, mc, lc, rg)) : ∀ d k kd, k + d = n → (∀ j, j < k → kd j = mt_kind xs ys n j) → wX_fixKinds_15 pst (mt_sgn xs ys n) cp st (nI n) tr (d + 1) (nI k) xs ys kd fc mc lc rg := by
  intro d
  induction d with
  | zero =>
    intro k kd hk hi
    have e : k = n := by omega
    subst e
    exact br_t (nI_le (Nat.le_refl _) (by omega)) (h kd hi)
  | succ d ih =>
    intro k kd hk hi
    have hkn : k < n := by omega
    have hj := mt_nl hkn
    have hp := mt_pl hkn
    have vj : vp_in (nI (gm_nx 0 (n - 1) k)) 32 := vp_in_nI (by omega) (by omega)
    have nxt : wX_fixKinds_15 pst (mt_sgn xs ys n) cp st (nI n) tr (d + 1) (nI (k + 1)) xs ys (upd kd k (mt_kind xs ys n k)) fc mc lc rg := by
      refine ih (k + 1) _ (by omega) (fun j hj => ?_)
      by_cases e : j = k
      · rw [e]; exact mt_us
      · rw [mt_un e]; exact hi j (by omega)
    refine br_f (nI_ge (by omega) (by omega)) (x_prev hkn hn (x_next hkn hn ⟨vj, vj, x_cross hp hkn hn ?_⟩))
    rw [nI_clamp (show gm_nx 0 (n - 1) k < 2 ^ 31 by omega)]
    exact br_c (fun c => x_k66 hkn hn (Or.inl ⟨rfl, c⟩) nxt) (fun c => x_k66 hkn hn (Or.inr ⟨rfl, c⟩) nxt)
theorem x_kinds (hn : n ≤ 32) (h : ∀ kd', (∀ j, j < n → kd' j = mt_kind xs ys n j) → pst (cp, st, nI n, tr, xs, ys, kd', fc, mc, lc, rg)) : wpX_fixKinds pst (cp, st, nI n, tr, xs, ys, kd, fc, mc, lc, rg) := by
  have k := x_kinds_l (cp := cp) (st := st) (tr := tr) (fc := fc) (mc := mc) (lc := lc) (rg := rg) hn h n 0 kd (by omega) (fun j hj => by omega)
  unfold wpX_fixKinds
  dsimp only
  refine x_area hn (br_c (fun a => ?_) (fun a => ?_))
  · unfold mt_sgn at k
    rw [if_pos a] at k
    exact ⟨n + 1, k⟩
  · unfold mt_sgn at k
    rw [if_neg a] at k
    exact ⟨n + 1, k⟩
theorem x_ring_l {x1 : Int32} (R : Nat → Nat) (hn : n ≤ 32) (hx : (x1 = 0 ∧ ∀ k, k < n → R k = n - 1 - k) ∨ (¬ x1 = 0 ∧ ∀ k, k < n → R k = k)) (h : ∀ rg', (∀ j, j < n → rg' j = nI (R j)) → pst (cp, st, nI n, tr, xs, ys, kd, fc, mc, lc, rg')) : ∀ d k rg, k + d = n → (∀ j, j < k → rg j = nI (R j)) → wX_fillRing_15 pst x1 cp st (nI n) tr (d + 1) (nI k) xs ys kd fc mc lc rg := by
  intro d
  induction d with
  | zero =>
    intro k rg hk hi
    have e : k = n := by omega
    subst e
    exact br_t (nI_le (Nat.le_refl _) (by omega)) (h rg hi)
  | succ d ih =>
    intro k rg hk hi
    have hkn : k < n := by omega
    have vk : vp_in (nI k) 32 := vp_in_nI (by omega) (by omega)
    have ck := nI_clamp (show k < 2 ^ 31 by omega)
    have nxt : wX_fillRing_15 pst x1 cp st (nI n) tr (d + 1) (nI (k + 1)) xs ys kd fc mc lc (upd rg k (nI (R k))) := by
      refine ih (k + 1) _ (by omega) (fun j hj => ?_)
      by_cases e : j = k
      · rw [e]; exact mt_us
      · rw [mt_un e]; exact hi j (by omega)
    refine br_f (nI_ge (by omega) (by omega)) ?_
    rcases hx with ⟨z, r⟩ | ⟨z, r⟩
    · refine br_t z ⟨vk, nm_r ?_ (nm_r (nI_1 k) nxt)⟩
      rw [ck, r k hkn, mt_dec (by omega), mt_subn (by omega)]
    · refine br_f z ⟨vk, nm_r ?_ (nm_r (nI_1 k) nxt)⟩
      rw [ck, r k hkn]
theorem x_ring (hn : n ≤ 32) (h1 : ¬ mt_c (mt_A xs ys n n) ≤ 0 → ∀ rg', (∀ j, j < n → rg' j = nI j) → pst (cp, st, nI n, tr, xs, ys, kd, fc, mc, lc, rg')) (h0 : mt_c (mt_A xs ys n n) ≤ 0 → ∀ rg', (∀ j, j < n → rg' j = nI (n - 1 - j)) → pst (cp, st, nI n, tr, xs, ys, kd, fc, mc, lc, rg')) : wpX_fillRing pst (cp, st, nI n, tr, xs, ys, kd, fc, mc, lc, rg) := by
  unfold wpX_fillRing
  dsimp only
  refine x_area hn (br_c (fun a => ⟨n + 1, ?_⟩) (fun a => ⟨n + 1, ?_⟩))
  · exact x_ring_l (fun k => n - 1 - k) hn (Or.inl ⟨rfl, fun _ _ => rfl⟩) (h0 a) n 0 rg (by omega) (fun j hj => by omega)
  · exact x_ring_l (fun k => k) hn (Or.inr ⟨by decide, fun _ _ => rfl⟩) (h1 a) n 0 rg (by omega) (fun j hj => by omega)
/-! ears -/
theorem x_ear_l {R : Nat → Nat} {left a t c : Nat} (hn : n ≤ 32) (hB : ∀ k, k < n → mt_B (mt_p xs ys k)) (hl : left ≤ 32) (hr : ∀ k, k < left → rg k = nI (R k) ∧ R k < n) (inj : ∀ p q, p < left → q < left → R p = R q → p = q) (ha : a < left) (ht : t < left) (hc : c < left) : ∀ d k, k + d = left → ((∀ x, k ≤ x → x < left → x ≠ a → x ≠ t → x ≠ c → ¬ gm_in (mt_p xs ys (R a)) (mt_p xs ys (R t)) (mt_p xs ys (R c)) (mt_p xs ys (R x))) → post 1) → ((¬ ∀ x, k ≤ x → x < left → x ≠ a → x ≠ t → x ≠ c → ¬ gm_in (mt_p xs ys (R a)) (mt_p xs ys (R t)) (mt_p xs ys (R c)) (mt_p xs ys (R x))) → post 0) → wX_isEar_77 post (nI left) (nI (R a)) (nI (R t)) (nI (R c)) cp st (nI n) tr xs ys kd fc mc lc rg (d + 1) (nI k) := by
  intro d
  induction d with
  | zero =>
    intro k hk h1 h0
    have e : k = left := by omega
    subst e
    exact br_t (nI_le (Nat.le_refl _) (by omega)) (h1 (fun x p q => by omega))
  | succ d ih =>
    intro k hk h1 h0
    have hkl : k < left := by omega
    obtain ⟨rk, rn⟩ := hr k hkl
    have ra := (hr a ha).2
    have rt := (hr t ht).2
    have rc := (hr c hc).2
    have vk : vp_in (nI k) 32 := vp_in_nI (by omega) (by omega)
    have ck := nI_clamp (show k < 2 ^ 31 by omega)
    have n10 : ¬ (1 : Int32) = 0 := by decide
    have go : (k ≠ a → k ≠ t → k ≠ c → ¬ gm_in (mt_p xs ys (R a)) (mt_p xs ys (R t)) (mt_p xs ys (R c)) (mt_p xs ys (R k))) → wX_isEar_77 post (nI left) (nI (R a)) (nI (R t)) (nI (R c)) cp st (nI n) tr xs ys kd fc mc lc rg (d + 1) (nI (k + 1)) := by
      intro nr
      refine ih (k + 1) (by omega) (fun z => h1 (fun x p q r s t' => ?_)) (fun z => h0 (fun w => z (fun x p q => w x (by omega) q)))
      by_cases e : x = k
      · rw [e] at r s t' ⊢
        exact nr r s t'
      · exact z x (by omega) q r s t'
    have q1 := nI_eq (a := R k) (b := R a) (by omega) (by omega)
    have q2 := nI_eq (a := R k) (b := R t) (by omega) (by omega)
    have q3 := nI_eq (a := R k) (b := R c) (by omega) (by omega)
    refine br_f (nI_ge (by omega) (by omega)) ⟨vk, nm_r (show rg (nI k).toNatClampNeg = nI (R k) by rw [ck]; exact rk) ?_⟩
    refine br_c (fun e => nm_r (nI_1 k) (go (fun z => absurd (inj _ _ hkl ha (q1.mp e)) z))) (fun e1 => br_c (fun e => nm_r (nI_1 k) (go (fun _ z => absurd (inj _ _ hkl ht (q2.mp e)) z))) (fun e2 => br_c (fun e => nm_r (nI_1 k) (go (fun _ _ z => absurd (inj _ _ hkl hc (q3.mp e)) z))) (fun e3 => ?_)))
    refine x_tri ra rt rc rn hn hB (fun m => br_f n10 (h0 (fun z => ?_))) (fun m => br_t rfl (nm_r (nI_1 k) (go (fun _ _ _ => m))))
    exact z k (Nat.le_refl _) hkl (fun w => e1 (q1.mpr (by rw [w]))) (fun w => e2 (q2.mpr (by rw [w]))) (fun w => e3 (q3.mpr (by rw [w]))) m
theorem x_ear {R : Nat → Nat} {left t : Nat} (hn : n ≤ 32) (hB : ∀ k, k < n → mt_B (mt_p xs ys k)) (h3 : 3 ≤ left) (hl : left ≤ 32) (hr : ∀ k, k < left → rg k = nI (R k) ∧ R k < n) (inj : ∀ p q, p < left → q < left → R p = R q → p = q) (ht : t < left) (h1 : gm_er (fun k => mt_p xs ys (R k)) (left - 1) t → post 1) (h0 : ¬ gm_er (fun k => mt_p xs ys (R k)) (left - 1) t → post 0) : wpX_isEar post (cp, st, nI n, tr, xs, ys, kd, fc, mc, lc, rg) (nI t) (nI left) := by
  have hp := mt_pl ht
  have hq := mt_nl ht
  obtain ⟨gp, rp⟩ := hr _ hp
  obtain ⟨gt, rt⟩ := hr _ ht
  obtain ⟨gq, rq⟩ := hr _ hq
  have vt : vp_in (nI t) 32 := vp_in_nI (by omega) (by omega)
  have vp : vp_in (nI (gm_pv 0 (left - 1) t)) 32 := vp_in_nI (by omega) (by omega)
  have vq : vp_in (nI (gm_nx 0 (left - 1) t)) 32 := vp_in_nI (by omega) (by omega)
  have vr : vp_in (nI (R (gm_nx 0 (left - 1) t))) 32 := vp_in_nI (by omega) (by omega)
  have e45 : wX_isEar_45 post (nI left) (nI (R (gm_pv 0 (left - 1) t))) (nI (R t)) (nI (gm_nx 0 (left - 1) t)) cp st (nI n) tr xs ys kd fc mc lc rg := by
    unfold wX_isEar_45
    refine ⟨vq, nm_r (show rg (nI (gm_nx 0 (left - 1) t)).toNatClampNeg = nI (R (gm_nx 0 (left - 1) t)) by rw [nI_clamp (by omega)]; exact gq) ⟨vr, vr, x_cross rp rt hn ?_⟩⟩
    rw [nI_clamp (show R (gm_nx 0 (left - 1) t) < 2 ^ 31 by omega)]
    have s := mt_0lt (mt_Os (hB _ rp) (hB _ rt) (hB _ rq))
    refine br_c (fun z => ⟨left + 1, x_ear_l hn hB hl hr inj hp ht hq left 0 (by omega) (fun w => h1 ⟨s.mp z, fun x x1 a b c => w x (by omega) (by omega) a b c⟩) (fun w => h0 (fun er => w (fun x _ x1 a b c => er.2 x (by omega) a b c)))⟩) (fun z => h0 (fun er => z (s.mpr er.1)))
  have e17 : wX_isEar_17 post (nI t) (nI left) (nI (gm_pv 0 (left - 1) t)) cp st (nI n) tr xs ys kd fc mc lc rg := by
    unfold wX_isEar_17
    refine ⟨vp, nm_r (show rg (nI (gm_pv 0 (left - 1) t)).toNatClampNeg = nI (R (gm_pv 0 (left - 1) t)) by rw [nI_clamp (by omega)]; exact gp) ⟨vt, nm_r (show rg (nI t).toNatClampNeg = nI (R t) by rw [nI_clamp (by omega)]; exact gt) ?_⟩⟩
    rw [nI_1, nI_leI (by omega) (by omega)]
    refine br_c (fun z => ?_) (fun z => ?_)
    · have e : gm_nx 0 (left - 1) t = 0 := by unfold gm_nx; rw [if_pos (by omega)]
      rw [e, nI_0] at e45
      exact e45
    · have e : gm_nx 0 (left - 1) t = t + 1 := by unfold gm_nx; rw [if_neg (by omega)]
      rw [e] at e45
      exact e45
  unfold wpX_isEar
  dsimp only
  rw [← nI_0, nI_leI (by omega) (by omega)]
  refine br_c (fun z => ?_) (fun z => ?_)
  · have e : gm_pv 0 (left - 1) t = left - 1 := by unfold gm_pv; rw [if_pos (by omega)]
    rw [mt_dec (by omega), ← e]
    exact e17
  · have e : gm_pv 0 (left - 1) t = t - 1 := by unfold gm_pv; rw [if_neg (by omega)]
    rw [mt_dec (by omega), ← e]
    exact e17
end
end
section
/-! cutting off, and the whole run of cuts -/
section
variable {cp st tr : Int32} {xs ys kd fc mc lc rg : Nat → Int32} {n : Nat} {post : Int32 → Prop} {pst : SX → Prop}
theorem x_shift {left t : Nat} {tr' : Int32} (hl : left ≤ 32) (h : ∀ rg', (∀ k, k < left - 1 → rg' k = if k < t then rg k else rg (k + 1)) → pst (cp, st, nI n, tr', xs, ys, kd, fc, mc, lc, rg')) : ∀ d k rg', k + d + 1 = left → t ≤ k → (∀ j, rg' j = if j < t then rg j else if j < k then rg (j + 1) else rg j) → wX_cutOff_82 pst (nI left) cp st (nI n) tr' (d + 1) (nI k) xs ys kd fc mc lc rg' := by
  intro d
  induction d with
  | zero =>
    intro k rg' hk htk hi
    refine br_t (by rw [nI_1]; exact nI_le (by omega) (by omega)) (h rg' (fun j hj => ?_))
    rw [hi j]
    by_cases e : j < t
    · rw [if_pos e, if_pos e]
    · rw [if_neg e, if_neg e, if_pos (by omega)]
  | succ d ih =>
    intro k rg' hk htk hi
    have vk : vp_in (nI k) 32 := vp_in_nI (by omega) (by omega)
    have vk1 : vp_in (nI k + 1) 32 := by rw [nI_1]; exact vp_in_nI (by omega) (by omega)
    have ck := nI_clamp (show k < 2 ^ 31 by omega)
    have ck1 : (nI k + 1).toNatClampNeg = k + 1 := by rw [nI_1]; exact nI_clamp (by omega)
    refine br_f (by rw [nI_1]; exact nI_ge (by omega) (by omega)) ⟨vk1, vk, nm_r (show upd rg' (nI k).toNatClampNeg (rg' (nI k + 1).toNatClampNeg) = upd rg' k (rg' (k + 1)) by rw [ck, ck1]) (nm_r (nI_1 k) (ih (k + 1) _ (by omega) (by omega) (fun j => ?_)))⟩
    by_cases e : j = k
    · rw [e, mt_us, hi (k + 1), if_neg (by omega), if_neg (by omega), if_neg (by omega), if_pos (by omega)]
    · rw [mt_un e, hi j]
      by_cases e1 : j < t
      · rw [if_pos e1, if_pos e1]
      · rw [if_neg e1, if_neg e1]
        by_cases e2 : j < k
        · rw [if_pos e2, if_pos (by omega)]
        · rw [if_neg e2, if_neg (by omega)]
theorem x_cut {R : Nat → Nat} {left t m : Nat} (hm : m < 32) (h3 : 3 ≤ left) (hl : left ≤ 32) (hr : ∀ k, k < left → rg k = nI (R k) ∧ R k < n) (ht : t < left - 1) (h : ∀ rg', (∀ k, k < left - 1 → rg' k = if k < t then rg k else rg (k + 1)) → pst (cp, st, nI n, nI (m + 1), xs, ys, kd, upd fc m (nI (R (gm_pv 0 (left - 1) t))), upd mc m (nI (R t)), upd lc m (nI (R (gm_nx 0 (left - 1) t))), rg')) : wpX_cutOff pst (cp, st, nI n, nI m, xs, ys, kd, fc, mc, lc, rg) (nI t) (nI left) := by
  have htl : t < left := by omega
  have hp := mt_pl htl
  have hq := mt_nl htl
  obtain ⟨gp, rp⟩ := hr _ hp
  obtain ⟨gt, rt⟩ := hr _ htl
  obtain ⟨gq, rq⟩ := hr _ hq
  have vm : vp_in (nI m) 32 := vp_in_nI (by omega) (by omega)
  have vt : vp_in (nI t) 32 := vp_in_nI (by omega) (by omega)
  have vp : vp_in (nI (gm_pv 0 (left - 1) t)) 32 := vp_in_nI (by omega) (by omega)
  have vq : vp_in (nI (gm_nx 0 (left - 1) t)) 32 := vp_in_nI (by omega) (by omega)
  have cm := nI_clamp (show m < 2 ^ 31 by omega)
  have ct := nI_clamp (show t < 2 ^ 31 by omega)
  have c1 := nI_clamp (show gm_pv 0 (left - 1) t < 2 ^ 31 by omega)
  have c2 := nI_clamp (show gm_nx 0 (left - 1) t < 2 ^ 31 by omega)
  have e68 : wX_cutOff_68 pst (nI t) (nI left) (nI (gm_nx 0 (left - 1) t)) (nI m) cp st (nI n) (nI m) xs ys kd (upd fc m (nI (R (gm_pv 0 (left - 1) t)))) (upd mc m (nI (R t))) lc rg := by
    unfold wX_cutOff_68
    refine ⟨vq, vm, nm_r (show upd lc (nI m).toNatClampNeg (rg (nI (gm_nx 0 (left - 1) t)).toNatClampNeg) = upd lc m (nI (R (gm_nx 0 (left - 1) t))) by rw [cm, c2, gq]) (nm_r (nI_1 m) ⟨left - 1 - t + 1, x_shift hl h (left - 1 - t) t rg (by omega) (Nat.le_refl _) (fun j => ?_)⟩)⟩
    by_cases e : j < t
    · rw [if_pos e]
    · rw [if_neg e, if_neg e]
  have e25 : wX_cutOff_25 pst (nI t) (nI left) (nI (gm_pv 0 (left - 1) t)) (nI m) cp st (nI n) (nI m) xs ys kd fc mc lc rg := by
    unfold wX_cutOff_25
    refine ⟨vp, vm, nm_r (show upd fc (nI m).toNatClampNeg (rg (nI (gm_pv 0 (left - 1) t)).toNatClampNeg) = upd fc m (nI (R (gm_pv 0 (left - 1) t))) by rw [cm, c1, gp]) ⟨vt, vm, nm_r (show upd mc (nI m).toNatClampNeg (rg (nI t).toNatClampNeg) = upd mc m (nI (R t)) by rw [cm, ct, gt]) ?_⟩⟩
    rw [nI_1, nI_leI (by omega) (by omega)]
    refine br_c (fun z => absurd z (by omega)) (fun z => ?_)
    have e : gm_nx 0 (left - 1) t = t + 1 := by unfold gm_nx; rw [if_neg (by omega)]
    rw [e] at e68
    rw [e] at h
    exact e68
  unfold wpX_cutOff
  dsimp only
  rw [← nI_0, nI_leI (by omega) (by omega)]
  refine br_c (fun z => ?_) (fun z => ?_)
  · have e : gm_pv 0 (left - 1) t = left - 1 := by unfold gm_pv; rw [if_pos (by omega)]
    rw [mt_dec (by omega)]
    rw [e] at e25
    exact e25
  · have e : gm_pv 0 (left - 1) t = t - 1 := by unfold gm_pv; rw [if_neg (by omega)]
    rw [mt_dec (by omega)]
    rw [e] at e25
    exact e25
theorem x_find {J : Int32 → Int32 → Int32 → Int32 → Int32 → (Nat → Int32) → (Nat → Int32) → (Nat → Int32) → (Nat → Int32) → (Nat → Int32) → (Nat → Int32) → (Nat → Int32) → Prop} {R : Nat → Nat} {left : Nat} (hn : n ≤ 32) (hB : ∀ k, k < n → mt_B (mt_p xs ys k)) (h3 : 3 ≤ left) (hl : left ≤ 32) (hr : ∀ k, k < left → rg k = nI (R k) ∧ R k < n) (inj : ∀ p q, p < left → q < left → R p = R q → p = q) (h : ∀ t, t < left - 1 → gm_er (fun k => mt_p xs ys (R k)) (left - 1) t → wX_cutIntoTriangles_43 pst J (nI left) (nI t) cp st (nI n) tr xs ys kd fc mc lc rg) : ∀ d k, k + d = left - 1 → (∃ t, k ≤ t ∧ t < left - 1 ∧ gm_er (fun k => mt_p xs ys (R k)) (left - 1) t) → wX_cutIntoTriangles_21 pst J (nI left) cp st (nI n) tr xs ys kd fc mc lc rg (d + 1) (nI k) := by
  intro d
  induction d with
  | zero =>
    intro k hk ⟨t, p, q, _⟩
    omega
  | succ d ih =>
    intro k hk ⟨t, p, q, r⟩
    have n10 : ¬ (1 : Int32) = 0 := by decide
    refine br_f (by rw [mt_dec (by omega)]; exact nI_ge (by omega) (by omega)) (x_ear hn hB h3 hl hr inj (by omega) (fun er => br_f n10 (h k (by omega) er)) (fun er => br_t rfl (nm_r (nI_1 k) (ih (k + 1) (by omega) ⟨t, ?_, q, r⟩))))
    by_cases e : t = k
    · rw [e] at r; exact absurd r er
    · omega
theorem x_run {A : Int} (hn : n ≤ 32) (hB : ∀ k, k < n → mt_B (mt_p xs ys k)) (h : ∀ (R : Nat → Nat) fc mc lc rg m, mt_CI (mt_p xs ys) n A rg R 2 fc mc lc m → pst (cp, st, nI n, nI m, xs, ys, kd, fc, mc, lc, rg)) : ∀ d (R : Nat → Nat) fc mc lc rg m, mt_CI (mt_p xs ys) n A rg R (d + 2) fc mc lc m → wX_cutIntoTriangles_14 pst (d + 1) (nI (d + 2)) cp st (nI n) (nI m) xs ys kd fc mc lc rg := by
  intro d
  induction d with
  | zero =>
    intro R fc mc lc rg m ci
    exact br_t (nI_lt (b := 3) (by omega) (by omega)) (h R fc mc lc rg m ci)
  | succ d ih =>
    intro R fc mc lc rg m ci
    have c4 := ci.2.2.2.1
    have inj : ∀ p q, p < d + 1 + 2 → q < d + 1 + 2 → R p = R q → p = q := fun p q hp hq e => mt_inj ci (by omega) hp hq e
    obtain ⟨t0, t1, t2⟩ := mt_ear ci (by omega)
    refine br_f (nI_nlt (b := 3) (by omega) (by omega)) ⟨d + 1 + 2 - 1 + 1, x_find hn hB (left := d + 1 + 2) (by omega) (by omega) ci.1 inj (fun t ht er => ?_) (d + 1 + 2 - 1) 0 (by omega) ⟨t0, Nat.zero_le _, t1, t2⟩⟩
    unfold wX_cutIntoTriangles_43
    refine x_cut (R := R) (by omega) (by omega) (by omega) ci.1 ht (fun rg' hr' => ?_)
    refine nm_r (show nI (d + 1 + 2) + (-1) = nI (d + 2) from mt_m1n (d + 2)) ?_
    exact ih _ _ _ _ rg' (m + 1) (mt_cut hn ci (by omega) ht er hr')
theorem x_cuts (h3 : 3 ≤ n) (hn : n ≤ 32) (hB : ∀ k, k < n → mt_B (mt_p xs ys k)) (hs : gm_simp (mt_p xs ys) 0 (n - 1)) (hA : mt_A xs ys n n = gm_cy gm_ar (mt_p xs ys) 0 (n - 1)) (hsm : mt_sm (mt_A xs ys n n)) (h : ∀ fc mc lc rg m, mt_T (mt_p xs ys) fc mc lc m = mt_ab (gm_cy gm_ar (mt_p xs ys) 0 (n - 1)) → m + 2 = n → mt_V n fc mc lc m → pst (cp, st, nI n, nI m, xs, ys, kd, fc, mc, lc, rg)) : wpX_cutIntoTriangles pst (cp, st, nI n, tr, xs, ys, kd, fc, mc, lc, rg) := by
  have fin : ∀ (R : Nat → Nat) fc mc lc rg m, mt_CI (mt_p xs ys) n (mt_ab (gm_cy gm_ar (mt_p xs ys) 0 (n - 1))) rg R 2 fc mc lc m → pst (cp, st, nI n, nI m, xs, ys, kd, fc, mc, lc, rg) := by
    intro R fc mc lc rg m ci
    obtain ⟨a, b, c⟩ := mt_end ci
    exact h fc mc lc rg m a b c
  have run := x_run (cp := cp) (st := st) (kd := kd) hn hB fin (n - 2)
  rw [show n - 2 + 2 = n by omega] at run
  unfold wpX_cutIntoTriangles
  dsimp only
  refine x_ring hn (fun a rg' hr => ⟨n - 2 + 1, ?_⟩) (fun a rg' hr => ⟨n - 2 + 1, ?_⟩)
  · have p : 0 < mt_A xs ys n n := Int.not_le.mp (fun z => a ((mt_le0 hsm).mpr z))
    exact run _ fc mc lc rg' 0 (mt_start1 h3 hs (by omega) hr)
  · have p := (mt_le0 hsm).mp a
    exact run _ fc mc lc rg' 0 (mt_start2 h3 hs (by omega) hr)
end
/-! the area fits -/
theorem mt_arb {p q : gm_P} (hp : mt_B p) (hq : mt_B q) : -2000000 ≤ gm_ar p q ∧ gm_ar p q ≤ 2000000 := by
  unfold mt_B at *
  have x := mt_bd (M := 1000) (N := 1000) (a := p.1) (b := q.2) (by omega) (by omega) (by omega) (by omega)
  have y := mt_bd (M := 1000) (N := 1000) (a := q.1) (b := p.2) (by omega) (by omega) (by omega) (by omega)
  unfold gm_ar
  generalize p.1 * q.2 = X at *
  generalize q.1 * p.2 = Y at *
  omega
theorem mt_Ab {xs ys : Nat → Int32} {n : Nat} (hB : ∀ k, k < n → mt_B (mt_p xs ys k)) : ∀ k, k ≤ n → -(2000000 * (k : Int)) ≤ mt_A xs ys n k ∧ mt_A xs ys n k ≤ 2000000 * (k : Int) := by
  intro k
  induction k with
  | zero => intro _; exact ⟨by show _ ≤ (0 : Int); omega, by show (0 : Int) ≤ _; omega⟩
  | succ k ih =>
    intro hk
    have a := ih (by omega)
    have b := mt_arb (hB k (by omega)) (hB _ (mt_nl (show k < n by omega)))
    have e : mt_A xs ys n (k + 1) = mt_A xs ys n k + gm_ar (mt_p xs ys k) (mt_p xs ys (gm_nx 0 (n - 1) k)) := by
      unfold mt_A
      simp only [gm_sum, Nat.zero_add]
    rw [e]
    omega
theorem mt_Asm {xs ys : Nat → Int32} {n : Nat} (hB : ∀ k, k < n → mt_B (mt_p xs ys k)) (hn : n ≤ 32) : mt_sm (mt_A xs ys n n) := by
  have := mt_Ab hB n (Nat.le_refl _)
  unfold mt_sm
  omega
theorem mt_Acy (xs ys : Nat → Int32) {n : Nat} (h : 1 ≤ n) : mt_A xs ys n n = gm_cy gm_ar (mt_p xs ys) 0 (n - 1) := by
  unfold mt_A gm_cy
  rw [show n - 1 + 1 - 0 = n by omega]
end
section
/-! the reference's judging and kinds -/
section
variable {cp st : Int32} {xs ys : Nat → Int32} {n : Nat} {post : Int32 → Prop} {psy : Int32 → SY → Prop}
theorem y_touch {a b : Nat} (ha : a < n) (hb : b < n) (hn : n ≤ 32) (hB : ∀ k, k < n → mt_B (mt_p xs ys k)) (h1 : gm_meet (mt_p xs ys a) (mt_p xs ys (gm_nx 0 (n - 1) a)) (mt_p xs ys b) (mt_p xs ys (gm_nx 0 (n - 1) b)) → post 1) (h0 : ¬ gm_meet (mt_p xs ys a) (mt_p xs ys (gm_nx 0 (n - 1) a)) (mt_p xs ys b) (mt_p xs ys (gm_nx 0 (n - 1) b)) → post 0) : wpY_edgesTouch post (cp, nI n, st, xs, ys) (nI a) (nI b) := by
  have ha' := mt_nl ha
  have hb' := mt_nl hb
  have va : vp_in (nI a) 32 := vp_in_nI (by omega) (by omega)
  have vb : vp_in (nI b) 32 := vp_in_nI (by omega) (by omega)
  have va' : vp_in (nI (gm_nx 0 (n - 1) a)) 32 := vp_in_nI (by omega) (by omega)
  have vb' : vp_in (nI (gm_nx 0 (n - 1) b)) 32 := vp_in_nI (by omega) (by omega)
  have ca := nI_clamp (show a < 2 ^ 31 by omega)
  have cb := nI_clamp (show b < 2 ^ 31 by omega)
  have ca' := nI_clamp (show gm_nx 0 (n - 1) a < 2 ^ 31 by omega)
  have cb' := nI_clamp (show gm_nx 0 (n - 1) b < 2 ^ 31 by omega)
  have n10 : ¬ (1 : Int32) = 0 := by decide
  have t : ¬ gm_px (mt_p xs ys a) (mt_p xs ys (gm_nx 0 (n - 1) a)) (mt_p xs ys b) (mt_p xs ys (gm_nx 0 (n - 1) b)) → wY_edgesTouch_174 post (xs a) (ys a) (xs (gm_nx 0 (n - 1) a)) (ys (gm_nx 0 (n - 1) a)) (xs b) (ys b) (xs (gm_nx 0 (n - 1) b)) (ys (gm_nx 0 (n - 1) b)) cp (nI n) st xs ys := by
    intro np
    unfold wY_edgesTouch_174
    refine y_on (hB a ha) (hB b hb) (hB _ hb') (fun m => br_f n10 (h1 (Or.inr (Or.inr (Or.inr (Or.inl m)))))) (fun m1 => br_t rfl ?_)
    refine y_on (hB _ ha') (hB b hb) (hB _ hb') (fun m => br_f n10 (h1 (Or.inr (Or.inr (Or.inr (Or.inr m)))))) (fun m2 => br_t rfl ?_)
    refine y_on (hB b hb) (hB a ha) (hB _ ha') (fun m => br_f n10 (h1 (Or.inr (Or.inl m)))) (fun m3 => br_t rfl ?_)
    refine y_on (hB _ hb') (hB a ha) (hB _ ha') (fun m => br_f n10 (h1 (Or.inr (Or.inr (Or.inl m))))) (fun m4 => br_t rfl (h0 (fun w => ?_)))
    rcases w with w | w | w | w | w
    · exact np w
    · exact m3 w
    · exact m4 w
    · exact m1 w
    · exact m2 w
  unfold wpY_edgesTouch
  dsimp only
  refine ⟨va, nm_r (congrArg xs ca) ⟨va, nm_r (congrArg ys ca) (y_nxt ha hn ⟨va', nm_r (congrArg xs ca') ⟨va', nm_r (congrArg ys ca') ⟨vb, nm_r (congrArg xs cb) ⟨vb, nm_r (congrArg ys cb) (y_nxt hb hn ⟨vb', nm_r (congrArg xs cb') ⟨vb', nm_r (congrArg ys cb') ?_⟩⟩)⟩⟩⟩⟩)⟩⟩
  refine y_cross (y_cross (y_cross (y_cross ?_)))
  refine y_opp (mt_Os (hB b hb) (hB _ hb') (hB a ha)) (mt_Os (hB b hb) (hB _ hb') (hB _ ha')) (fun o1 => br_f n10 ?_) (fun o1 => br_t rfl (t (fun z => o1 z.2)))
  exact y_opp (mt_Os (hB a ha) (hB _ ha') (hB b hb)) (mt_Os (hB a ha) (hB _ ha') (hB _ hb')) (fun o2 => br_f n10 (h1 (Or.inl ⟨o2, o1⟩))) (fun o2 => br_t rfl (t (fun z => o2 z.1)))
theorem y_rep_l {J : Int32 → Prop} {a : Nat} (hn : n ≤ 32) (ha : a < n) : ∀ d b, b + d = n → ((∃ b', b ≤ b' ∧ b' < n ∧ mt_rep xs ys a b') → psy 3 (cp, nI n, 2, xs, ys)) → ((¬ ∃ b', b ≤ b' ∧ b' < n ∧ mt_rep xs ys a b') → J (nI (a + 1))) → wY_triangulate_38 psy J (nI a) cp (nI n) st xs ys (d + 1) (nI b) := by
  intro d
  induction d with
  | zero =>
    intro b hb h1 h0
    have e : b = n := by omega
    subst e
    exact br_t (nI_le (Nat.le_refl _) (by omega)) (nm_r (nI_1 a) (h0 (fun ⟨b', p, q, _⟩ => by omega)))
  | succ d ih =>
    intro b hb h1 h0
    have va : vp_in (nI a) 32 := vp_in_nI (by omega) (by omega)
    have vb : vp_in (nI b) 32 := vp_in_nI (by omega) (by omega)
    have ca := nI_clamp (show a < 2 ^ 31 by omega)
    have cb := nI_clamp (show b < 2 ^ 31 by omega)
    have go : ¬ mt_rep xs ys a b → wY_triangulate_38 psy J (nI a) cp (nI n) st xs ys (d + 1) (nI (b + 1)) := by
      intro nr
      refine ih (b + 1) (by omega) (fun ⟨b', p, q, r⟩ => h1 ⟨b', by omega, q, r⟩) (fun z => h0 (fun ⟨b', p, q, r⟩ => ?_))
      by_cases e : b' = b
      · exact nr (e ▸ r)
      · exact z ⟨b', by omega, q, r⟩
    refine br_f (nI_ge (by omega) (by omega)) ⟨va, vb, br_c (fun e => ⟨va, vb, br_c (fun e2 => h1 ⟨b, Nat.le_refl _, by omega, ?_⟩) (fun e2 => nm_r (nI_1 b) (go (fun r => e2 ?_)))⟩) (fun e => nm_r (nI_1 b) (go (fun r => e ?_)))⟩
    · rw [ca, cb] at e e2; exact ⟨e, e2⟩
    · rw [ca, cb]; exact r.2
    · rw [ca, cb]; exact r.1
theorem y_rep_o (hn : n ≤ 32) : ∀ d a, a + d = n → ((∃ a' b', a ≤ a' ∧ a' < b' ∧ b' < n ∧ mt_rep xs ys a' b') → psy 3 (cp, nI n, 2, xs, ys)) → ((¬ ∃ a' b', a ≤ a' ∧ a' < b' ∧ b' < n ∧ mt_rep xs ys a' b') → ∃ n97 : Nat, wY_triangulate_97 psy cp (nI n) st xs ys n97 0) → wY_triangulate_26 psy cp (nI n) st xs ys (d + 1) (nI a) := by
  intro d
  induction d with
  | zero =>
    intro a ha h1 h0
    have e : a = n := by omega
    subst e
    exact br_t (nI_le (Nat.le_refl _) (by omega)) (h0 (fun ⟨a', b', p, q, r, _⟩ => by omega))
  | succ d ih =>
    intro a ha h1 h0
    refine br_f (nI_ge (by omega) (by omega)) (nm_r (nI_1 a) ⟨n - (a + 1) + 1, y_rep_l hn (by omega) _ (a + 1) (by omega) (fun ⟨b', p, q, r⟩ => h1 ⟨a, b', Nat.le_refl _, by omega, q, r⟩) (fun z => ?_)⟩)
    refine ih (a + 1) (by omega) (fun ⟨a', b', p, q, r, s⟩ => h1 ⟨a', b', by omega, q, r, s⟩) (fun y => h0 (fun ⟨a', b', p, q, r, s⟩ => ?_))
    by_cases e : a' = a
    · exact z ⟨b', by omega, r, e ▸ s⟩
    · exact y ⟨a', b', by omega, q, r, s⟩
theorem y_fo_l (hn : n ≤ 32) (hB : ∀ k, k < n → mt_B (mt_p xs ys k)) : ∀ d k, k + d = n → ((∃ k', k ≤ k' ∧ k' < n ∧ mt_fo xs ys n k') → psy 4 (cp, nI n, 2, xs, ys)) → ((¬ ∃ k', k ≤ k' ∧ k' < n ∧ mt_fo xs ys n k') → ∃ n226 : Nat, wY_triangulate_226 psy cp (nI n) st xs ys n226 0) → wY_triangulate_97 psy cp (nI n) st xs ys (d + 1) (nI k) := by
  intro d
  induction d with
  | zero =>
    intro k hk h1 h0
    have e : k = n := by omega
    subst e
    exact br_t (nI_le (Nat.le_refl _) (by omega)) (h0 (fun ⟨k', p, q, _⟩ => by omega))
  | succ d ih =>
    intro k hk h1 h0
    have hkn : k < n := by omega
    have hj := mt_nl hkn
    have hi := mt_pl hkn
    have vk : vp_in (nI k) 32 := vp_in_nI (by omega) (by omega)
    have vj : vp_in (nI (gm_nx 0 (n - 1) k)) 32 := vp_in_nI (by omega) (by omega)
    have vi : vp_in (nI (gm_pv 0 (n - 1) k)) 32 := vp_in_nI (by omega) (by omega)
    have go : ¬ mt_fo xs ys n k → wY_triangulate_97 psy cp (nI n) st xs ys (d + 1) (nI (k + 1)) := by
      intro nr
      refine ih (k + 1) (by omega) (fun ⟨b', p, q, r⟩ => h1 ⟨b', by omega, q, r⟩) (fun z => h0 (fun ⟨b', p, q, r⟩ => ?_))
      by_cases e : b' = k
      · exact nr (e ▸ r)
      · exact z ⟨b', by omega, q, r⟩
    refine br_f (nI_ge (by omega) (by omega)) (y_prv hkn hn (y_nxt hkn hn ⟨vk, vk, vi, vi, vj, vj, y_cross ⟨vk, vk, vi, vi, vj, vj, y_dot ?_⟩⟩))
    rw [nI_clamp (show gm_nx 0 (n - 1) k < 2 ^ 31 by omega), nI_clamp (show k < 2 ^ 31 by omega), nI_clamp (show gm_pv 0 (n - 1) k < 2 ^ 31 by omega)]
    have q1 := mt_eq0 (mt_Os (hB _ hkn) (hB _ hi) (hB _ hj))
    have q2 := mt_le0 (mt_Ds (hB _ hkn) (hB _ hi) (hB _ hj))
    refine br_c (fun e => br_c (fun g => nm_r (nI_1 k) (go (fun r => ?_))) (fun g => h1 ⟨k, Nat.le_refl _, hkn, q1.mp e, ?_⟩)) (fun e => nm_r (nI_1 k) (go (fun r => e (q1.mpr r.1))))
    · have := q2.mp g
      have := r.2
      omega
    · exact Int.not_le.mp (fun z => g (q2.mpr z))
theorem y_me_l {J : Int32 → Prop} {a : Nat} (hn : n ≤ 32) (hB : ∀ k, k < n → mt_B (mt_p xs ys k)) (ha : a < n) : ∀ d b, b + d = n → ((∃ b', b ≤ b' ∧ b' < n ∧ mt_me xs ys n a b') → psy 4 (cp, nI n, 2, xs, ys)) → ((¬ ∃ b', b ≤ b' ∧ b' < n ∧ mt_me xs ys n a b') → J (nI (a + 1))) → wY_triangulate_238 psy J (nI a) cp (nI n) st xs ys (d + 1) (nI b) := by
  intro d
  induction d with
  | zero =>
    intro b hb h1 h0
    have e : b = n := by omega
    subst e
    exact br_t (nI_le (Nat.le_refl _) (by omega)) (nm_r (nI_1 a) (h0 (fun ⟨b', p, q, _⟩ => by omega)))
  | succ d ih =>
    intro b hb h1 h0
    have hbn : b < n := by omega
    have hj := mt_nl hbn
    have hi := mt_nl ha
    have n10 : ¬ (1 : Int32) = 0 := by decide
    have go : ¬ mt_me xs ys n a b → wY_triangulate_238 psy J (nI a) cp (nI n) st xs ys (d + 1) (nI (b + 1)) := by
      intro nr
      refine ih (b + 1) (by omega) (fun ⟨b', p, q, r⟩ => h1 ⟨b', by omega, q, r⟩) (fun z => h0 (fun ⟨b', p, q, r⟩ => ?_))
      by_cases e : b' = b
      · exact nr (e ▸ r)
      · exact z ⟨b', by omega, q, r⟩
    have c1 := nI_eq (a := b) (b := gm_nx 0 (n - 1) a) (by omega) (by omega)
    have c2 := nI_eq (a := a) (b := gm_nx 0 (n - 1) b) (by omega) (by omega)
    have skip : ¬ mt_me xs ys n a b → wY_triangulate_264 psy J (wY_triangulate_238 psy J (nI a) cp (nI n) st xs ys (d + 1)) (nI a) (nI b) cp (nI n) st xs ys := by
      intro nr
      unfold wY_triangulate_264 wY_triangulate_269
      exact br_f n10 (nm_r (nI_1 b) (go nr))
    refine br_f (nI_ge (by omega) (by omega)) (y_nxt ha hn (br_c (fun e => skip (fun r => r.1.1 (c1.mp e))) (fun e => y_nxt hbn hn (br_c (fun e2 => skip (fun r => r.1.2 (c2.mp e2))) (fun e2 => ?_)))))
    unfold wY_triangulate_269
    exact br_t rfl (y_touch ha hbn hn hB (fun m => br_f n10 (h1 ⟨b, Nat.le_refl _, hbn, ⟨fun z => e (c1.mpr z), fun z => e2 (c2.mpr z)⟩, m⟩)) (fun m => br_t rfl (nm_r (nI_1 b) (go (fun r => m r.2)))))
theorem y_me_o (hn : n ≤ 32) (hB : ∀ k, k < n → mt_B (mt_p xs ys k)) : ∀ d a, a + d = n → ((∃ a' b', a ≤ a' ∧ a' < b' ∧ b' < n ∧ mt_me xs ys n a' b') → psy 4 (cp, nI n, 2, xs, ys)) → ((¬ ∃ a' b', a ≤ a' ∧ a' < b' ∧ b' < n ∧ mt_me xs ys n a' b') → psy 0 (cp, nI n, 1, xs, ys)) → wY_triangulate_226 psy cp (nI n) st xs ys (d + 1) (nI a) := by
  intro d
  induction d with
  | zero =>
    intro a ha h1 h0
    have e : a = n := by omega
    subst e
    exact br_t (nI_le (Nat.le_refl _) (by omega)) (h0 (fun ⟨a', b', p, q, r, _⟩ => by omega))
  | succ d ih =>
    intro a ha h1 h0
    refine br_f (nI_ge (by omega) (by omega)) (nm_r (nI_1 a) ⟨n - (a + 1) + 1, y_me_l hn hB (by omega) _ (a + 1) (by omega) (fun ⟨b', p, q, r⟩ => h1 ⟨a, b', Nat.le_refl _, by omega, q, r⟩) (fun z => ?_)⟩)
    refine ih (a + 1) (by omega) (fun ⟨a', b', p, q, r, s⟩ => h1 ⟨a', b', by omega, q, r, s⟩) (fun y => h0 (fun ⟨a', b', p, q, r, s⟩ => ?_))
    by_cases e : a' = a
    · exact z ⟨b', by omega, r, e ▸ s⟩
    · exact y ⟨a', b', by omega, q, r, s⟩
/-- the reference's triangulate, from three corners on -/
theorem y_judge (hn : n ≤ 32) (hB : ∀ k, k < n → mt_B (mt_p xs ys k)) (h3 : (∃ a b, a < b ∧ b < n ∧ mt_rep xs ys a b) → psy 3 (cp, nI n, 2, xs, ys)) (h4 : (¬ ∃ a b, a < b ∧ b < n ∧ mt_rep xs ys a b) → ((∃ k, k < n ∧ mt_fo xs ys n k) ∨ (∃ a b, a < b ∧ b < n ∧ mt_me xs ys n a b)) → psy 4 (cp, nI n, 2, xs, ys)) (h0 : (¬ ∃ a b, a < b ∧ b < n ∧ mt_rep xs ys a b) → (¬ ∃ k, k < n ∧ mt_fo xs ys n k) → (¬ ∃ a b, a < b ∧ b < n ∧ mt_me xs ys n a b) → psy 0 (cp, nI n, 1, xs, ys)) : ∃ n26 : Nat, wY_triangulate_26 psy cp (nI n) st xs ys n26 0 := by
  refine ⟨n + 1, y_rep_o hn n 0 (by omega) (fun ⟨a, b, _, q, r, s⟩ => h3 ⟨a, b, q, r, s⟩) (fun z1 => ?_)⟩
  have nr : ¬ ∃ a b, a < b ∧ b < n ∧ mt_rep xs ys a b := fun ⟨a, b, q, r, s⟩ => z1 ⟨a, b, Nat.zero_le _, q, r, s⟩
  refine ⟨n + 1, y_fo_l hn hB n 0 (by omega) (fun ⟨k, _, q, r⟩ => h4 nr (Or.inl ⟨k, q, r⟩)) (fun z2 => ?_)⟩
  have nf : ¬ ∃ k, k < n ∧ mt_fo xs ys n k := fun ⟨k, q, r⟩ => z2 ⟨k, Nat.zero_le _, q, r⟩
  exact ⟨n + 1, y_me_o hn hB n 0 (by omega) (fun ⟨a, b, _, q, r, s⟩ => h4 nr (Or.inr ⟨a, b, q, r, s⟩)) (fun z3 => h0 nr nf (fun ⟨a, b, q, r, s⟩ => z3 ⟨a, b, Nat.zero_le _, q, r, s⟩))⟩
/-! kinds -/
theorem y_kind {k : Nat} (hk : k < n) (hn : n ≤ 32) (h : post (mt_kind xs ys n k)) : wpY_kindOf post (cp, nI n, st, xs, ys) (nI k) := by
  have hp := mt_pl hk
  have hq := mt_nl hk
  have vk : vp_in (nI k) 32 := vp_in_nI (by omega) (by omega)
  have vp : vp_in (nI (gm_pv 0 (n - 1) k)) 32 := vp_in_nI (by omega) (by omega)
  have vq : vp_in (nI (gm_nx 0 (n - 1) k)) 32 := vp_in_nI (by omega) (by omega)
  have ck := nI_clamp (show k < 2 ^ 31 by omega)
  have c1 := nI_clamp (show gm_pv 0 (n - 1) k < 2 ^ 31 by omega)
  have c2 := nI_clamp (show gm_nx 0 (n - 1) k < 2 ^ 31 by omega)
  have n10 : ¬ (1 : Int32) = 0 := by decide
  have t104 : ¬ ((ys (gm_pv 0 (n - 1) k) < ys k ∨ (ys (gm_pv 0 (n - 1) k) = ys k ∧ ¬ xs (gm_pv 0 (n - 1) k) ≤ xs k)) ∧ (ys (gm_nx 0 (n - 1) k) < ys k ∨ (ys (gm_nx 0 (n - 1) k) = ys k ∧ ¬ xs (gm_nx 0 (n - 1) k) ≤ xs k))) → wY_kindOf_104 post (nI k) (nI (gm_pv 0 (n - 1) k)) (nI (gm_nx 0 (n - 1) k)) (mt_cv xs ys n k) cp (nI n) st xs ys := by
    intro hb
    unfold wY_kindOf_104
    unfold mt_kind at h
    rw [if_neg hb] at h
    refine y_below hk hp hn (fun b1 => br_f n10 (y_below hk hq hn (fun b2 => br_f n10 ?_) (fun b2 => br_t rfl ?_))) (fun b1 => br_t rfl ?_)
    · rw [if_pos ⟨b1, b2⟩] at h
      refine br_c (fun z => ?_) (fun z => ?_)
      · rw [if_pos z] at h; exact h
      · rw [if_neg z] at h; exact h
    · rw [if_neg (fun z => b2 z.2)] at h; exact h
    · rw [if_neg (fun z => b1 z.1)] at h; exact h
  have t28 : wY_kindOf_28 post (nI k) (nI (gm_pv 0 (n - 1) k)) (nI (gm_nx 0 (n - 1) k)) (mt_sgn xs ys n) cp (nI n) st xs ys := by
    unfold wY_kindOf_28
    rw [ck, c1, c2]
    refine ⟨vp, vp, vk, vk, vq, vq, y_cross (nm_r (show _ = mt_cv xs ys n k from rfl) ?_)⟩
    refine y_below hp hk hn (fun b1 => br_f n10 (y_below hq hk hn (fun b2 => br_f n10 ?_) (fun b2 => br_t rfl (t104 (fun z => b2 z.2))))) (fun b1 => br_t rfl (t104 (fun z => b1 z.1)))
    unfold mt_kind at h
    rw [if_pos ⟨b1, b2⟩] at h
    refine br_c (fun z => ?_) (fun z => ?_)
    · rw [if_pos z] at h; exact h
    · rw [if_neg z] at h; exact h
  unfold wpY_kindOf
  dsimp only
  refine y_prv hk hn (y_nxt hk hn (y_area hn (br_c (fun a => ?_) (fun a => ?_))))
  · unfold mt_sgn at t28
    rw [if_pos a] at t28
    exact t28
  · unfold mt_sgn at t28
    rw [if_neg a] at t28
    exact t28
end
end
section
/-! winding numbers, the boundary, diagonals, sums -/
def mt_side (P : Nat → gm_P) (dX dY : Int) (k j : Nat) : Int := ((P j).1 - (P k).1) * (dY - 2 * (P k).2) - ((P j).2 - (P k).2) * (dX - 2 * (P k).1)
def mt_wt (P : Nat → gm_P) (n : Nat) (dX dY : Int) (k : Nat) : Int :=
  if dY < 2 * (P k).2 then (if dY < 2 * (P (gm_nx 0 (n - 1) k)).2 then 0 else if mt_side P dX dY k (gm_nx 0 (n - 1) k) < 0 then -1 else 0)
  else (if dY < 2 * (P (gm_nx 0 (n - 1) k)).2 then (if 0 < mt_side P dX dY k (gm_nx 0 (n - 1) k) then 1 else 0) else 0)
def mt_wn (P : Nat → gm_P) (n : Nat) (dX dY : Int) (k : Nat) : Int := gm_sum (mt_wt P n dX dY) 0 k
theorem mt_wns (P : Nat → gm_P) (n : Nat) (dX dY : Int) (k : Nat) : mt_wn P n dX dY (k + 1) = mt_wn P n dX dY k + mt_wt P n dX dY k := by
  unfold mt_wn
  simp only [gm_sum, Nat.zero_add]
theorem mt_w0 {P : Nat → gm_P} {n : Nat} {dX dY : Int} {k : Nat} (h : mt_wt P n dX dY k = 0) : mt_c (mt_wn P n dX dY k) = mt_c (mt_wn P n dX dY (k + 1)) := by
  rw [mt_wns, h, Int.add_zero]
theorem mt_wp {P : Nat → gm_P} {n : Nat} {dX dY : Int} {k : Nat} (h : mt_wt P n dX dY k = 1) : mt_c (mt_wn P n dX dY k) + 1 = mt_c (mt_wn P n dX dY (k + 1)) := by
  rw [mt_wns, h, mt_1, mt_add]
theorem mt_wm {P : Nat → gm_P} {n : Nat} {dX dY : Int} {k : Nat} (h : mt_wt P n dX dY k = -1) : mt_c (mt_wn P n dX dY k) + (-1) = mt_c (mt_wn P n dX dY (k + 1)) := by
  rw [mt_wns, h, mt_m1, mt_add]
theorem mt_sideb {P : Nat → gm_P} {dX dY : Int} {k j : Nat} (hk : mt_B (P k)) (hj : mt_B (P j)) (h1 : -2000 ≤ dX) (h2 : dX ≤ 2000) (h3 : -2000 ≤ dY) (h4 : dY ≤ 2000) : mt_sm (mt_side P dX dY k j) := by
  unfold mt_B at *
  have x := mt_bd (M := 2000) (N := 4000) (a := (P j).1 - (P k).1) (b := dY - 2 * (P k).2) (by omega) (by omega) (by omega) (by omega)
  have y := mt_bd (M := 2000) (N := 4000) (a := (P j).2 - (P k).2) (b := dX - 2 * (P k).1) (by omega) (by omega) (by omega) (by omega)
  unfold mt_side mt_sm
  generalize ((P j).1 - (P k).1) * (dY - 2 * (P k).2) = X at *
  generalize ((P j).2 - (P k).2) * (dX - 2 * (P k).1) = Y at *
  omega
section
variable {cp st tr : Int32} {xs ys kd fc mc lc rg : Nat → Int32} {n : Nat} {post : Int32 → Prop}
theorem x_wind_l {dX dY : Int} (hn : n ≤ 32) (hB : ∀ k, k < n → mt_B (mt_p xs ys k)) (b1 : -2000 ≤ dX) (b2 : dX ≤ 2000) (b3 : -2000 ≤ dY) (b4 : dY ≤ 2000) (h1 : ¬ mt_c (mt_wn (mt_p xs ys) n dX dY n) = 0 → post 1) (h0 : mt_c (mt_wn (mt_p xs ys) n dX dY n) = 0 → post 0) : ∀ d k, k + d = n → wX_windsAround_5 post (mt_c dX) (mt_c dY) cp st (nI n) tr xs ys kd fc mc lc rg (d + 1) (mt_c (mt_wn (mt_p xs ys) n dX dY k)) (nI k) := by
  intro d
  induction d with
  | zero =>
    intro k hk
    have e : k = n := by omega
    rw [e]
    exact br_t (nI_le (Nat.le_refl _) (by omega)) (br_c h0 h1)
  | succ d ih =>
    intro k hk
    have hkn : k < n := by omega
    have hj := mt_nl hkn
    have vk : vp_in (nI k) 32 := vp_in_nI (by omega) (by omega)
    have vj : vp_in (nI (gm_nx 0 (n - 1) k)) 32 := vp_in_nI (by omega) (by omega)
    have ck := nI_clamp (show k < 2 ^ 31 by omega)
    have cj := nI_clamp (show gm_nx 0 (n - 1) k < 2 ^ 31 by omega)
    have n01 : ¬ (0 : Int32) = 1 := by decide
    have n10 : ¬ (1 : Int32) = 0 := by decide
    have nxt := ih (k + 1) (by omega)
    have Bk := hB k hkn
    have Bj := hB _ hj
    have sY : mt_sm dY := by unfold mt_sm; omega
    have dbl : ∀ x : Int32, 2 * x = mt_c (2 * x.toInt) := by
      intro x
      rw [mt_2, ← mt_mul, mt_cT]
    have sk : mt_sm (2 * (mt_p xs ys k).2) := by unfold mt_sm; unfold mt_B at Bk; omega
    have sj : mt_sm (2 * (mt_p xs ys (gm_nx 0 (n - 1) k)).2) := by unfold mt_sm; unfold mt_B at Bj; omega
    have qk : (2 * ys k ≤ mt_c dY) ↔ 2 * (mt_p xs ys k).2 ≤ dY := by
      rw [dbl]; exact mt_le sk sY
    have qj : (2 * ys (gm_nx 0 (n - 1) k) ≤ mt_c dY) ↔ 2 * (mt_p xs ys (gm_nx 0 (n - 1) k)).2 ≤ dY := by
      rw [dbl]; exact mt_le sj sY
    have ss := mt_sideb Bk Bj b1 b2 b3 b4
    have side : (xs (gm_nx 0 (n - 1) k) - xs k) * (mt_c dY - 2 * ys k) - (ys (gm_nx 0 (n - 1) k) - ys k) * (mt_c dX - 2 * xs k) = mt_c (mt_side (mt_p xs ys) dX dY k (gm_nx 0 (n - 1) k)) := by
      simp only [mt_side, mt_p, mt_2, ← mt_sub, ← mt_mul, mt_cT]
    -- the row behind the side, for an edge that doesn't lead up with its point on the left
    have t142 : ∀ f : Int32, ((f = 0 ∧ mt_wt (mt_p xs ys) n dX dY k = 0) ∨ (f = 1 ∧ mt_wt (mt_p xs ys) n dX dY k = if mt_side (mt_p xs ys) dX dY k (gm_nx 0 (n - 1) k) < 0 then -1 else 0)) → wX_windsAround_142 post (wX_windsAround_5 post (mt_c dX) (mt_c dY) cp st (nI n) tr xs ys kd fc mc lc rg (d + 1)) (mt_c dX) (mt_c dY) (mt_c (mt_wn (mt_p xs ys) n dX dY k)) (nI k) f (mt_c (mt_side (mt_p xs ys) dX dY k (gm_nx 0 (n - 1) k))) cp st (nI n) tr xs ys kd fc mc lc rg := by
      intro f hf
      unfold wX_windsAround_142
      rcases hf with ⟨rfl, hf⟩ | ⟨rfl, hf⟩
      · refine br_t rfl (nm_r (nI_1 k) ?_)
        rw [mt_w0 hf]; exact nxt
      · refine br_f n10 (br_c (fun g => nm_r (nI_1 k) ?_) (fun g => nm_r (mt_wm ?_) (nm_r (nI_1 k) nxt)))
        · rw [mt_0le ss] at g
          rw [if_neg (by omega)] at hf
          rw [mt_w0 hf]; exact nxt
        · rw [mt_0le ss] at g
          rw [if_pos (by omega)] at hf
          exact hf
    have t60 : ∀ f z : Int32, ((f = 0 ∧ 2 * (mt_p xs ys k).2 ≤ dY) ∨ (f = 1 ∧ ¬ 2 * (mt_p xs ys k).2 ≤ dY)) → ((z = 0 ∧ 2 * (mt_p xs ys (gm_nx 0 (n - 1) k)).2 ≤ dY) ∨ (z = 1 ∧ ¬ 2 * (mt_p xs ys (gm_nx 0 (n - 1) k)).2 ≤ dY)) → wX_windsAround_60 post (wX_windsAround_5 post (mt_c dX) (mt_c dY) cp st (nI n) tr xs ys kd fc mc lc rg (d + 1)) (mt_c dX) (mt_c dY) (mt_c (mt_wn (mt_p xs ys) n dX dY k)) (nI k) (nI (gm_nx 0 (n - 1) k)) f z cp st (nI n) tr xs ys kd fc mc lc rg := by
      intro f z hf hz
      unfold wX_windsAround_60
      rw [ck, cj]
      rcases hf with ⟨rfl, hf⟩ | ⟨rfl, hf⟩ <;> rcases hz with ⟨rfl, hz⟩ | ⟨rfl, hz⟩
      · refine br_t rfl (nm_r (nI_1 k) ?_)
        rw [mt_w0 (by unfold mt_wt; rw [if_neg (by omega), if_neg (by omega)])]; exact nxt
      · refine br_f n01 ⟨vj, vk, vk, vj, vk, vk, nm_r side (br_f n10 (br_c (fun g => t142 0 (Or.inl ⟨rfl, ?_⟩)) (fun g => nm_r (mt_wp ?_) (nm_r (nI_1 k) nxt))))⟩
        · rw [mt_le0 ss] at g
          unfold mt_wt
          rw [if_neg (by omega), if_pos (by omega), if_neg (by omega)]
        · rw [mt_le0 ss] at g
          unfold mt_wt
          rw [if_neg (by omega), if_pos (by omega), if_pos (by omega)]
      · refine br_f n10 ⟨vj, vk, vk, vj, vk, vk, nm_r side (br_t rfl (t142 1 (Or.inr ⟨rfl, ?_⟩)))⟩
        unfold mt_wt
        rw [if_pos (by omega), if_neg (by omega)]
      · refine br_t rfl (nm_r (nI_1 k) ?_)
        rw [mt_w0 (by unfold mt_wt; rw [if_pos (by omega), if_pos (by omega)])]; exact nxt
    have t40 : ∀ f : Int32, ((f = 0 ∧ 2 * (mt_p xs ys k).2 ≤ dY) ∨ (f = 1 ∧ ¬ 2 * (mt_p xs ys k).2 ≤ dY)) → wX_windsAround_40 post (wX_windsAround_5 post (mt_c dX) (mt_c dY) cp st (nI n) tr xs ys kd fc mc lc rg (d + 1)) (mt_c dX) (mt_c dY) (mt_c (mt_wn (mt_p xs ys) n dX dY k)) (nI k) (nI (gm_nx 0 (n - 1) k)) f cp st (nI n) tr xs ys kd fc mc lc rg := by
      intro f hf
      unfold wX_windsAround_40
      rw [cj]
      exact ⟨vj, br_c (fun g => t60 f 0 hf (Or.inl ⟨rfl, qj.mp g⟩)) (fun g => t60 f 1 hf (Or.inr ⟨rfl, fun z => g (qj.mpr z)⟩))⟩
    refine br_f (nI_ge (by omega) (by omega)) (x_next hkn hn ⟨vk, ?_⟩)
    rw [ck]
    exact br_c (fun g => t40 0 (Or.inl ⟨rfl, qk.mp g⟩)) (fun g => t40 1 (Or.inr ⟨rfl, fun z => g (qk.mpr z)⟩))
theorem x_wind {dX dY : Int} (hn : n ≤ 32) (hB : ∀ k, k < n → mt_B (mt_p xs ys k)) (b1 : -2000 ≤ dX) (b2 : dX ≤ 2000) (b3 : -2000 ≤ dY) (b4 : dY ≤ 2000) (h1 : ¬ mt_c (mt_wn (mt_p xs ys) n dX dY n) = 0 → post 1) (h0 : mt_c (mt_wn (mt_p xs ys) n dX dY n) = 0 → post 0) : wpX_windsAround post (cp, st, nI n, tr, xs, ys, kd, fc, mc, lc, rg) (mt_c dX) (mt_c dY) := by
  have k := x_wind_l (cp := cp) (st := st) (tr := tr) (kd := kd) (fc := fc) (mc := mc) (lc := lc) (rg := rg) hn hB b1 b2 b3 b4 h1 h0 n 0 (by omega)
  have e : mt_c (mt_wn (mt_p xs ys) n dX dY 0) = 0 := mt_0.symm
  rw [e, nI_0] at k
  exact ⟨n + 1, k⟩
theorem y_wind_l {PX PY sc dX dY : Int} (hn : n ≤ 32) (hB : ∀ k, k < n → mt_B (mt_p xs ys k)) (hs : (sc = 1 ∧ dX = 2 * PX ∧ dY = 2 * PY) ∨ (sc = 2 ∧ dX = PX ∧ dY = PY)) (b1 : -2000 ≤ dX) (b2 : dX ≤ 2000) (b3 : -2000 ≤ dY) (b4 : dY ≤ 2000) (h1 : ¬ mt_c (mt_wn (mt_p xs ys) n dX dY n) = 0 → post 1) (h0 : mt_c (mt_wn (mt_p xs ys) n dX dY n) = 0 → post 0) : ∀ d k, k + d = n → wY_winding_6 post (mt_c PX) (mt_c PY) (mt_c sc) cp (nI n) st xs ys (d + 1) (mt_c (mt_wn (mt_p xs ys) n dX dY k)) (nI k) := by
  intro d
  induction d with
  | zero =>
    intro k hk
    have e : k = n := by omega
    rw [e]
    exact br_t (nI_le (Nat.le_refl _) (by omega)) (br_c h0 h1)
  | succ d ih =>
    intro k hk
    have hkn : k < n := by omega
    have hj := mt_nl hkn
    have vk : vp_in (nI k) 32 := vp_in_nI (by omega) (by omega)
    have vj : vp_in (nI (gm_nx 0 (n - 1) k)) 32 := vp_in_nI (by omega) (by omega)
    have ck := nI_clamp (show k < 2 ^ 31 by omega)
    have cj := nI_clamp (show gm_nx 0 (n - 1) k < 2 ^ 31 by omega)
    have nxt := ih (k + 1) (by omega)
    have Bk := hB k hkn
    have Bj := hB _ hj
    have ss := mt_sideb Bk Bj b1 b2 b3 b4
    have sPX : mt_sm PX := by unfold mt_sm; omega
    have sPY : mt_sm PY := by unfold mt_sm; omega
    unfold mt_B at Bk Bj
    have m1 : mt_sm ((mt_p xs ys k).1 * sc) := by unfold mt_sm; rcases hs with ⟨e, _⟩ | ⟨e, _⟩ <;> rw [e] <;> omega
    have m2 : mt_sm ((mt_p xs ys k).2 * sc) := by unfold mt_sm; rcases hs with ⟨e, _⟩ | ⟨e, _⟩ <;> rw [e] <;> omega
    have m3 : mt_sm ((mt_p xs ys (gm_nx 0 (n - 1) k)).1 * sc) := by unfold mt_sm; rcases hs with ⟨e, _⟩ | ⟨e, _⟩ <;> rw [e] <;> omega
    have m4 : mt_sm ((mt_p xs ys (gm_nx 0 (n - 1) k)).2 * sc) := by unfold mt_sm; rcases hs with ⟨e, _⟩ | ⟨e, _⟩ <;> rw [e] <;> omega
    have q1 : (mt_c PY < mt_c ((mt_p xs ys k).2 * sc)) ↔ dY < 2 * (mt_p xs ys k).2 := by
      rw [mt_lt sPY m2]
      rcases hs with ⟨e, e1, e2⟩ | ⟨e, e1, e2⟩ <;> rw [e, e2] <;> omega
    have q2 : (mt_c PY < mt_c ((mt_p xs ys (gm_nx 0 (n - 1) k)).2 * sc)) ↔ dY < 2 * (mt_p xs ys (gm_nx 0 (n - 1) k)).2 := by
      rw [mt_lt sPY m4]
      rcases hs with ⟨e, e1, e2⟩ | ⟨e, e1, e2⟩ <;> rw [e, e2] <;> omega
    have q3 : (mt_c ((mt_p xs ys (gm_nx 0 (n - 1) k)).2 * sc) ≤ mt_c PY) ↔ 2 * (mt_p xs ys (gm_nx 0 (n - 1) k)).2 ≤ dY := by
      rw [mt_le m4 sPY]
      rcases hs with ⟨e, e1, e2⟩ | ⟨e, e1, e2⟩ <;> rw [e, e2] <;> omega
    have cr : 2 * gm_O ((mt_p xs ys k).1 * sc, (mt_p xs ys k).2 * sc) ((mt_p xs ys (gm_nx 0 (n - 1) k)).1 * sc, (mt_p xs ys (gm_nx 0 (n - 1) k)).2 * sc) (PX, PY) = mt_side (mt_p xs ys) dX dY k (gm_nx 0 (n - 1) k) ∨ gm_O ((mt_p xs ys k).1 * sc, (mt_p xs ys k).2 * sc) ((mt_p xs ys (gm_nx 0 (n - 1) k)).1 * sc, (mt_p xs ys (gm_nx 0 (n - 1) k)).2 * sc) (PX, PY) = 2 * mt_side (mt_p xs ys) dX dY k (gm_nx 0 (n - 1) k) := by
      unfold gm_O mt_side
      dsimp only
      generalize (mt_p xs ys k).1 = x1
      generalize (mt_p xs ys k).2 = y1
      generalize (mt_p xs ys (gm_nx 0 (n - 1) k)).1 = x2
      generalize (mt_p xs ys (gm_nx 0 (n - 1) k)).2 = y2
      rcases hs with ⟨e, e1, e2⟩ | ⟨e, e1, e2⟩
      · left; rw [e, e1, e2]; clear ss; grind
      · right; rw [e, e1, e2]; clear ss; grind
    have sO : mt_sm (gm_O ((mt_p xs ys k).1 * sc, (mt_p xs ys k).2 * sc) ((mt_p xs ys (gm_nx 0 (n - 1) k)).1 * sc, (mt_p xs ys (gm_nx 0 (n - 1) k)).2 * sc) (PX, PY)) := by
      have x := mt_bd (M := 2000) (N := 4000) (a := (mt_p xs ys (gm_nx 0 (n - 1) k)).1 - (mt_p xs ys k).1) (b := dY - 2 * (mt_p xs ys k).2) (by omega) (by omega) (by omega) (by omega)
      have y := mt_bd (M := 2000) (N := 4000) (a := (mt_p xs ys (gm_nx 0 (n - 1) k)).2 - (mt_p xs ys k).2) (b := dX - 2 * (mt_p xs ys k).1) (by omega) (by omega) (by omega) (by omega)
      have ds : mt_side (mt_p xs ys) dX dY k (gm_nx 0 (n - 1) k) = ((mt_p xs ys (gm_nx 0 (n - 1) k)).1 - (mt_p xs ys k).1) * (dY - 2 * (mt_p xs ys k).2) - ((mt_p xs ys (gm_nx 0 (n - 1) k)).2 - (mt_p xs ys k).2) * (dX - 2 * (mt_p xs ys k).1) := rfl
      unfold mt_sm
      omega
    have w1 := mt_0le sO
    have w2 := mt_le0 sO
    refine br_f (nI_ge (by omega) (by omega)) (y_nxt hkn hn ⟨vk, nm_r (show xs (nI k).toNatClampNeg * mt_c sc = mt_c ((mt_p xs ys k).1 * sc) by rw [ck, ← mt_mul]; exact congrArg (· * mt_c sc) (mt_cT _).symm) ⟨vk, nm_r (show ys (nI k).toNatClampNeg * mt_c sc = mt_c ((mt_p xs ys k).2 * sc) by rw [ck, ← mt_mul]; exact congrArg (· * mt_c sc) (mt_cT _).symm) ⟨vj, nm_r (show xs (nI (gm_nx 0 (n - 1) k)).toNatClampNeg * mt_c sc = mt_c ((mt_p xs ys (gm_nx 0 (n - 1) k)).1 * sc) by rw [cj, ← mt_mul]; exact congrArg (· * mt_c sc) (mt_cT _).symm) ⟨vj, nm_r (show ys (nI (gm_nx 0 (n - 1) k)).toNatClampNeg * mt_c sc = mt_c ((mt_p xs ys (gm_nx 0 (n - 1) k)).2 * sc) by rw [cj, ← mt_mul]; exact congrArg (· * mt_c sc) (mt_cT _).symm) (y_cross ?_)⟩⟩⟩⟩)
    rw [mt_tc m1.1 m1.2, mt_tc m2.1 m2.2, mt_tc m3.1 m3.2, mt_tc m4.1 m4.2, mt_tc sPX.1 sPX.2, mt_tc sPY.1 sPY.2]
    refine br_c (fun g => br_c (fun g2 => nm_r (nI_1 k) ?_) (fun g2 => br_c (fun g3 => nm_r (nI_1 k) ?_) (fun g3 => nm_r (mt_wm ?_) (nm_r (nI_1 k) nxt)))) (fun g => br_c (fun g2 => nm_r (nI_1 k) ?_) (fun g2 => br_c (fun g3 => nm_r (nI_1 k) ?_) (fun g3 => nm_r (mt_wp ?_) (nm_r (nI_1 k) nxt))))
    · rw [q1] at g; rw [q2] at g2
      rw [mt_w0 (by unfold mt_wt; rw [if_pos g, if_pos g2])]; exact nxt
    · rw [q1] at g; rw [q2] at g2; rw [w1] at g3
      rw [mt_w0 (by unfold mt_wt; rw [if_pos g, if_neg g2, if_neg (by omega)])]; exact nxt
    · rw [q1] at g; rw [q2] at g2; rw [w1] at g3
      unfold mt_wt; rw [if_pos g, if_neg g2, if_pos (by omega)]
    · rw [q1] at g; rw [q3] at g2
      rw [mt_w0 (by unfold mt_wt; rw [if_neg g, if_neg (by omega)])]; exact nxt
    · rw [q1] at g; rw [q3] at g2; rw [w2] at g3
      rw [mt_w0 (by unfold mt_wt; rw [if_neg g, if_pos (by omega), if_neg (by omega)])]; exact nxt
    · rw [q1] at g; rw [q3] at g2; rw [w2] at g3
      unfold mt_wt; rw [if_neg g, if_pos (by omega), if_pos (by omega)]
theorem y_wind {PX PY sc dX dY : Int} (hn : n ≤ 32) (hB : ∀ k, k < n → mt_B (mt_p xs ys k)) (hs : (sc = 1 ∧ dX = 2 * PX ∧ dY = 2 * PY) ∨ (sc = 2 ∧ dX = PX ∧ dY = PY)) (b1 : -2000 ≤ dX) (b2 : dX ≤ 2000) (b3 : -2000 ≤ dY) (b4 : dY ≤ 2000) (h1 : ¬ mt_c (mt_wn (mt_p xs ys) n dX dY n) = 0 → post 1) (h0 : mt_c (mt_wn (mt_p xs ys) n dX dY n) = 0 → post 0) : wpY_winding post (cp, nI n, st, xs, ys) (mt_c PX) (mt_c PY) (mt_c sc) := by
  have k := y_wind_l (cp := cp) (st := st) hn hB hs b1 b2 b3 b4 h1 h0 n 0 (by omega)
  have e : mt_c (mt_wn (mt_p xs ys) n dX dY 0) = 0 := mt_0.symm
  rw [e, nI_0] at k
  exact ⟨n + 1, k⟩
/-! the boundary -/
theorem x_bd_l {px py : Int32} (hn : n ≤ 32) (hB : ∀ k, k < n → mt_B (mt_p xs ys k)) (hq : mt_B (px.toInt, py.toInt)) : ∀ d k, k + d = n → ((∃ k', k ≤ k' ∧ k' < n ∧ gm_on (mt_p xs ys k') (mt_p xs ys (gm_nx 0 (n - 1) k')) (px.toInt, py.toInt)) → post 1) → ((¬ ∃ k', k ≤ k' ∧ k' < n ∧ gm_on (mt_p xs ys k') (mt_p xs ys (gm_nx 0 (n - 1) k')) (px.toInt, py.toInt)) → post 0) → wX_onBoundary_2 post px py cp st (nI n) tr xs ys kd fc mc lc rg (d + 1) (nI k) := by
  intro d
  induction d with
  | zero =>
    intro k hk h1 h0
    have e : k = n := by omega
    subst e
    exact br_t (nI_le (Nat.le_refl _) (by omega)) (h0 (fun ⟨k', p, q, _⟩ => by omega))
  | succ d ih =>
    intro k hk h1 h0
    have hkn : k < n := by omega
    have n10 : ¬ (1 : Int32) = 0 := by decide
    refine br_f (nI_ge (by omega) (by omega)) (x_next hkn hn (x_on hkn (mt_nl hkn) hn hB hq (fun m => br_f n10 (h1 ⟨k, Nat.le_refl _, hkn, m⟩)) (fun m => br_t rfl (nm_r (nI_1 k) (ih (k + 1) (by omega) (fun ⟨b', p, q, r⟩ => h1 ⟨b', by omega, q, r⟩) (fun z => h0 (fun ⟨b', p, q, r⟩ => ?_)))))))
    by_cases e : b' = k
    · exact m (e ▸ r)
    · exact z ⟨b', by omega, q, r⟩
theorem y_bd_l {px py : Int32} (hn : n ≤ 32) (hB : ∀ k, k < n → mt_B (mt_p xs ys k)) (hq : mt_B (px.toInt, py.toInt)) : ∀ d k, k + d = n → ((∃ k', k ≤ k' ∧ k' < n ∧ gm_on (mt_p xs ys k') (mt_p xs ys (gm_nx 0 (n - 1) k')) (px.toInt, py.toInt)) → post 2) → ((¬ ∃ k', k ≤ k' ∧ k' < n ∧ gm_on (mt_p xs ys k') (mt_p xs ys (gm_nx 0 (n - 1) k')) (px.toInt, py.toInt)) → wpY_winding (fun r => (r = 0 → post 1) ∧ (¬ r = 0 → post 3)) (cp, nI n, st, xs, ys) px py 1) → wY_locate_42 post px py cp (nI n) st xs ys (d + 1) (nI k) := by
  intro d
  induction d with
  | zero =>
    intro k hk h1 h0
    have e : k = n := by omega
    subst e
    exact br_t (nI_le (Nat.le_refl _) (by omega)) (h0 (fun ⟨k', p, q, _⟩ => by omega))
  | succ d ih =>
    intro k hk h1 h0
    have hkn : k < n := by omega
    have hj := mt_nl hkn
    have n10 : ¬ (1 : Int32) = 0 := by decide
    have vk : vp_in (nI k) 32 := vp_in_nI (by omega) (by omega)
    have vj : vp_in (nI (gm_nx 0 (n - 1) k)) 32 := vp_in_nI (by omega) (by omega)
    refine br_f (nI_ge (by omega) (by omega)) (y_nxt hkn hn ⟨vk, vk, vj, vj, ?_⟩)
    rw [nI_clamp (show k < 2 ^ 31 by omega), nI_clamp (show gm_nx 0 (n - 1) k < 2 ^ 31 by omega)]
    refine y_on hq (hB _ hkn) (hB _ hj) (fun m => br_f n10 (h1 ⟨k, Nat.le_refl _, hkn, m⟩)) (fun m => br_t rfl (nm_r (nI_1 k) (ih (k + 1) (by omega) (fun ⟨b', p, q, r⟩ => h1 ⟨b', by omega, q, r⟩) (fun z => h0 (fun ⟨b', p, q, r⟩ => ?_)))))
    by_cases e : b' = k
    · exact m (e ▸ r)
    · exact z ⟨b', by omega, q, r⟩
end
end
section
/-! diagonals, counts, the summed area -/
def mt_kc (xs ys : Nat → Int32) (n : Nat) (q : Int32) : Nat → Int32
  | 0 => 0
  | k + 1 => if mt_kind xs ys n k = q then mt_kc xs ys n q k + 1 else mt_kc xs ys n q k
section
variable {cp st tr : Int32} {xs ys kd fc mc lc rg : Nat → Int32} {n : Nat} {post : Int32 → Prop}
theorem x_bl_l {a b : Nat} (ha : a < n) (hb : b < n) (hn : n ≤ 32) (hB : ∀ k, k < n → mt_B (mt_p xs ys k)) : ∀ d k, k + d = n → ((∃ k', k ≤ k' ∧ k' < n ∧ gm_blX (mt_p xs ys) (n - 1) a b k') → post 1) → ((¬ ∃ k', k ≤ k' ∧ k' < n ∧ gm_blX (mt_p xs ys) (n - 1) a b k') → post 0) → wX_meetsBoundaryBetween_2 post (nI a) (nI b) cp st (nI n) tr xs ys kd fc mc lc rg (d + 1) (nI k) := by
  intro d
  induction d with
  | zero =>
    intro k hk h1 h0
    have e : k = n := by omega
    subst e
    exact br_t (nI_le (Nat.le_refl _) (by omega)) (h0 (fun ⟨k', p, q, _⟩ => by omega))
  | succ d ih =>
    intro k hk h1 h0
    have hkn : k < n := by omega
    have hj := mt_nl hkn
    have n10 : ¬ (1 : Int32) = 0 := by decide
    have vk : vp_in (nI k) 32 := vp_in_nI (by omega) (by omega)
    have ck := nI_clamp (show k < 2 ^ 31 by omega)
    have go : ¬ gm_blX (mt_p xs ys) (n - 1) a b k → wX_meetsBoundaryBetween_2 post (nI a) (nI b) cp st (nI n) tr xs ys kd fc mc lc rg (d + 1) (nI (k + 1)) := by
      intro nr
      refine ih (k + 1) (by omega) (fun ⟨b', p, q, r⟩ => h1 ⟨b', by omega, q, r⟩) (fun z => h0 (fun ⟨b', p, q, r⟩ => ?_))
      by_cases e : b' = k
      · exact nr (e ▸ r)
      · exact z ⟨b', by omega, q, r⟩
    have yes : gm_blX (mt_p xs ys) (n - 1) a b k → post 1 := fun z => h1 ⟨k, Nat.le_refl _, hkn, z⟩
    have q1 := nI_eq (a := k) (b := a) (by omega) (by omega)
    have q2 := nI_eq (a := k) (b := b) (by omega) (by omega)
    have q3 := nI_eq (a := gm_nx 0 (n - 1) k) (b := a) (by omega) (by omega)
    have q4 := nI_eq (a := gm_nx 0 (n - 1) k) (b := b) (by omega) (by omega)
    have t79 : ¬ gm_blX (mt_p xs ys) (n - 1) a b k → wX_meetsBoundaryBetween_79 post (wX_meetsBoundaryBetween_2 post (nI a) (nI b) cp st (nI n) tr xs ys kd fc mc lc rg (d + 1)) (nI a) (nI b) (nI k) (nI (gm_nx 0 (n - 1) k)) cp st (nI n) tr xs ys kd fc mc lc rg := by
      intro nr
      unfold wX_meetsBoundaryBetween_79 wX_meetsBoundaryBetween_84
      exact br_f n10 (nm_r (nI_1 k) (go nr))
    have t27 : (k = a ∨ k = b) → wX_meetsBoundaryBetween_27 post (wX_meetsBoundaryBetween_2 post (nI a) (nI b) cp st (nI n) tr xs ys kd fc mc lc rg (d + 1)) (nI a) (nI b) (nI k) (nI (gm_nx 0 (n - 1) k)) cp st (nI n) tr xs ys kd fc mc lc rg := by
      intro e
      unfold wX_meetsBoundaryBetween_27 wX_meetsBoundaryBetween_32 wX_meetsBoundaryBetween_62
      refine br_f n10 (br_f n10 (t79 (fun z => ?_)))
      rcases z with ⟨⟨z1, z2⟩, _⟩ | ⟨⟨z1, z2, _⟩, _⟩
      · omega
      · omega
    refine br_f (nI_ge (by omega) (by omega)) (x_next hkn hn (br_c (fun e => t27 (Or.inl (q1.mp e))) (fun e1 => br_c (fun e => t27 (Or.inr (q2.mp e))) (fun e2 => ?_))))
    have n1 : k ≠ a := fun z => e1 (q1.mpr z)
    have n2 : k ≠ b := fun z => e2 (q2.mpr z)
    unfold wX_meetsBoundaryBetween_32
    rw [ck]
    refine br_t rfl ⟨vk, vk, x_on ha hb hn hB (hB k hkn) (fun m => br_f n10 (yes (Or.inl ⟨⟨n1, n2⟩, m⟩))) (fun m => br_t rfl ?_)⟩
    have nb : ¬ (((gm_nx 0 (n - 1) k ≠ a ∧ gm_nx 0 (n - 1) k ≠ b)) ∧ gm_meet (mt_p xs ys a) (mt_p xs ys b) (mt_p xs ys k) (mt_p xs ys (gm_nx 0 (n - 1) k))) → ¬ gm_blX (mt_p xs ys) (n - 1) a b k := by
      intro w z
      rcases z with ⟨_, z⟩ | ⟨⟨_, _, z3, z4⟩, z5⟩
      · exact m z
      · exact w ⟨⟨z3, z4⟩, z5⟩
    unfold wX_meetsBoundaryBetween_62
    refine br_t rfl (br_c (fun e => t79 (nb (fun z => z.1.1 (q3.mp e)))) (fun e3 => br_c (fun e => t79 (nb (fun z => z.1.2 (q4.mp e)))) (fun e4 => ?_)))
    unfold wX_meetsBoundaryBetween_84
    exact br_t rfl (x_meet ha hb hkn hj hn hB (fun w => br_f n10 (yes (Or.inr ⟨⟨n1, n2, fun z => e3 (q3.mpr z), fun z => e4 (q4.mpr z)⟩, w⟩))) (fun w => br_t rfl (nm_r (nI_1 k) (go (nb (fun z => w z.2))))))
theorem x_bl {a b : Nat} (ha : a < n) (hb : b < n) (hn : n ≤ 32) (hB : ∀ k, k < n → mt_B (mt_p xs ys k)) (h1 : (∃ k, k < n ∧ gm_blX (mt_p xs ys) (n - 1) a b k) → post 1) (h0 : (¬ ∃ k, k < n ∧ gm_blX (mt_p xs ys) (n - 1) a b k) → post 0) : wpX_meetsBoundaryBetween post (cp, st, nI n, tr, xs, ys, kd, fc, mc, lc, rg) (nI a) (nI b) :=
  ⟨n + 1, x_bl_l ha hb hn hB n 0 (by omega) (fun ⟨k, _, q, r⟩ => h1 ⟨k, q, r⟩) (fun z => h0 (fun ⟨k, q, r⟩ => z ⟨k, Nat.zero_le _, q, r⟩))⟩
theorem y_bl_l {a b : Nat} (ha : a < n) (hb : b < n) (hn : n ≤ 32) (hB : ∀ k, k < n → mt_B (mt_p xs ys k)) : ∀ d k, k + d = n → ((∃ k', k ≤ k' ∧ k' < n ∧ gm_blY (mt_p xs ys) (n - 1) a b k') → post 0) → ((¬ ∃ k', k ≤ k' ∧ k' < n ∧ gm_blY (mt_p xs ys) (n - 1) a b k') → wpY_winding (fun r => narrow .boolean (.int r) = .int r ∧ post r) (cp, nI n, st, xs, ys) (xs a + xs b) (ys a + ys b) 2) → wY_isDiagonal_97 post (xs a) (ys a) (xs b) (ys b) cp (nI n) st xs ys (d + 1) (nI k) := by
  intro d
  induction d with
  | zero =>
    intro k hk h1 h0
    have e : k = n := by omega
    subst e
    exact br_t (nI_le (Nat.le_refl _) (by omega)) (h0 (fun ⟨k', p, q, _⟩ => by omega))
  | succ d ih =>
    intro k hk h1 h0
    have hkn : k < n := by omega
    have hj := mt_nl hkn
    have n10 : ¬ (1 : Int32) = 0 := by decide
    have vk : vp_in (nI k) 32 := vp_in_nI (by omega) (by omega)
    have vj : vp_in (nI (gm_nx 0 (n - 1) k)) 32 := vp_in_nI (by omega) (by omega)
    have ck := nI_clamp (show k < 2 ^ 31 by omega)
    have cj := nI_clamp (show gm_nx 0 (n - 1) k < 2 ^ 31 by omega)
    have go : ¬ gm_blY (mt_p xs ys) (n - 1) a b k → wY_isDiagonal_97 post (xs a) (ys a) (xs b) (ys b) cp (nI n) st xs ys (d + 1) (nI (k + 1)) := by
      intro nr
      refine ih (k + 1) (by omega) (fun ⟨b', p, q, r⟩ => h1 ⟨b', by omega, q, r⟩) (fun z => h0 (fun ⟨b', p, q, r⟩ => ?_))
      by_cases e : b' = k
      · exact nr (e ▸ r)
      · exact z ⟨b', by omega, q, r⟩
    have yes : gm_blY (mt_p xs ys) (n - 1) a b k → post 0 := fun z => h1 ⟨k, Nat.le_refl _, hkn, z⟩
    have s1 := mt_Os (hB a ha) (hB b hb) (hB k hkn)
    have s2 := mt_Os (hB a ha) (hB b hb) (hB _ hj)
    have z1 := mt_eq0 s1
    have z2 := mt_eq0 s2
    have w1 := mt_0le (mt_Ds (hB k hkn) (hB a ha) (hB b hb))
    have w2 := mt_0le (mt_Ds (hB _ hj) (hB a ha) (hB b hb))
    have w3 := mt_lt0 (mt_Ds (hB a ha) (hB k hkn) (hB _ hj))
    have w4 := mt_0le (mt_Ds (hB b hb) (hB k hkn) (hB _ hj))
    have t293 : ¬ gm_px (mt_p xs ys a) (mt_p xs ys b) (mt_p xs ys k) (mt_p xs ys (gm_nx 0 (n - 1) k)) → ¬ (gm_O (mt_p xs ys a) (mt_p xs ys b) (mt_p xs ys k) = 0 ∧ gm_D (mt_p xs ys k) (mt_p xs ys a) (mt_p xs ys b) < 0) → ¬ (gm_O (mt_p xs ys a) (mt_p xs ys b) (mt_p xs ys (gm_nx 0 (n - 1) k)) = 0 ∧ gm_D (mt_p xs ys (gm_nx 0 (n - 1) k)) (mt_p xs ys a) (mt_p xs ys b) < 0) → wY_isDiagonal_293 post (wY_isDiagonal_97 post (xs a) (ys a) (xs b) (ys b) cp (nI n) st xs ys (d + 1)) (xs a) (ys a) (xs b) (ys b) (nI k) (xs k) (ys k) (xs (gm_nx 0 (n - 1) k)) (ys (gm_nx 0 (n - 1) k)) (mt_c (gm_O (mt_p xs ys a) (mt_p xs ys b) (mt_p xs ys k))) (mt_c (gm_O (mt_p xs ys a) (mt_p xs ys b) (mt_p xs ys (gm_nx 0 (n - 1) k)))) cp (nI n) st xs ys := by
      intro p1 p2 p3
      have nb : ¬ ((gm_O (mt_p xs ys a) (mt_p xs ys b) (mt_p xs ys k) = 0 ∧ gm_O (mt_p xs ys a) (mt_p xs ys b) (mt_p xs ys (gm_nx 0 (n - 1) k)) = 0) ∧ (gm_D (mt_p xs ys a) (mt_p xs ys k) (mt_p xs ys (gm_nx 0 (n - 1) k)) < 0 ∨ gm_D (mt_p xs ys b) (mt_p xs ys k) (mt_p xs ys (gm_nx 0 (n - 1) k)) < 0)) → ¬ gm_blY (mt_p xs ys) (n - 1) a b k := by
        intro w z
        rcases z with z | z | z | z
        · exact p1 z
        · exact p2 z
        · exact p3 z
        · exact w z
      unfold wY_isDiagonal_293
      refine br_c (fun g1 => br_c (fun g2 => ?_) (fun g2 => nm_r (nI_1 k) (go (nb (fun z => g2 (z2.mpr z.1.2)))))) (fun g1 => nm_r (nI_1 k) (go (nb (fun z => g1 (z1.mpr z.1.1)))))
      refine y_dot (br_c (fun g3 => yes (Or.inr (Or.inr (Or.inr ⟨⟨z1.mp g1, z2.mp g2⟩, Or.inl (w3.mp g3)⟩)))) (fun g3 => y_dot (br_c (fun g4 => nm_r (nI_1 k) (go (nb (fun z => ?_)))) (fun g4 => yes (Or.inr (Or.inr (Or.inr ⟨⟨z1.mp g1, z2.mp g2⟩, Or.inr (Int.not_le.mp (fun z => g4 (w4.mpr z)))⟩)))))))
      rcases z.2 with y | y
      · exact g3 (w3.mpr y)
      · have := w4.mp g4
        omega
    have t243 : ¬ gm_px (mt_p xs ys a) (mt_p xs ys b) (mt_p xs ys k) (mt_p xs ys (gm_nx 0 (n - 1) k)) → wY_isDiagonal_243 post (wY_isDiagonal_97 post (xs a) (ys a) (xs b) (ys b) cp (nI n) st xs ys (d + 1)) (xs a) (ys a) (xs b) (ys b) (nI k) (xs k) (ys k) (xs (gm_nx 0 (n - 1) k)) (ys (gm_nx 0 (n - 1) k)) (mt_c (gm_O (mt_p xs ys a) (mt_p xs ys b) (mt_p xs ys k))) (mt_c (gm_O (mt_p xs ys a) (mt_p xs ys b) (mt_p xs ys (gm_nx 0 (n - 1) k)))) cp (nI n) st xs ys := by
      intro p1
      have t268 : ¬ (gm_O (mt_p xs ys a) (mt_p xs ys b) (mt_p xs ys k) = 0 ∧ gm_D (mt_p xs ys k) (mt_p xs ys a) (mt_p xs ys b) < 0) → wY_isDiagonal_268 post (wY_isDiagonal_97 post (xs a) (ys a) (xs b) (ys b) cp (nI n) st xs ys (d + 1)) (xs a) (ys a) (xs b) (ys b) (nI k) (xs k) (ys k) (xs (gm_nx 0 (n - 1) k)) (ys (gm_nx 0 (n - 1) k)) (mt_c (gm_O (mt_p xs ys a) (mt_p xs ys b) (mt_p xs ys k))) (mt_c (gm_O (mt_p xs ys a) (mt_p xs ys b) (mt_p xs ys (gm_nx 0 (n - 1) k)))) cp (nI n) st xs ys := by
        intro p2
        unfold wY_isDiagonal_268
        refine br_c (fun g => y_dot (br_c (fun g2 => t293 p1 p2 (fun z => ?_)) (fun g2 => yes (Or.inr (Or.inr (Or.inl ⟨z2.mp g, Int.not_le.mp (fun z => g2 (w2.mpr z))⟩)))))) (fun g => t293 p1 p2 (fun z => g (z2.mpr z.1)))
        have := w2.mp g2
        have := z.2
        omega
      unfold wY_isDiagonal_243
      refine br_c (fun g => y_dot (br_c (fun g2 => t268 (fun z => ?_)) (fun g2 => yes (Or.inr (Or.inl ⟨z1.mp g, Int.not_le.mp (fun z => g2 (w1.mpr z))⟩))))) (fun g => t268 (fun z => g (z1.mpr z.1)))
      have := w1.mp g2
      have := z.2
      omega
    refine br_f (nI_ge (by omega) (by omega)) (y_nxt hkn hn ⟨vk, nm_r (congrArg xs ck) ⟨vk, nm_r (congrArg ys ck) ⟨vj, nm_r (congrArg xs cj) ⟨vj, nm_r (congrArg ys cj) (y_cross (y_cross (y_cross (y_cross ?_))))⟩⟩⟩⟩)
    refine y_opp s1 s2 (fun o1 => br_f n10 ?_) (fun o1 => br_t rfl (t243 (fun z => o1 z.1)))
    exact y_opp (mt_Os (hB k hkn) (hB _ hj) (hB a ha)) (mt_Os (hB k hkn) (hB _ hj) (hB b hb)) (fun o2 => br_f n10 (yes (Or.inl ⟨o1, o2⟩))) (fun o2 => br_t rfl (t243 (fun z => o2 z.2)))
theorem x_kc_l {q : Int32} (hn : n ≤ 32) (hk : ∀ j, j < n → kd j = mt_kind xs ys n j) (h : post (mt_kc xs ys n q n)) : ∀ d k, k + d = n → wX_kindCount_24 post q cp st (nI n) tr xs ys kd fc mc lc rg (d + 1) (mt_kc xs ys n q k) (nI k) := by
  intro d
  induction d with
  | zero =>
    intro k e
    have e : k = n := by omega
    rw [e]
    exact br_t (nI_le (Nat.le_refl _) (by omega)) h
  | succ d ih =>
    intro k e
    have hkn : k < n := by omega
    have vk : vp_in (nI k) 32 := vp_in_nI (by omega) (by omega)
    have ck := nI_clamp (show k < 2 ^ 31 by omega)
    have nxt := ih (k + 1) (by omega)
    refine br_f (nI_ge (by omega) (by omega)) ⟨vk, br_c (fun g => nm_r ?_ (nm_r (nI_1 k) nxt)) (fun g => nm_r (nI_1 k) ?_)⟩
    · rw [ck, hk k hkn] at g
      show _ = if mt_kind xs ys n k = q then mt_kc xs ys n q k + 1 else mt_kc xs ys n q k
      rw [if_pos g]
    · rw [ck, hk k hkn] at g
      have e2 : mt_kc xs ys n q (k + 1) = mt_kc xs ys n q k := by
        show (if mt_kind xs ys n k = q then mt_kc xs ys n q k + 1 else mt_kc xs ys n q k) = _
        rw [if_neg g]
      rw [e2] at nxt
      exact nxt
theorem y_kc_l {q : Int32} (hn : n ≤ 32) (h : post (mt_kc xs ys n q n)) : ∀ d k, k + d = n → wY_kindCount_26 post q cp (nI n) st xs ys (d + 1) (mt_kc xs ys n q k) (nI k) := by
  intro d
  induction d with
  | zero =>
    intro k e
    have e : k = n := by omega
    rw [e]
    exact br_t (nI_le (Nat.le_refl _) (by omega)) h
  | succ d ih =>
    intro k e
    have hkn : k < n := by omega
    have nxt := ih (k + 1) (by omega)
    refine br_f (nI_ge (by omega) (by omega)) (y_kind hkn hn (br_c (fun g => nm_r ?_ (nm_r (nI_1 k) nxt)) (fun g => nm_r (nI_1 k) ?_)))
    · show _ = if mt_kind xs ys n k = q then mt_kc xs ys n q k + 1 else mt_kc xs ys n q k
      rw [if_pos g]
    · have e2 : mt_kc xs ys n q (k + 1) = mt_kc xs ys n q k := by
        show (if mt_kind xs ys n k = q then mt_kc xs ys n q k + 1 else mt_kc xs ys n q k) = _
        rw [if_neg g]
      rw [e2] at nxt
      exact nxt
theorem x_sum_l {m : Nat} (hn : n ≤ 32) (hm : m ≤ 32) (hB : ∀ k, k < n → mt_B (mt_p xs ys k)) (hv : mt_V n fc mc lc m) (h : post (mt_c (mt_T (mt_p xs ys) fc mc lc m))) : ∀ d k, k + d = m → wX_triangleAreaSum_14 post cp st (nI n) (nI m) xs ys kd fc mc lc rg (d + 1) (mt_c (mt_T (mt_p xs ys) fc mc lc k)) (nI k) := by
  intro d
  induction d with
  | zero =>
    intro k e
    have e : k = m := by omega
    rw [e]
    exact br_t (nI_le (Nat.le_refl _) (by omega)) h
  | succ d ih =>
    intro k e
    have vk : vp_in (nI k) 32 := vp_in_nI (by omega) (by omega)
    have ck := nI_clamp (show k < 2 ^ 31 by omega)
    have nxt := ih (k + 1) (by omega)
    obtain ⟨a, b, c, a1, b1, c1, ea, eb, ec⟩ := hv k (by omega)
    have vc : vp_in (nI c) 32 := vp_in_nI (by omega) (by omega)
    have cc := nI_clamp (show c < 2 ^ 31 by omega)
    have st : mt_T (mt_p xs ys) fc mc lc (k + 1) = mt_T (mt_p xs ys) fc mc lc k + mt_ab (gm_O (mt_p xs ys a) (mt_p xs ys b) (mt_p xs ys c)) := by
      unfold mt_T
      simp only [gm_sum, Nat.zero_add]
      rw [ea, eb, ec, nI_clamp (show a < 2 ^ 31 by omega), nI_clamp (show b < 2 ^ 31 by omega), cc]
    have s := mt_0le (mt_Os (hB a a1) (hB b b1) (hB c c1))
    refine br_f (nI_ge (by omega) (by omega)) ⟨vk, nm_r (show lc (nI k).toNatClampNeg = nI c by rw [ck]; exact ec) ⟨vk, vk, vc, vc, ?_⟩⟩
    rw [ck, ea, eb, cc]
    refine x_cross a1 b1 hn (br_c (fun g => nm_r ?_ (nm_r (nI_1 k) nxt)) (fun g => nm_r ?_ (nm_r (nI_1 k) nxt)))
    · have g' := s.mp g
      rw [st, ← mt_add]
      unfold mt_ab
      rw [if_neg (by omega)]
      rfl
    · have g' : ¬ 0 ≤ gm_O (mt_p xs ys a) (mt_p xs ys b) (mt_p xs ys c) := fun z => g (s.mpr z)
      rw [st, ← mt_add, mt_neg]
      unfold mt_ab
      rw [if_pos (by omega)]
      rfl
end
end
section
/-! the relation, and the calls one by one -/
def mt_R (xs ys kd fc mc lc : Nat → Int32) (n : Nat) (tr : Int32) : Prop :=
  3 ≤ n ∧ gm_simp (mt_p xs ys) 0 (n - 1) ∧ (∀ j, j < n → kd j = mt_kind xs ys n j) ∧ ∃ m, tr = nI m ∧ m + 2 = n ∧ mt_V n fc mc lc m ∧ mt_T (mt_p xs ys) fc mc lc m = mt_ab (gm_cy gm_ar (mt_p xs ys) 0 (n - 1))
/-- the same corners, state and capacity; in STATE_READY the corners are simple, the kinds are those of the corners, and the triangles' areas add up -/
def i_Rel (_ : Nat) (u : SX) (v : SY) : Prop :=
  ∃ (c n : Nat) (st tr : Int32) (xs ys kd fc mc lc rg : Nat → Int32), u = (nI c, st, nI n, tr, xs, ys, kd, fc, mc, lc, rg) ∧ v = (nI c, nI n, st, xs, ys) ∧ 4 ≤ c ∧ c ≤ 32 ∧ n ≤ c ∧ (∀ k, k < n → mt_B (mt_p xs ys k)) ∧ (st = 1 → mt_R xs ys kd fc mc lc n tr)
theorem i_up {k : Nat} {u : SX} {v : SY} (h : i_Rel k u v) : i_Rel (k + 3) u v := h
theorem mt_n01 : ¬ (0 : Int32) = 1 := by decide
theorem mt_n10 : ¬ (1 : Int32) = 0 := by decide
theorem mt_n21 : ¬ (2 : Int32) = 1 := by decide
theorem mt_mk0 {k c n : Nat} {st tr : Int32} {xs ys kd fc mc lc rg : Nat → Int32} (h1 : 4 ≤ c) (h2 : c ≤ 32) (h3 : n ≤ c) (hB : ∀ k, k < n → mt_B (mt_p xs ys k)) (h : ¬ st = 1) : i_Rel k (nI c, st, nI n, tr, xs, ys, kd, fc, mc, lc, rg) (nI c, nI n, st, xs, ys) :=
  ⟨c, n, st, tr, xs, ys, kd, fc, mc, lc, rg, rfl, rfl, h1, h2, h3, hB, fun z => absurd z h⟩
theorem i_vc0 (k0 : Int32) : wpX_init (fun u => wpY_init (fun v => i_Rel 1 u v) k0) k0 := by
  have B0 : ∀ k, k < 0 → mt_B (mt_p (fun _ => 0) (fun _ => 0) k) := fun k h => absurd h (Nat.not_lt_zero k)
  by_cases h4 : (4 : Int32) ≤ k0
  · by_cases h32 : k0 ≤ 32
    · obtain ⟨j, hj, rfl⟩ := nI_of2 (x := k0) (M := 32) (n := 32) (by decide) (Int32.not_lt.mpr (Int32.le_trans (by decide) h4)) h32
      have h4' : 4 ≤ j := (nI_leI (a := 4) (b := j) (by omega) (by omega)).mp h4
      exact br_t h4 (br_t h32 (br_t h4 (br_t h32 (mt_mk0 (k := 1) (n := 0) h4' hj (by omega) B0 mt_n01))))
    · exact br_t h4 (br_f h32 (br_t h4 (br_f h32 (mt_mk0 (k := 1) (c := 32) (n := 0) (by omega) (by omega) (by omega) B0 mt_n01))))
  · exact br_f h4 (br_f h4 (br_t (by decide) (mt_mk0 (k := 1) (c := 4) (n := 0) (by omega) (by omega) (by omega) B0 mt_n01)))
theorem mt_bnd {a b : Prop} {p q : Int32} (h1 : mt_B (p.toInt, q.toInt) → b) (h0 : ¬ mt_B (p.toInt, q.toInt) → a) : ((p < (-1000) → a) ∧ (¬ p < (-1000) → ((1000 < p → a) ∧ (¬ 1000 < p → ((q < (-1000) → a) ∧ (¬ q < (-1000) → ((q ≤ 1000 → b) ∧ (¬ q ≤ 1000 → a)))))))) := by
  have e1 : (-1000 : Int32).toInt = -1000 := by decide
  have e2 : (1000 : Int32).toInt = 1000 := by decide
  unfold mt_B at h1 h0
  dsimp only at h1 h0
  rw [Int32.lt_iff_toInt_lt, Int32.lt_iff_toInt_lt, Int32.lt_iff_toInt_lt, Int32.le_iff_toInt_le, e1, e2]
  exact br_c (fun x => h0 (by omega)) (fun x => br_c (fun y => h0 (by omega)) (fun y => br_c (fun z => h0 (by omega)) (fun z => br_c (fun w => h1 (by omega)) (fun w => h0 (by omega)))))
section
variable {cp st tr : Int32} {xs ys kd fc mc lc rg : Nat → Int32} {n : Nat} {post : Int32 → Prop}
theorem x_inb {p q : Int32} (h1 : mt_B (p.toInt, q.toInt) → post 1) (h0 : ¬ mt_B (p.toInt, q.toInt) → post 0) : wpX_inBounds post (cp, st, nI n, tr, xs, ys, kd, fc, mc, lc, rg) p q := by
  unfold wpX_inBounds
  dsimp only
  have e1 : (-1000 : Int32).toInt = -1000 := by decide
  have e2 : (1000 : Int32).toInt = 1000 := by decide
  unfold mt_B at h1 h0
  dsimp only at h1 h0
  rw [Int32.lt_iff_toInt_lt, Int32.lt_iff_toInt_lt, Int32.lt_iff_toInt_lt, Int32.lt_iff_toInt_lt, e1, e2]
  exact br_c (fun x => h0 (by omega)) (fun x => br_c (fun y => h0 (by omega)) (fun y => br_c (fun z => h0 (by omega)) (fun z => br_c (fun w => h0 (by omega)) (fun w => h1 (by omega)))))
theorem mt_ix (p : Int32) (hn : n ≤ 32) : p < 0 ∨ (¬ p < 0 ∧ nI n ≤ p) ∨ ∃ j : Nat, j < n ∧ p = nI j := by
  by_cases h : p < 0
  · exact Or.inl h
  · obtain ⟨j, hj, rfl⟩ := nI_of h
    by_cases h2 : j < n
    · exact Or.inr (Or.inr ⟨j, h2, rfl⟩)
    · exact Or.inr (Or.inl ⟨h, nI_le (by omega) hj⟩)
theorem x_idx1 {j : Nat} (hj : j < n) (hn : n ≤ 32) (h : post 1) : wpX_isIndex post (cp, st, nI n, tr, xs, ys, kd, fc, mc, lc, rg) (nI j) := by
  unfold wpX_isIndex
  exact br_f (nI_pos (by omega)) (br_f (nI_ge hj (by omega)) h)
theorem x_idx0 {p : Int32} (hp : p < 0 ∨ (¬ p < 0 ∧ nI n ≤ p)) (h : post 0) : wpX_isIndex post (cp, st, nI n, tr, xs, ys, kd, fc, mc, lc, rg) p := by
  unfold wpX_isIndex
  rcases hp with hp | ⟨h0, hp⟩
  · exact br_t hp h
  · exact br_f h0 (br_t hp h)
end
theorem i_vc_addVertex {k : Nat} {u : SX} {v : SY} (I : i_Rel k u v) (hk : k + 3 ≤ 1537) (v1 : Int32) (v2 : Int32) : wpX_addVertex (fun r u' => wpY_addVertex (fun r' v' => r' = r ∧ i_Rel (k + 3) u' v') v v1 v2) u v1 v2 := by
  obtain ⟨c, n, st, tr, xs, ys, kd, fc, mc, lc, rg, rfl, rfl, h4, h32, hnc, hB, hR⟩ := I
  have J : i_Rel (k + 3) (nI c, st, nI n, tr, xs, ys, kd, fc, mc, lc, rg) (nI c, nI n, st, xs, ys) := ⟨c, n, st, tr, xs, ys, kd, fc, mc, lc, rg, rfl, rfl, h4, h32, hnc, hB, hR⟩
  unfold wpX_addVertex wpY_addVertex
  dsimp only
  by_cases hs : st = 0
  · refine br_t hs ?_
    by_cases hc : c ≤ n
    · exact br_t (nI_le hc (by omega)) (br_t hs (br_t (by rw [show n = c by omega]) ⟨rfl, J⟩))
    · have hne : ¬ nI n = nI c := fun z => by have := (nI_eq (a := n) (b := c) (by omega) (by omega)).mp z; omega
      have vn : vp_in (nI n) 32 := vp_in_nI (by omega) (by omega)
      have cn := nI_clamp (show n < 2 ^ 31 by omega)
      refine br_f (nI_ge (by omega) (by omega)) (x_inb (fun hb => br_f mt_n10 ?_) (fun hb => br_t rfl (br_t hs (br_f hne (mt_bnd (fun z => absurd z hb) (fun _ => ⟨rfl, J⟩))))))
      rw [cn]
      refine ⟨vn, nm_e ⟨vn, nm_e (nm_r (nI_1 n) (br_t hs (br_f hne (mt_bnd (fun _ => ⟨vn, nm_e ⟨vn, nm_e (nm_r (nI_1 n) ⟨nI_pred n, ?_⟩)⟩⟩) (fun z => absurd hb z)))))⟩⟩
      refine ⟨c, n + 1, st, tr, upd xs n v1, upd ys n v2, kd, fc, mc, lc, rg, rfl, rfl, h4, h32, by omega, fun j hj => ?_, fun z => absurd (hs.symm.trans z) mt_n01⟩
      unfold mt_p
      by_cases e : j = n
      · rw [e, mt_us, mt_us]; exact hb
      · rw [mt_un e, mt_un e]; exact hB j (by omega)
  · exact br_f hs (br_f hs ⟨rfl, J⟩)
theorem i_vc_removeLast {k : Nat} {u : SX} {v : SY} (I : i_Rel k u v) (hk : k + 3 ≤ 1537) : wpX_removeLast (fun r u' => wpY_removeLast (fun r' v' => r' = r ∧ i_Rel (k + 3) u' v') v) u := by
  obtain ⟨c, n, st, tr, xs, ys, kd, fc, mc, lc, rg, rfl, rfl, h4, h32, hnc, hB, hR⟩ := I
  have J : i_Rel (k + 3) (nI c, st, nI n, tr, xs, ys, kd, fc, mc, lc, rg) (nI c, nI n, st, xs, ys) := ⟨c, n, st, tr, xs, ys, kd, fc, mc, lc, rg, rfl, rfl, h4, h32, hnc, hB, hR⟩
  unfold wpX_removeLast wpY_removeLast
  dsimp only
  by_cases hs : st = 0
  · by_cases h0 : n = 0
    · have e : nI n = 0 := by rw [h0, nI_0]
      exact br_t hs (br_t e (br_t hs (br_t e ⟨rfl, J⟩)))
    · have e : ¬ nI n = 0 := nI_ne0 (by omega) (by omega)
      exact br_t hs (br_f e (nm_r (mt_dec (by omega)) (br_t hs (br_f e (nm_r (mt_dec (by omega)) ⟨rfl, mt_mk0 h4 h32 (by omega) (fun j hj => hB j (by omega)) (fun z => absurd (hs.symm.trans z) mt_n01)⟩)))))
  · exact br_f hs (br_f hs ⟨rfl, J⟩)
theorem i_vc_reset {k : Nat} {u : SX} {v : SY} (I : i_Rel k u v) (hk : k + 3 ≤ 1537) : wpX_reset (fun u' => wpY_reset (fun v' => i_Rel (k + 3) u' v') v) u := by
  obtain ⟨c, n, st, tr, xs, ys, kd, fc, mc, lc, rg, rfl, rfl, h4, h32, hnc, hB, hR⟩ := I
  exact mt_mk0 (k := k + 3) (n := 0) h4 h32 (by omega) (fun j hj => absurd hj (Nat.not_lt_zero j)) mt_n01
theorem i_vc_reopen {k : Nat} {u : SX} {v : SY} (I : i_Rel k u v) (hk : k + 3 ≤ 1537) : wpX_reopen (fun r u' => wpY_reopen (fun r' v' => r' = r ∧ i_Rel (k + 3) u' v') v) u := by
  obtain ⟨c, n, st, tr, xs, ys, kd, fc, mc, lc, rg, rfl, rfl, h4, h32, hnc, hB, hR⟩ := I
  have J : i_Rel (k + 3) (nI c, st, nI n, tr, xs, ys, kd, fc, mc, lc, rg) (nI c, nI n, st, xs, ys) := ⟨c, n, st, tr, xs, ys, kd, fc, mc, lc, rg, rfl, rfl, h4, h32, hnc, hB, hR⟩
  unfold wpX_reopen wpY_reopen
  dsimp only
  by_cases hs : st = 0
  · exact br_t hs (br_t hs ⟨rfl, J⟩)
  · exact br_f hs (br_f hs ⟨rfl, mt_mk0 h4 h32 hnc hB mt_n01⟩)
theorem i_vc_status {k : Nat} {u : SX} {v : SY} (I : i_Rel k u v) (hk : k + 3 ≤ 1537) : wpX_status (fun r => wpY_status (fun r' => r' = r ∧ i_Rel (k + 3) u v) v) u := by
  have J := I
  obtain ⟨c, n, st, tr, xs, ys, kd, fc, mc, lc, rg, rfl, rfl, h4, h32, hnc, hB, hR⟩ := I
  unfold wpX_status wpY_status
  exact ⟨rfl, J⟩
theorem i_vc_vertexCount {k : Nat} {u : SX} {v : SY} (I : i_Rel k u v) (hk : k + 3 ≤ 1537) : wpX_vertexCount (fun r => wpY_vertexCount (fun r' => r' = r ∧ i_Rel (k + 3) u v) v) u := by
  have J := I
  obtain ⟨c, n, st, tr, xs, ys, kd, fc, mc, lc, rg, rfl, rfl, h4, h32, hnc, hB, hR⟩ := I
  unfold wpX_vertexCount wpY_vertexCount
  exact ⟨rfl, J⟩
theorem i_vc_vertexX {k : Nat} {u : SX} {v : SY} (I : i_Rel k u v) (hk : k + 3 ≤ 1537) (v1 : Int32) : wpX_vertexX (fun r => wpY_vertexX (fun r' => r' = r ∧ i_Rel (k + 3) u v) v v1) u v1 := by
  have J := I
  obtain ⟨c, n, st, tr, xs, ys, kd, fc, mc, lc, rg, rfl, rfl, h4, h32, hnc, hB, hR⟩ := I
  unfold wpX_vertexX wpY_vertexX
  dsimp only
  rcases mt_ix v1 (show n ≤ 32 by omega) with h | ⟨h0, h⟩ | ⟨j, hj, rfl⟩
  · exact x_idx0 (Or.inl h) (br_t rfl (br_t h ⟨rfl, J⟩))
  · exact x_idx0 (Or.inr ⟨h0, h⟩) (br_t rfl (br_f h0 (br_t h ⟨rfl, J⟩)))
  · have vj : vp_in (nI j) 32 := vp_in_nI (by omega) (by omega)
    exact x_idx1 hj (by omega) (br_f mt_n10 ⟨vj, br_f (nI_pos (by omega)) (br_f (nI_ge hj (by omega)) ⟨vj, rfl, J⟩)⟩)
theorem i_vc_vertexY {k : Nat} {u : SX} {v : SY} (I : i_Rel k u v) (hk : k + 3 ≤ 1537) (v1 : Int32) : wpX_vertexY (fun r => wpY_vertexY (fun r' => r' = r ∧ i_Rel (k + 3) u v) v v1) u v1 := by
  have J := I
  obtain ⟨c, n, st, tr, xs, ys, kd, fc, mc, lc, rg, rfl, rfl, h4, h32, hnc, hB, hR⟩ := I
  unfold wpX_vertexY wpY_vertexY
  dsimp only
  rcases mt_ix v1 (show n ≤ 32 by omega) with h | ⟨h0, h⟩ | ⟨j, hj, rfl⟩
  · exact x_idx0 (Or.inl h) (br_t rfl (br_t h ⟨rfl, J⟩))
  · exact x_idx0 (Or.inr ⟨h0, h⟩) (br_t rfl (br_f h0 (br_t h ⟨rfl, J⟩)))
  · have vj : vp_in (nI j) 32 := vp_in_nI (by omega) (by omega)
    exact x_idx1 hj (by omega) (br_f mt_n10 ⟨vj, br_f (nI_pos (by omega)) (br_f (nI_ge hj (by omega)) ⟨vj, rfl, J⟩)⟩)
theorem i_vc_area2 {k : Nat} {u : SX} {v : SY} (I : i_Rel k u v) (hk : k + 3 ≤ 1537) : wpX_area2 (fun r => wpY_area2 (fun r' => r' = r ∧ i_Rel (k + 3) u v) v) u := by
  have J := I
  obtain ⟨c, n, st, tr, xs, ys, kd, fc, mc, lc, rg, rfl, rfl, h4, h32, hnc, hB, hR⟩ := I
  exact x_area (by omega) (y_area (by omega) ⟨rfl, J⟩)
theorem i_vc_vertexKind {k : Nat} {u : SX} {v : SY} (I : i_Rel k u v) (hk : k + 3 ≤ 1537) (v1 : Int32) : wpX_vertexKind (fun r => wpY_vertexKind (fun r' => r' = r ∧ i_Rel (k + 3) u v) v v1) u v1 := by
  have J := I
  obtain ⟨c, n, st, tr, xs, ys, kd, fc, mc, lc, rg, rfl, rfl, h4, h32, hnc, hB, hR⟩ := I
  unfold wpX_vertexKind wpY_vertexKind
  dsimp only
  by_cases hs : st = 1
  · refine br_t hs ?_
    obtain ⟨r1, r2, r3, _⟩ := hR hs
    rcases mt_ix v1 (show n ≤ 32 by omega) with h | ⟨h0, h⟩ | ⟨j, hj, rfl⟩
    · exact x_idx0 (Or.inl h) (br_t rfl (br_t hs (br_t h ⟨rfl, J⟩)))
    · exact x_idx0 (Or.inr ⟨h0, h⟩) (br_t rfl (br_t hs (br_f h0 (br_f (Int32.not_lt.mpr h) ⟨rfl, J⟩))))
    · have vj : vp_in (nI j) 32 := vp_in_nI (by omega) (by omega)
      have cj := nI_clamp (show j < 2 ^ 31 by omega)
      refine x_idx1 hj (by omega) (br_f mt_n10 ⟨vj, br_t hs (br_f (nI_pos (by omega)) (br_t (nI_lt hj (by omega)) (y_kind hj (by omega) ⟨?_, J⟩)))⟩)
      rw [cj, r3 j hj]
  · exact br_f hs (br_f hs ⟨rfl, J⟩)
theorem i_vc_kindCount {k : Nat} {u : SX} {v : SY} (I : i_Rel k u v) (hk : k + 3 ≤ 1537) (v1 : Int32) : wpX_kindCount (fun r => wpY_kindCount (fun r' => r' = r ∧ i_Rel (k + 3) u v) v v1) u v1 := by
  have J := I
  obtain ⟨c, n, st, tr, xs, ys, kd, fc, mc, lc, rg, rfl, rfl, h4, h32, hnc, hB, hR⟩ := I
  unfold wpX_kindCount wpY_kindCount
  dsimp only
  by_cases hs : st = 1
  · obtain ⟨r1, r2, r3, _⟩ := hR hs
    by_cases h1 : v1 < 1
    · exact br_t hs (br_t h1 (br_t hs (br_t h1 ⟨rfl, J⟩)))
    · by_cases h5 : v1 ≤ 5
      · exact br_t hs (br_f h1 (br_t h5 ⟨n + 1, x_kc_l (by omega) r3 (br_t hs (br_f h1 (br_t h5 ⟨n + 1, y_kc_l (by omega) ⟨rfl, J⟩ n 0 (by omega)⟩))) n 0 (by omega)⟩))
      · exact br_t hs (br_f h1 (br_f h5 (br_t hs (br_f h1 (br_f h5 ⟨rfl, J⟩)))))
  · exact br_f hs (br_f hs ⟨rfl, J⟩)
theorem i_vc_triangleCount {k : Nat} {u : SX} {v : SY} (I : i_Rel k u v) (hk : k + 3 ≤ 1537) : wpX_triangleCount (fun r => wpY_triangleCount (fun r' => r' = r ∧ i_Rel (k + 3) u v) v) u := by
  have J := I
  obtain ⟨c, n, st, tr, xs, ys, kd, fc, mc, lc, rg, rfl, rfl, h4, h32, hnc, hB, hR⟩ := I
  unfold wpX_triangleCount wpY_triangleCount
  dsimp only
  by_cases hs : st = 1
  · obtain ⟨r1, r2, r3, m, e, e2, _⟩ := hR hs
    refine br_t hs (br_t hs ⟨?_, J⟩)
    have z : nI n - nI 2 = nI (n - 2) := mt_subn (by omega)
    rw [e, show m = n - 2 by omega, ← z]
    rfl
  · exact br_f hs (br_f hs ⟨rfl, J⟩)
theorem i_vc_triangleAreaSum {k : Nat} {u : SX} {v : SY} (I : i_Rel k u v) (hk : k + 3 ≤ 1537) : wpX_triangleAreaSum (fun r => wpY_triangleAreaSum (fun r' => r' = r ∧ i_Rel (k + 3) u v) v) u := by
  have J := I
  obtain ⟨c, n, st, tr, xs, ys, kd, fc, mc, lc, rg, rfl, rfl, h4, h32, hnc, hB, hR⟩ := I
  unfold wpX_triangleAreaSum wpY_triangleAreaSum
  dsimp only
  by_cases hs : st = 1
  · obtain ⟨r1, r2, r3, m, e, e2, e3, e4⟩ := hR hs
    subst e
    have hA := mt_Acy xs ys (show 1 ≤ n by omega)
    have sA := mt_Asm hB (show n ≤ 32 by omega)
    have q := mt_0le sA
    refine br_t hs ⟨m + 1, x_sum_l (by omega) (by omega) hB e3 (br_t hs (y_area (by omega) (br_c (fun g => ⟨?_, J⟩) (fun g => ⟨?_, J⟩)))) m 0 (by omega)⟩
    · have g' := q.mp g
      rw [e4, ← hA]
      unfold mt_ab
      rw [if_neg (by omega)]
    · have g' : ¬ 0 ≤ mt_A xs ys n n := fun z => g (q.mpr z)
      rw [e4, ← hA, mt_neg]
      unfold mt_ab
      rw [if_pos (by omega)]
  · exact br_f hs (br_f hs ⟨rfl, J⟩)
end
section
/-! triangulate, locate, isDiagonal -/
theorem mt_simp {xs ys : Nat → Int32} {n : Nat} (h3 : 3 ≤ n) (nr : ¬ ∃ a b, a < b ∧ b < n ∧ mt_rep xs ys a b) (nf : ¬ ∃ k, k < n ∧ mt_fo xs ys n k) (nm : ¬ ∃ a b, a < b ∧ b < n ∧ mt_me xs ys n a b) : gm_simp (mt_p xs ys) 0 (n - 1) := by
  have r : ∀ a b, a < b → b ≤ n - 1 → mt_p xs ys a ≠ mt_p xs ys b := by
    intro a b h1 h2 e
    have e1 : (xs a).toInt = (xs b).toInt := congrArg Prod.fst e
    have e2 : (ys a).toInt = (ys b).toInt := congrArg Prod.snd e
    exact nr ⟨a, b, h1, by omega, Int32.toInt_inj.mp e1, Int32.toInt_inj.mp e2⟩
  refine gm_simpI (by omega) (fun a b ha hb ne => ?_) (fun k hk z => nf ⟨k, by omega, z⟩) (fun a b h1 h2 h4 h5 m => nm ⟨a, b, h1, by omega, ⟨h4, h5⟩, m⟩)
  rcases (show a < b ∨ b < a by omega) with h | h
  · exact r a b h hb
  · exact fun e => r b a h ha e.symm
theorem i_vc_triangulate {k : Nat} {u : SX} {v : SY} (I : i_Rel k u v) (hk : k + 3 ≤ 1537) : wpX_triangulate (fun r u' => wpY_triangulate (fun r' v' => r' = r ∧ i_Rel (k + 3) u' v') v) u := by
  obtain ⟨c, n, st, tr, xs, ys, kd, fc, mc, lc, rg, rfl, rfl, h4, h32, hnc, hB, hR⟩ := I
  have J : i_Rel (k + 3) (nI c, st, nI n, tr, xs, ys, kd, fc, mc, lc, rg) (nI c, nI n, st, xs, ys) := ⟨c, n, st, tr, xs, ys, kd, fc, mc, lc, rg, rfl, rfl, h4, h32, hnc, hB, hR⟩
  have J2 : i_Rel (k + 3) (nI c, 2, nI n, tr, xs, ys, kd, fc, mc, lc, rg) (nI c, nI n, 2, xs, ys) := mt_mk0 h4 h32 hnc hB mt_n21
  have hn : n ≤ 32 := by omega
  have n20 : ¬ (2 : Int32) = 0 := by decide
  have n30 : ¬ (3 : Int32) = 0 := by decide
  have n40 : ¬ (4 : Int32) = 0 := by decide
  unfold wpX_triangulate wpY_triangulate
  dsimp only
  by_cases hs : st = 0
  · refine br_t hs ?_
    by_cases h3 : 3 ≤ n
    · have h3' : (3 : Int32) ≤ nI n := nI_le (a := 3) h3 (by omega)
      have bad : (∃ k, k < n ∧ mt_fo xs ys n k) ∨ (∃ a b, a < b ∧ b < n ∧ mt_me xs ys n a b) → (¬ ∃ a b, a < b ∧ b < n ∧ mt_rep xs ys a b) → ∃ n26 : Nat, wY_triangulate_26 (fun r' v' => r' = 4 ∧ i_Rel (k + 3) (nI c, 2, nI n, tr, xs, ys, kd, fc, mc, lc, rg) v') (nI c) (nI n) st xs ys n26 0 := by
        intro b nr
        refine y_judge hn hB (fun z => absurd z nr) (fun _ _ => ⟨rfl, J2⟩) (fun _ nf nm => ?_)
        rcases b with b | b
        · exact absurd b nf
        · exact absurd b nm
      refine br_t h3' (x_rep hn (fun ex => br_f mt_n10 ?_) (fun nr => br_t rfl (x_fo hn hB (fun ex => br_f mt_n10 ?_) (fun nf => br_t rfl (x_me hn hB (fun ex => br_f mt_n10 ?_) (fun nm => br_t rfl ?_))))))
      · unfold wX_triangulate_52
        exact br_f n30 (br_t hs (br_t h3' (y_judge hn hB (fun _ => ⟨rfl, J2⟩) (fun z => absurd ex z) (fun z => absurd ex z))))
      · unfold wX_triangulate_50 wX_triangulate_52
        exact br_f n40 (br_t hs (br_t h3' (bad (Or.inl ex) nr)))
      · unfold wX_triangulate_50 wX_triangulate_52
        exact br_f n40 (br_t hs (br_t h3' (bad (Or.inr ex) nr)))
      · have sp := mt_simp h3 nr nf nm
        unfold wX_triangulate_52
        refine br_t rfl (x_kinds hn (fun kd' hk' => ?_))
        refine x_cuts h3 hn hB sp (mt_Acy xs ys (by omega)) (mt_Asm hB hn) (fun fc' mc' lc' rg' m hT hm hV => ?_)
        refine br_t hs (br_t h3' (y_judge hn hB (fun z => absurd z nr) (fun _ z => ?_) (fun _ _ _ => ⟨rfl, ?_⟩)))
        · rcases z with z | z
          · exact absurd z nf
          · exact absurd z nm
        · exact ⟨c, n, 1, nI m, xs, ys, kd', fc', mc', lc', rg', rfl, rfl, h4, h32, hnc, hB, fun _ => ⟨h3, sp, hk', m, rfl, hm, hV, hT⟩⟩
    · have h3' : ¬ (3 : Int32) ≤ nI n := nI_ge (b := 3) (by omega) (by omega)
      refine br_f h3' ?_
      unfold wX_triangulate_52
      exact br_f n20 (br_t hs (br_f h3' ⟨rfl, J2⟩))
  · exact br_f hs (br_f hs ⟨rfl, J⟩)
theorem i_vc_locate {k : Nat} {u : SX} {v : SY} (I : i_Rel k u v) (hk : k + 3 ≤ 1537) (v1 : Int32) (v2 : Int32) : wpX_locate (fun r => wpY_locate (fun r' => r' = r ∧ i_Rel (k + 3) u v) v v1 v2) u v1 v2 := by
  have J := I
  obtain ⟨c, n, st, tr, xs, ys, kd, fc, mc, lc, rg, rfl, rfl, h4, h32, hnc, hB, hR⟩ := I
  have hn : n ≤ 32 := by omega
  unfold wpX_locate wpY_locate
  dsimp only
  by_cases hs : st = 1
  · refine br_t hs (x_inb (fun hb => br_f mt_n10 ?_) (fun hb => br_t rfl (br_t hs (mt_bnd (fun z => absurd z hb) (fun _ => ⟨rfl, J⟩)))))
    have bb : (-1000 ≤ v1.toInt ∧ v1.toInt ≤ 1000) ∧ (-1000 ≤ v2.toInt ∧ v2.toInt ≤ 1000) := hb
    have dbl : ∀ x : Int32, 2 * x = mt_c (2 * x.toInt) := by
      intro x
      rw [mt_2, ← mt_mul, mt_cT]
    have yw : ∀ post : Int32 → Prop, (¬ mt_c (mt_wn (mt_p xs ys) n (2 * v1.toInt) (2 * v2.toInt) n) = 0 → post 3) → (mt_c (mt_wn (mt_p xs ys) n (2 * v1.toInt) (2 * v2.toInt) n) = 0 → post 1) → wpY_winding (fun r => (r = 0 → post 1) ∧ (¬ r = 0 → post 3)) (nI c, nI n, st, xs, ys) v1 v2 1 := by
      intro post p3 p1
      have w := y_wind (cp := nI c) (st := st) (post := fun r => (r = 0 → post 1) ∧ (¬ r = 0 → post 3)) (PX := v1.toInt) (PY := v2.toInt) (sc := 1) hn hB (Or.inl ⟨rfl, rfl, rfl⟩) (by omega) (by omega) (by omega) (by omega) (fun z => br_f mt_n10 (p3 z)) (fun z => br_t rfl (p1 z))
      rw [mt_cT, mt_cT, ← mt_1] at w
      exact w
    refine ⟨n + 1, x_bd_l hn hB hb n 0 (by omega) (fun ex => br_f mt_n10 (br_t hs (mt_bnd (fun _ => ⟨n + 1, y_bd_l hn hB hb n 0 (by omega) (fun _ => ⟨rfl, J⟩) (fun z => absurd ex z)⟩) (fun z => absurd hb z)))) (fun nex => br_t rfl ?_)⟩
    rw [dbl v1, dbl v2]
    refine x_wind hn hB (by omega) (by omega) (by omega) (by omega) (fun w => br_f mt_n10 ?_) (fun w => br_t rfl ?_)
    · exact br_t hs (mt_bnd (fun _ => ⟨n + 1, y_bd_l hn hB hb n 0 (by omega) (fun z => absurd z nex) (fun _ => yw (fun r' => r' = 3 ∧ i_Rel (k + 3) (nI c, st, nI n, tr, xs, ys, kd, fc, mc, lc, rg) (nI c, nI n, st, xs, ys)) (fun _ => ⟨rfl, J⟩) (fun z => absurd z w))⟩) (fun z => absurd hb z))
    · exact br_t hs (mt_bnd (fun _ => ⟨n + 1, y_bd_l hn hB hb n 0 (by omega) (fun z => absurd z nex) (fun _ => yw (fun r' => r' = 1 ∧ i_Rel (k + 3) (nI c, st, nI n, tr, xs, ys, kd, fc, mc, lc, rg) (nI c, nI n, st, xs, ys)) (fun z => absurd w z) (fun _ => ⟨rfl, J⟩))⟩) (fun z => absurd hb z))
  · exact br_f hs (br_f hs ⟨rfl, J⟩)
theorem i_vc_isDiagonal {k : Nat} {u : SX} {v : SY} (I : i_Rel k u v) (hk : k + 3 ≤ 1537) (v1 : Int32) (v2 : Int32) : wpX_isDiagonal (fun r => wpY_isDiagonal (fun r' => r' = r ∧ i_Rel (k + 3) u v) v v1 v2) u v1 v2 := by
  have J := I
  obtain ⟨c, n, st, tr, xs, ys, kd, fc, mc, lc, rg, rfl, rfl, h4, h32, hnc, hB, hR⟩ := I
  have hn : n ≤ 32 := by omega
  unfold wpX_isDiagonal wpY_isDiagonal
  dsimp only
  by_cases hs : st = 1
  · refine br_t hs ?_
    obtain ⟨r1, r2, _, _⟩ := hR hs
    rcases mt_ix v1 hn with h | ⟨h0, h⟩ | ⟨a, ha, rfl⟩
    · exact x_idx0 (Or.inl h) (br_t rfl (br_t hs (br_t h ⟨rfl, J⟩)))
    · exact x_idx0 (Or.inr ⟨h0, h⟩) (br_t rfl (br_t hs (br_f h0 (br_t h ⟨rfl, J⟩))))
    · have a0 : ¬ nI a < 0 := nI_pos (by omega)
      have a1 : ¬ nI n ≤ nI a := nI_ge ha (by omega)
      refine x_idx1 ha hn (br_f mt_n10 ?_)
      rcases mt_ix v2 hn with h | ⟨h0, h⟩ | ⟨b, hb, rfl⟩
      · exact x_idx0 (Or.inl h) (br_t rfl (br_t hs (br_f a0 (br_f a1 (br_t h ⟨rfl, J⟩)))))
      · exact x_idx0 (Or.inr ⟨h0, h⟩) (br_t rfl (br_t hs (br_f a0 (br_f a1 (br_f h0 (br_f (Int32.not_lt.mpr h) ⟨rfl, J⟩))))))
      · have b0 : ¬ nI b < 0 := nI_pos (by omega)
        have b1 : nI b < nI n := nI_lt hb (by omega)
        refine x_idx1 hb hn (br_f mt_n10 ?_)
        by_cases e : nI a = nI b
        · exact br_t e (br_t hs (br_f a0 (br_f a1 (br_f b0 (br_t b1 (br_t e ⟨rfl, J⟩))))))
        · refine br_f e (x_next ha hn ?_)
          by_cases e1 : nI b = nI (gm_nx 0 (n - 1) a)
          · exact br_t e1 (br_t hs (br_f a0 (br_f a1 (br_f b0 (br_t b1 (br_f e (y_nxt ha hn (br_t e1 ⟨rfl, J⟩))))))))
          · refine br_f e1 (x_next hb hn ?_)
            by_cases e2 : nI a = nI (gm_nx 0 (n - 1) b)
            · exact br_t e2 (br_t hs (br_f a0 (br_f a1 (br_f b0 (br_t b1 (br_f e (y_nxt ha hn (br_f e1 (y_nxt hb hn (br_t e2 ⟨rfl, J⟩))))))))))
            · have nab : a ≠ b := fun z => e (by rw [z])
              have va : vp_in (nI a) 32 := vp_in_nI (by omega) (by omega)
              have vb : vp_in (nI b) 32 := vp_in_nI (by omega) (by omega)
              have ca := nI_clamp (show a < 2 ^ 31 by omega)
              have cb := nI_clamp (show b < 2 ^ 31 by omega)
              have Ba : (-1000 ≤ (xs a).toInt ∧ (xs a).toInt ≤ 1000) ∧ (-1000 ≤ (ys a).toInt ∧ (ys a).toInt ≤ 1000) := hB a ha
              have Bb : (-1000 ≤ (xs b).toInt ∧ (xs b).toInt ≤ 1000) ∧ (-1000 ≤ (ys b).toInt ∧ (ys b).toInt ≤ 1000) := hB b hb
              have sX : xs a + xs b = mt_c ((xs a).toInt + (xs b).toInt) := by rw [← mt_add, mt_cT, mt_cT]
              have sY : ys a + ys b = mt_c ((ys a).toInt + (ys b).toInt) := by rw [← mt_add, mt_cT, mt_cT]
              have bl := gm_bl (f := mt_p xs ys) (j := n - 1) (a := a) (b := b) (by omega) r2 (by omega) (by omega) nab
              have yd : ∀ post : Int32 → Prop, ((∃ k, k < n ∧ gm_blY (mt_p xs ys) (n - 1) a b k) → post 0) → ((¬ ∃ k, k < n ∧ gm_blY (mt_p xs ys) (n - 1) a b k) → ¬ mt_c (mt_wn (mt_p xs ys) n ((xs a).toInt + (xs b).toInt) ((ys a).toInt + (ys b).toInt) n) = 0 → post 1) → ((¬ ∃ k, k < n ∧ gm_blY (mt_p xs ys) (n - 1) a b k) → mt_c (mt_wn (mt_p xs ys) n ((xs a).toInt + (xs b).toInt) ((ys a).toInt + (ys b).toInt) n) = 0 → post 0) → ∃ n97 : Nat, wY_isDiagonal_97 post (xs a) (ys a) (xs b) (ys b) (nI c) (nI n) st xs ys n97 0 := by
                intro post p0 p1 p2
                refine ⟨n + 1, y_bl_l ha hb hn hB n 0 (by omega) (fun ⟨k, _, q, r⟩ => p0 ⟨k, q, r⟩) (fun z => ?_)⟩
                have z' : ¬ ∃ k, k < n ∧ gm_blY (mt_p xs ys) (n - 1) a b k := fun ⟨k, q, r⟩ => z ⟨k, Nat.zero_le _, q, r⟩
                have w := y_wind (cp := nI c) (st := st) (post := fun r => narrow .boolean (.int r) = .int r ∧ post r) (PX := (xs a).toInt + (xs b).toInt) (PY := (ys a).toInt + (ys b).toInt) (sc := 2) hn hB (Or.inr ⟨rfl, rfl, rfl⟩) (by omega) (by omega) (by omega) (by omega) (fun y => ⟨rfl, p1 z' y⟩) (fun y => ⟨rfl, p2 z' y⟩)
                rw [← sX, ← sY, ← mt_2] at w
                exact w
              have Yd : ∀ r : Int32, (∃ n97 : Nat, wY_isDiagonal_97 (fun r' => r' = r ∧ i_Rel (k + 3) (nI c, st, nI n, tr, xs, ys, kd, fc, mc, lc, rg) (nI c, nI n, st, xs, ys)) (xs a) (ys a) (xs b) (ys b) (nI c) (nI n) st xs ys n97 0) → wpY_isDiagonal (fun r' => r' = r ∧ i_Rel (k + 3) (nI c, st, nI n, tr, xs, ys, kd, fc, mc, lc, rg) (nI c, nI n, st, xs, ys)) (nI c, nI n, st, xs, ys) (nI a) (nI b) := by
                intro r h
                unfold wpY_isDiagonal
                dsimp only
                exact br_t hs (br_f a0 (br_f a1 (br_f b0 (br_t b1 (br_f e (y_nxt ha hn (br_f e1 (y_nxt hb hn (br_f e2 ⟨va, nm_r (congrArg xs ca) ⟨va, nm_r (congrArg ys ca) ⟨vb, nm_r (congrArg xs cb) ⟨vb, nm_r (congrArg ys cb) h⟩⟩⟩⟩)))))))))
              refine br_f e2 (x_bl ha hb hn hB (fun ex => br_f mt_n10 ?_) (fun nex => br_t rfl ⟨va, vb, va, vb, ?_⟩))
              · have ey : ∃ k, k < n ∧ gm_blY (mt_p xs ys) (n - 1) a b k := by
                  obtain ⟨k', q, r⟩ := ex
                  obtain ⟨k'', q', r'⟩ := bl.mp ⟨k', by omega, r⟩
                  exact ⟨k'', by omega, r'⟩
                exact Yd 0 (yd _ (fun _ => ⟨rfl, J⟩) (fun z => absurd ey z) (fun z => absurd ey z))
              · have ny : ¬ ∃ k, k < n ∧ gm_blY (mt_p xs ys) (n - 1) a b k := by
                  intro ⟨k', q, r⟩
                  obtain ⟨k'', q', r'⟩ := bl.mpr ⟨k', by omega, r⟩
                  exact nex ⟨k'', by omega, r'⟩
                have eX : xs (nI a).toNatClampNeg + xs (nI b).toNatClampNeg = mt_c ((xs a).toInt + (xs b).toInt) := by rw [ca, cb, sX]
                have eY : ys (nI a).toNatClampNeg + ys (nI b).toNatClampNeg = mt_c ((ys a).toInt + (ys b).toInt) := by rw [ca, cb, sY]
                rw [eX, eY]
                refine x_wind hn hB (by omega) (by omega) (by omega) (by omega) (fun w => ⟨rfl, ?_⟩) (fun w => ⟨rfl, ?_⟩)
                · exact Yd 1 (yd _ (fun z => absurd z ny) (fun _ _ => ⟨rfl, J⟩) (fun _ z => absurd z w))
                · exact Yd 0 (yd _ (fun z => absurd z ny) (fun _ z => absurd w z) (fun _ _ => ⟨rfl, J⟩))
  · exact br_f hs (br_f hs ⟨rfl, J⟩)
end
