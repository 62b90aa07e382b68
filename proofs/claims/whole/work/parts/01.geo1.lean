/-! plane geometry over whole numbers: signs of crosses -/
abbrev gm_P : Type := Int × Int
def gm_O (a b c : gm_P) : Int := (b.1 - a.1) * (c.2 - a.2) - (b.2 - a.2) * (c.1 - a.1)
def gm_D (a b c : gm_P) : Int := (b.1 - a.1) * (c.1 - a.1) + (b.2 - a.2) * (c.2 - a.2)
def gm_S (d u p : gm_P) : Int := d.1 * (p.2 - u.2) - d.2 * (p.1 - u.1)
def gm_V (u w : gm_P) : gm_P := (w.1 - u.1, w.2 - u.2)
def gm_on (a b x : gm_P) : Prop := gm_O a b x = 0 ∧ gm_D x a b ≤ 0
def gm_opp (s t : Int) : Prop := (0 < s ∧ t < 0) ∨ (s < 0 ∧ 0 < t)
def gm_px (a b c d : gm_P) : Prop := gm_opp (gm_O a b c) (gm_O a b d) ∧ gm_opp (gm_O c d a) (gm_O c d b)
def gm_in (a v c x : gm_P) : Prop := 0 ≤ gm_O a v x ∧ 0 ≤ gm_O v c x ∧ 0 ≤ gm_O c a x
def gm_om (α β g : Int) : Int :=
  if 0 < α then (if 0 < β then 0 else if g < 0 then -1 else 0)
  else (if 0 < β then (if 0 < g then 1 else 0) else 0)
def gm_h (b e : Int) : Int := if 0 < b then (if 0 < e then 0 else 1) else 0
def gm_b (x : Int) : Int := if 0 < x then 1 else 0
def gm_Om (d u p q : gm_P) : Int := gm_om (gm_S d u p) (gm_S d u q) (gm_O u p q)

theorem gm_sg (x y : Int) : (0 < x ∧ 0 < y ∧ 0 < x * y) ∨ (0 < x ∧ y < 0 ∧ x * y < 0) ∨ (x < 0 ∧ 0 < y ∧ x * y < 0) ∨ (x < 0 ∧ y < 0 ∧ 0 < x * y) ∨ (x = 0 ∧ x * y = 0) ∨ (y = 0 ∧ x * y = 0) := by
  rcases Int.lt_trichotomy x 0 with hx | hx | hx
  · rcases Int.lt_trichotomy y 0 with hy | hy | hy
    · exact Or.inr (Or.inr (Or.inr (Or.inl ⟨hx, hy, Int.mul_pos_of_neg_of_neg hx hy⟩)))
    · exact Or.inr (Or.inr (Or.inr (Or.inr (Or.inr ⟨hy, by rw [hy, Int.mul_zero]⟩))))
    · exact Or.inr (Or.inr (Or.inl ⟨hx, hy, Int.mul_neg_of_neg_of_pos hx hy⟩))
  · exact Or.inr (Or.inr (Or.inr (Or.inr (Or.inl ⟨hx, by rw [hx, Int.zero_mul]⟩))))
  · rcases Int.lt_trichotomy y 0 with hy | hy | hy
    · exact Or.inr (Or.inl ⟨hx, hy, Int.mul_neg_of_pos_of_neg hx hy⟩)
    · exact Or.inr (Or.inr (Or.inr (Or.inr (Or.inr ⟨hy, by rw [hy, Int.mul_zero]⟩))))
    · exact Or.inl ⟨hx, hy, Int.mul_pos hx hy⟩
theorem gm_sq (x y : Int) : 0 ≤ x * x + y * y := by
  have := gm_sg x x
  have := gm_sg y y
  omega
theorem gm_sqp {x y : Int} (h : ¬ (x = 0 ∧ y = 0)) : 0 < x * x + y * y := by
  have := gm_sg x x
  have := gm_sg y y
  omega
/-- vectors: the three-term relation -/
theorem gm_gp (d1 d2 e1 e2 p1 p2 q1 q2 : Int) : (d1 * e2 - d2 * e1) * (p1 * q2 - p2 * q1) - (d1 * p2 - d2 * p1) * (e1 * q2 - e2 * q1) + (d1 * q2 - d2 * q1) * (e1 * p2 - e2 * p1) = 0 := by
  grind
theorem gm_id1 (d1 d2 p1 p2 q1 q2 : Int) : (d1 * q2 - d2 * q1) * (p1 * p1 + p2 * p2) = (p1 * q1 + p2 * q2) * (d1 * p2 - d2 * p1) + (p1 * q2 - p2 * q1) * (d1 * p1 + d2 * p2) := by
  grind
theorem gm_id2 (p1 p2 q1 q2 : Int) : (p1 * q1 + p2 * q2) * (p1 * q1 + p2 * q2) + (p1 * q2 - p2 * q1) * (p1 * q2 - p2 * q1) = (p1 * p1 + p2 * p2) * (q1 * q1 + q2 * q2) := by
  grind
theorem gm_id3 (d1 d2 p1 p2 q1 q2 : Int) : p1 * (d1 * q2 - d2 * q1) = q1 * (d1 * p2 - d2 * p1) + d1 * (p1 * q2 - p2 * q1) := by
  grind
theorem gm_id4 (d1 d2 p1 p2 q1 q2 : Int) : p2 * (d1 * q2 - d2 * q1) = q2 * (d1 * p2 - d2 * p1) + d2 * (p1 * q2 - p2 * q1) := by
  grind
/-- same ray: same side of every line through the apex -/
theorem gm_col1 {d1 d2 p1 p2 q1 q2 : Int} (h : p1 * q2 - p2 * q1 = 0) (k : 0 < p1 * q1 + p2 * q2) : (0 < d1 * p2 - d2 * p1 → 0 < d1 * q2 - d2 * q1) ∧ (d1 * p2 - d2 * p1 < 0 → d1 * q2 - d2 * q1 < 0) := by
  have e := gm_id1 d1 d2 p1 p2 q1 q2
  rw [h, Int.zero_mul, Int.add_zero] at e
  have s1 := gm_sg (d1 * q2 - d2 * q1) (p1 * p1 + p2 * p2)
  have s2 := gm_sg (p1 * q1 + p2 * q2) (d1 * p2 - d2 * p1)
  have s3 := gm_sq p1 p2
  generalize (d1 * q2 - d2 * q1) * (p1 * p1 + p2 * p2) = X at *
  generalize (p1 * q1 + p2 * q2) * (d1 * p2 - d2 * p1) = Y at *
  generalize d1 * q2 - d2 * q1 = x at *
  generalize p1 * p1 + p2 * p2 = y at *
  generalize p1 * q1 + p2 * q2 = z at *
  generalize d1 * p2 - d2 * p1 = t at *
  omega
/-- collinear with the apex, seen on two sides of a line through it: the apex lies between -/
theorem gm_col2 {d1 d2 p1 p2 q1 q2 : Int} (h : p1 * q2 - p2 * q1 = 0) (k1 : d1 * p2 - d2 * p1 < 0) (k2 : 0 < d1 * q2 - d2 * q1) : p1 * q1 + p2 * q2 ≤ 0 := by
  have e := gm_id1 d1 d2 p1 p2 q1 q2
  rw [h, Int.zero_mul, Int.add_zero] at e
  have s1 := gm_sg (d1 * q2 - d2 * q1) (p1 * p1 + p2 * p2)
  have s2 := gm_sg (p1 * q1 + p2 * q2) (d1 * p2 - d2 * p1)
  have s3 := gm_sq p1 p2
  generalize (d1 * q2 - d2 * q1) * (p1 * p1 + p2 * p2) = X at *
  generalize (p1 * q1 + p2 * q2) * (d1 * p2 - d2 * p1) = Y at *
  generalize d1 * q2 - d2 * q1 = x at *
  generalize p1 * p1 + p2 * p2 = y at *
  generalize p1 * q1 + p2 * q2 = z at *
  generalize d1 * p2 - d2 * p1 = t at *
  omega
/-! crosses of points -/
theorem gm_Oc (a b c : gm_P) : gm_O a b c = gm_O b c a := by unfold gm_O; grind
theorem gm_Os (a b c : gm_P) : gm_O a b c = - gm_O b a c := by unfold gm_O; grind
theorem gm_O1 (a b : gm_P) : gm_O a a b = 0 := by unfold gm_O; grind
theorem gm_O2 (a b : gm_P) : gm_O a b a = 0 := by unfold gm_O; grind
theorem gm_O3 (a b : gm_P) : gm_O a b b = 0 := by unfold gm_O; grind
theorem gm_O4 (u a b c : gm_P) : gm_O a b c = gm_O u a b + gm_O u b c + gm_O u c a := by unfold gm_O; grind
theorem gm_Ds (a b c : gm_P) : gm_D a b c = gm_D a c b := by unfold gm_D; grind
/-- from u: four directions -/
theorem gm_G (u d e p q : gm_P) : gm_O u d e * gm_O u p q - gm_O u d p * gm_O u e q + gm_O u d q * gm_O u e p = 0 :=
  gm_gp (d.1 - u.1) (d.2 - u.2) (e.1 - u.1) (e.2 - u.2) (p.1 - u.1) (p.2 - u.2) (q.1 - u.1) (q.2 - u.2)
/-- the point where two lines meet, under an affine function -/
theorem gm_I (a b p q v z : gm_P) : gm_O p q v * gm_O a b z - gm_O p q z * gm_O a b v + gm_O v z p * gm_O a b q - gm_O v z q * gm_O a b p = 0 := by
  unfold gm_O; grind
/-- barycentric -/
theorem gm_B (a b p q r x : gm_P) : gm_O p q r * gm_O a b x = gm_O q r x * gm_O a b p + gm_O r p x * gm_O a b q + gm_O p q x * gm_O a b r := by
  unfold gm_O; grind
theorem gm_SV (u w p : gm_P) : gm_S (gm_V u w) u p = gm_O u w p := rfl
theorem gm_SV' (u w p : gm_P) : gm_S (gm_V u w) w p = gm_O u w p := by unfold gm_S gm_V gm_O; grind
theorem gm_R2 (u u' p q : gm_P) : gm_O u' p q = gm_O u p q + gm_O u u' p - gm_O u u' q := by unfold gm_O; grind
theorem gm_on_s {a b x : gm_P} (h : gm_on a b x) : gm_on b a x :=
  ⟨by have := gm_Os b a x; have := h.1; omega, by rw [gm_Ds]; exact h.2⟩
theorem gm_px_s1 {a b c d : gm_P} (h : gm_px a b c d) : gm_px b a c d := by
  have e1 := gm_Os b a c
  have e2 := gm_Os b a d
  unfold gm_px gm_opp at *
  omega
theorem gm_px_s2 {a b c d : gm_P} (h : gm_px a b c d) : gm_px a b d c := by
  have e1 := gm_Os d c a
  have e2 := gm_Os d c b
  unfold gm_px gm_opp at *
  omega
theorem gm_px_s {a b c d : gm_P} (h : gm_px a b c d) : gm_px c d a b := ⟨h.2, h.1⟩
