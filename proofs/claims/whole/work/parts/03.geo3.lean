/-! triangles -/
theorem gm_t0 {α τ γ x y z : Int} (r : α * y + τ * z + γ * x = 0) (hs : 0 < x + y + z) (ho : x < 0 ∨ y < 0 ∨ z < 0) : gm_om α τ x + gm_om τ γ y + gm_om γ α z = 0 := by
  have h1 := gm_sg α y
  have h2 := gm_sg τ z
  have h3 := gm_sg γ x
  generalize α * y = X at *
  generalize τ * z = Y at *
  generalize γ * x = Z at *
  unfold gm_om
  repeat' split
  all_goals omega
/-- a triangle doesn't wind around a point outside -/
theorem gm_T0 {a t c u : gm_P} (d : gm_P) (h : 0 < gm_O a t c) (ho : ¬ gm_in a t c u) : gm_Om d u a t + gm_Om d u t c + gm_Om d u c a = 0 := by
  refine gm_t0 (α := gm_S d u a) (τ := gm_S d u t) (γ := gm_S d u c) ?_ ?_ ?_
  · unfold gm_S gm_O; grind
  · rw [← gm_O4]; exact h
  · have e1 := gm_Oc u a t
    have e2 := gm_Oc u t c
    have e3 := gm_Oc u c a
    unfold gm_in at ho
    omega
theorem gm_px_or {v z p q : gm_P} (h : gm_px v z p q) : (0 < gm_O v z p ∧ gm_O v z q < 0 ∧ gm_O p q v < 0 ∧ 0 < gm_O p q z) ∨ (gm_O v z p < 0 ∧ 0 < gm_O v z q ∧ 0 < gm_O p q v ∧ gm_O p q z < 0) := by
  have e : gm_O v z p - gm_O v z q = - (gm_O p q v - gm_O p q z) := by unfold gm_O; grind
  unfold gm_px gm_opp at h
  omega
/-- an edge over the segment v z, with an end outside beyond: it crosses a side at v; p on the left -/
theorem gm_CRl {a v c z p q : gm_P} (hT : 0 < gm_O a v c) (z1 : 0 < gm_O a v z) (z2 : 0 < gm_O v c z) (z3 : 0 ≤ gm_O c a z) (x1 : 0 < gm_O v z p) (x2 : gm_O v z q < 0) (x3 : gm_O p q v < 0) (x4 : 0 < gm_O p q z) (hp : 0 < gm_O c a p) (ho : gm_O a v p < 0 ∨ gm_O v c p < 0) : gm_px a v p q := by
  have s2 : gm_O a v p < 0 := by
    refine Classical.byContradiction fun n => ?_
    have o2 : gm_O v c p < 0 := by omega
    have g := gm_G v c z a p
    have e1 : gm_O v a p = - gm_O a v p := by unfold gm_O; grind
    have e2 : gm_O v c a = gm_O a v c := by unfold gm_O; grind
    have e3 : gm_O v z a = gm_O a v z := by unfold gm_O; grind
    rw [e1, e2, e3] at g
    have t1 := gm_sg (gm_O v c z) (- gm_O a v p)
    have t2 := gm_sg (gm_O a v c) (gm_O v z p)
    have t3 := gm_sg (gm_O v c p) (gm_O a v z)
    generalize gm_O v c z * (- gm_O a v p) = X at *
    generalize gm_O a v c * gm_O v z p = Y at *
    generalize gm_O v c p * gm_O a v z = Z at *
    clear e1 e2 e3
    omega
  have s3 : 0 < gm_O a v q := by
    have i := gm_I a v p q v z
    rw [gm_O3, Int.mul_zero] at i
    have t1 := gm_sg (gm_O p q v) (gm_O a v z)
    have t2 := gm_sg (gm_O v z p) (gm_O a v q)
    have t3 := gm_sg (gm_O v z q) (gm_O a v p)
    generalize gm_O p q v * gm_O a v z = X at *
    generalize gm_O v z p * gm_O a v q = Y at *
    generalize gm_O v z q * gm_O a v p = Z at *
    omega
  have s4 : 0 < gm_O p q a := by
    refine Classical.byContradiction fun n => ?_
    have g := gm_G p a v z q
    have e1 : gm_O p a v = gm_O a v p := by unfold gm_O; grind
    have e2 : gm_O p z q = - gm_O p q z := by unfold gm_O; grind
    have e3 : gm_O p v q = - gm_O p q v := by unfold gm_O; grind
    have e4 : gm_O p a q = - gm_O p q a := by unfold gm_O; grind
    have e5 : gm_O p v z = gm_O v z p := by unfold gm_O; grind
    rw [e1, e2, e3, e4, e5] at g
    have k : 0 < gm_O p a z := by
      have t1 := gm_sg (gm_O a v p) (- gm_O p q z)
      have t2 := gm_sg (gm_O p a z) (- gm_O p q v)
      have t3 := gm_sg (- gm_O p q a) (gm_O v z p)
      generalize gm_O a v p * (- gm_O p q z) = X at *
      generalize gm_O p a z * (- gm_O p q v) = Y at *
      generalize (- gm_O p q a) * gm_O v z p = Z at *
      clear e1 e2 e3 e4 e5
      omega
    have b := gm_B c a a v z p
    rw [gm_O3, Int.mul_zero] at b
    have f1 : gm_O z a p = - gm_O p a z := by unfold gm_O; grind
    have f2 : gm_O c a v = gm_O a v c := by unfold gm_O; grind
    rw [f1, f2] at b
    have t1 := gm_sg (gm_O a v z) (gm_O c a p)
    have t2 := gm_sg (- gm_O p a z) (gm_O a v c)
    have t3 := gm_sg (gm_O a v p) (gm_O c a z)
    generalize gm_O a v z * gm_O c a p = X at *
    generalize (- gm_O p a z) * gm_O a v c = Y at *
    generalize gm_O a v p * gm_O c a z = Z at *
    clear e1 e2 e3 e4 e5 f1 f2 g
    omega
  exact ⟨Or.inr ⟨s2, s3⟩, Or.inl ⟨s4, x3⟩⟩
theorem gm_CRr {a v c z p q : gm_P} (hT : 0 < gm_O a v c) (z1 : 0 < gm_O a v z) (z2 : 0 < gm_O v c z) (z3 : 0 ≤ gm_O c a z) (x1 : gm_O v z p < 0) (x2 : 0 < gm_O v z q) (x3 : 0 < gm_O p q v) (x4 : gm_O p q z < 0) (hp : 0 < gm_O c a p) (ho : gm_O a v p < 0 ∨ gm_O v c p < 0) : gm_px v c p q := by
  have s2 : gm_O v c p < 0 := by
    refine Classical.byContradiction fun n => ?_
    have o2 : gm_O a v p < 0 := by omega
    have g := gm_G v c z a p
    have e1 : gm_O v a p = - gm_O a v p := by unfold gm_O; grind
    have e2 : gm_O v c a = gm_O a v c := by unfold gm_O; grind
    have e3 : gm_O v z a = gm_O a v z := by unfold gm_O; grind
    rw [e1, e2, e3] at g
    have t1 := gm_sg (gm_O v c z) (- gm_O a v p)
    have t2 := gm_sg (gm_O a v c) (gm_O v z p)
    have t3 := gm_sg (gm_O v c p) (gm_O a v z)
    generalize gm_O v c z * (- gm_O a v p) = X at *
    generalize gm_O a v c * gm_O v z p = Y at *
    generalize gm_O v c p * gm_O a v z = Z at *
    clear e1 e2 e3
    omega
  have s3 : 0 < gm_O v c q := by
    have i := gm_I v c p q v z
    rw [gm_O2, Int.mul_zero] at i
    have t1 := gm_sg (gm_O p q v) (gm_O v c z)
    have t2 := gm_sg (gm_O v z p) (gm_O v c q)
    have t3 := gm_sg (gm_O v z q) (gm_O v c p)
    generalize gm_O p q v * gm_O v c z = X at *
    generalize gm_O v z p * gm_O v c q = Y at *
    generalize gm_O v z q * gm_O v c p = Z at *
    omega
  have s4 : gm_O p q c < 0 := by
    refine Classical.byContradiction fun n => ?_
    have g := gm_G p c v z q
    have e1 : gm_O p c v = - gm_O v c p := by unfold gm_O; grind
    have e2 : gm_O p z q = - gm_O p q z := by unfold gm_O; grind
    have e3 : gm_O p v q = - gm_O p q v := by unfold gm_O; grind
    have e4 : gm_O p c q = - gm_O p q c := by unfold gm_O; grind
    have e5 : gm_O p v z = gm_O v z p := by unfold gm_O; grind
    rw [e1, e2, e3, e4, e5] at g
    have k : gm_O p c z < 0 := by
      have t1 := gm_sg (- gm_O v c p) (- gm_O p q z)
      have t2 := gm_sg (gm_O p c z) (- gm_O p q v)
      have t3 := gm_sg (- gm_O p q c) (gm_O v z p)
      generalize (- gm_O v c p) * (- gm_O p q z) = X at *
      generalize gm_O p c z * (- gm_O p q v) = Y at *
      generalize (- gm_O p q c) * gm_O v z p = Z at *
      clear e1 e2 e3 e4 e5
      omega
    have b := gm_B c a v c z p
    rw [gm_O2, Int.mul_zero] at b
    have f1 : gm_O c z p = gm_O p c z := by unfold gm_O; grind
    have f2 : gm_O c a v = gm_O a v c := by unfold gm_O; grind
    rw [f1, f2] at b
    have t1 := gm_sg (gm_O v c z) (gm_O c a p)
    have t2 := gm_sg (gm_O p c z) (gm_O a v c)
    have t3 := gm_sg (gm_O v c p) (gm_O c a z)
    generalize gm_O v c z * gm_O c a p = X at *
    generalize gm_O p c z * gm_O a v c = Y at *
    generalize gm_O v c p * gm_O c a z = Z at *
    clear e1 e2 e3 e4 e5 f1 f2 g
    omega
  exact ⟨Or.inr ⟨s2, s3⟩, Or.inl ⟨x3, s4⟩⟩
theorem gm_CR {a v c z p q : gm_P} (hT : 0 < gm_O a v c) (z1 : 0 < gm_O a v z) (z2 : 0 < gm_O v c z) (z3 : 0 ≤ gm_O c a z) (hx : gm_px v z p q) (hp : 0 < gm_O c a p) (ho : ¬ gm_in a v c p) : gm_px a v p q ∨ gm_px v c p q := by
  have ho' : gm_O a v p < 0 ∨ gm_O v c p < 0 := by unfold gm_in at ho; omega
  rcases gm_px_or hx with ⟨x1, x2, x3, x4⟩ | ⟨x1, x2, x3, x4⟩
  · exact Or.inl (gm_CRl hT z1 z2 z3 x1 x2 x3 x4 hp ho')
  · exact Or.inr (gm_CRr hT z1 z2 z3 x1 x2 x3 x4 hp ho')
/-- one end of an edge that crosses v z is higher over c a than z, if v is higher -/
theorem gm_hi {a v c z p q : gm_P} (hv : gm_O c a z < gm_O c a v) (hx : gm_px v z p q) : gm_O c a z < gm_O c a p ∨ gm_O c a z < gm_O c a q := by
  have i := gm_I c a p q v z
  have e : gm_O v z p - gm_O v z q = - (gm_O p q v - gm_O p q z) := by unfold gm_O; grind
  have j : - (gm_O p q z * (gm_O c a v - gm_O c a z)) + gm_O v z p * (gm_O c a q - gm_O c a z) - gm_O v z q * (gm_O c a p - gm_O c a z) = 0 := by grind
  have t1 := gm_sg (gm_O p q z) (gm_O c a v - gm_O c a z)
  have t2 := gm_sg (gm_O v z p) (gm_O c a q - gm_O c a z)
  have t3 := gm_sg (gm_O v z q) (gm_O c a p - gm_O c a z)
  have hh := gm_px_or hx
  generalize gm_O p q z * (gm_O c a v - gm_O c a z) = X at *
  generalize gm_O v z p * (gm_O c a q - gm_O c a z) = Y at *
  generalize gm_O v z q * (gm_O c a p - gm_O c a z) = Z at *
  clear i e hx
  omega
/-- an edge over the third side of an ear, p on the ear's side: it crosses one of the other sides, or holds the tip -/
theorem gm_CK {a t c p q : gm_P} (hT : 0 < gm_O a t c) (x1 : 0 < gm_O c a p) (x2 : gm_O c a q < 0) (x3 : 0 < gm_O p q a) (x4 : gm_O p q c < 0) (ho : ¬ gm_in a t c p) : gm_px a t p q ∨ gm_px t c p q ∨ gm_on p q t := by
  have ho' : gm_O a t p < 0 ∨ gm_O t c p < 0 := by unfold gm_in at ho; omega
  have g := gm_G p q a t c
  have e1 : gm_O p t c = gm_O t c p := by unfold gm_O; grind
  have e2 : gm_O p a c = - gm_O c a p := by unfold gm_O; grind
  have e3 : gm_O p a t = gm_O a t p := by unfold gm_O; grind
  rw [e1, e2, e3] at g
  have t1 := gm_sg (gm_O p q a) (gm_O t c p)
  have t2 := gm_sg (gm_O p q t) (- gm_O c a p)
  have t3 := gm_sg (gm_O p q c) (gm_O a t p)
  have lt : gm_O c a t = gm_O a t c := by unfold gm_O; grind
  have i1 := gm_I c a p q a t
  rw [gm_O3, Int.mul_zero, lt] at i1
  have u1 := gm_sg (gm_O p q a) (gm_O a t c)
  have u2 := gm_sg (gm_O a t p) (gm_O c a q)
  have u3 := gm_sg (gm_O a t q) (gm_O c a p)
  have i2 := gm_I c a p q c t
  rw [gm_O2, Int.mul_zero, lt] at i2
  have f1 : gm_O c t p = - gm_O t c p := by unfold gm_O; grind
  have f2 : gm_O c t q = - gm_O t c q := by unfold gm_O; grind
  rw [f1, f2] at i2
  have w1 := gm_sg (gm_O p q c) (gm_O a t c)
  have w2 := gm_sg (- gm_O t c p) (gm_O c a q)
  have w3 := gm_sg (- gm_O t c q) (gm_O c a p)
  rcases Int.lt_trichotomy (gm_O p q t) 0 with h | h | h
  · have s1 : gm_O a t p < 0 := by
      generalize gm_O p q a * gm_O t c p = X at *
      generalize gm_O p q t * (- gm_O c a p) = Y at *
      generalize gm_O p q c * gm_O a t p = Z at *
      clear e1 e2 e3 f1 f2 lt i1 i2 u1 u2 u3 w1 w2 w3
      omega
    have s2 : 0 < gm_O a t q := by
      generalize gm_O p q a * gm_O a t c = X at *
      generalize gm_O a t p * gm_O c a q = Y at *
      generalize gm_O a t q * gm_O c a p = Z at *
      clear e1 e2 e3 f1 f2 lt i2 t1 t2 t3 w1 w2 w3 g
      omega
    exact Or.inl ⟨Or.inr ⟨s1, s2⟩, Or.inl ⟨x3, h⟩⟩
  · have s1 : gm_O a t p < 0 := by
      rw [h, Int.zero_mul] at g
      generalize gm_O p q a * gm_O t c p = X at *
      generalize gm_O p q c * gm_O a t p = Z at *
      clear e1 e2 e3 f1 f2 lt i1 i2 u1 u2 u3 w1 w2 w3 t2
      omega
    have s2 : 0 < gm_O a t q := by
      generalize gm_O p q a * gm_O a t c = X at *
      generalize gm_O a t p * gm_O c a q = Y at *
      generalize gm_O a t q * gm_O c a p = Z at *
      clear e1 e2 e3 f1 f2 lt i2 t1 t2 t3 w1 w2 w3 g
      omega
    refine Or.inr (Or.inr ⟨h, ?_⟩)
    have h' : gm_O t p q = 0 := by rw [gm_Oc]; exact h
    refine gm_col2 (d1 := t.1 - a.1) (d2 := t.2 - a.2) (p1 := p.1 - t.1) (p2 := p.2 - t.2) (q1 := q.1 - t.1) (q2 := q.2 - t.2) h' ?_ ?_
    · have := gm_SV' a t p
      unfold gm_S gm_V at this
      try dsimp only at this
      omega
    · have := gm_SV' a t q
      unfold gm_S gm_V at this
      try dsimp only at this
      omega
  · have s1 : gm_O t c p < 0 := by
      generalize gm_O p q a * gm_O t c p = X at *
      generalize gm_O p q t * (- gm_O c a p) = Y at *
      generalize gm_O p q c * gm_O a t p = Z at *
      clear e1 e2 e3 f1 f2 lt i1 i2 u1 u2 u3 w1 w2 w3
      omega
    have s2 : 0 < gm_O t c q := by
      generalize gm_O p q c * gm_O a t c = X at *
      generalize (- gm_O t c p) * gm_O c a q = Y at *
      generalize (- gm_O t c q) * gm_O c a p = Z at *
      clear e1 e2 e3 f1 f2 lt i1 t1 t2 t3 u1 u2 u3 g
      omega
    exact Or.inr (Or.inl ⟨Or.inr ⟨s1, s2⟩, Or.inl ⟨h, x4⟩⟩)
theorem gm_CK2 {a t c p q : gm_P} (hT : 0 < gm_O a t c) (hx : gm_px a c p q) (hp : ¬ gm_in a t c p) (hq : ¬ gm_in a t c q) : gm_px a t p q ∨ gm_px t c p q ∨ gm_on p q t := by
  have e1 : gm_O a c p = - gm_O c a p := by unfold gm_O; grind
  have e2 : gm_O a c q = - gm_O c a q := by unfold gm_O; grind
  rcases gm_px_or hx with ⟨x1, x2, x3, x4⟩ | ⟨x1, x2, x3, x4⟩
  · have f1 : gm_O q p a = - gm_O p q a := by unfold gm_O; grind
    have f2 : gm_O q p c = - gm_O p q c := by unfold gm_O; grind
    rcases gm_CK (p := q) (q := p) hT (by omega) (by omega) (by omega) (by omega) hq with h | h | h
    · exact Or.inl (gm_px_s2 h)
    · exact Or.inr (Or.inl (gm_px_s2 h))
    · exact Or.inr (Or.inr (gm_on_s h))
  · exact gm_CK hT (by omega) (by omega) x3 x4 hp
/-- on a segment: an affine function that is not negative at both ends -/
theorem gm_seg {v z x : gm_P} (a b : gm_P) (h : gm_on v z x) (h1 : 0 ≤ gm_O a b v) (h2 : 0 ≤ gm_O a b z) (hn : x ≠ v) : 0 ≤ gm_O a b x := by
  have e : gm_O a b x * (gm_D x v v - gm_D x v z) = gm_O a b z * gm_D x v v - gm_O a b v * gm_D x v z - gm_O v z x * ((b.1 - a.1) * (v.1 - x.1) + (b.2 - a.2) * (v.2 - x.2)) := by
    unfold gm_O gm_D; grind
  rw [h.1, Int.zero_mul, Int.sub_zero] at e
  have sv : 0 < gm_D x v v := by
    refine gm_sqp (fun y => hn ?_)
    have y1 : x.1 = v.1 := by have := y.1; omega
    have y2 : x.2 = v.2 := by have := y.2; omega
    exact Prod.ext y1 y2
  have k := h.2
  have t1 := gm_sg (gm_O a b x) (gm_D x v v - gm_D x v z)
  have t2 := gm_sg (gm_O a b z) (gm_D x v v)
  have t3 := gm_sg (gm_O a b v) (gm_D x v z)
  generalize gm_O a b x * (gm_D x v v - gm_D x v z) = X at *
  generalize gm_O a b z * gm_D x v v = Y at *
  generalize gm_O a b v * gm_D x v z = Z at *
  omega
/-- strictly between v and z, v higher: higher than z -/
theorem gm_segh {v z x : gm_P} (a b : gm_P) (h : gm_on v z x) (hh : gm_O a b z < gm_O a b v) (hn : x ≠ v) (hm : x ≠ z) : gm_O a b z < gm_O a b x := by
  have e : (gm_O a b x - gm_O a b z) * (gm_D x v v - gm_D x v z) = (gm_O a b v - gm_O a b z) * (- gm_D x v z) - gm_O v z x * ((b.1 - a.1) * (v.1 - x.1) + (b.2 - a.2) * (v.2 - x.2)) := by
    unfold gm_O gm_D; grind
  rw [h.1, Int.zero_mul, Int.sub_zero] at e
  have sv : 0 < gm_D x v v := by
    refine gm_sqp (fun y => hn ?_)
    have y1 : x.1 = v.1 := by have := y.1; omega
    have y2 : x.2 = v.2 := by have := y.2; omega
    exact Prod.ext y1 y2
  have sz : 0 < gm_D x z z := by
    refine gm_sqp (fun y => hm ?_)
    have y1 : x.1 = z.1 := by have := y.1; omega
    have y2 : x.2 = z.2 := by have := y.2; omega
    exact Prod.ext y1 y2
  have i := gm_id2 (v.1 - x.1) (v.2 - x.2) (z.1 - x.1) (z.2 - x.2)
  have i' : gm_D x v z * gm_D x v z + gm_O x v z * gm_O x v z = gm_D x v v * gm_D x z z := i
  have o : gm_O x v z = 0 := by rw [gm_Oc]; exact h.1
  rw [o, Int.mul_zero, Int.add_zero] at i'
  have p := Int.mul_pos sv sz
  have t0 := gm_sg (gm_D x v z) (gm_D x v z)
  have k := h.2
  have t1 := gm_sg (gm_O a b x - gm_O a b z) (gm_D x v v - gm_D x v z)
  have t2 := gm_sg (gm_O a b v - gm_O a b z) (- gm_D x v z)
  generalize (gm_O a b x - gm_O a b z) * (gm_D x v v - gm_D x v z) = X at *
  generalize (gm_O a b v - gm_O a b z) * (- gm_D x v z) = Y at *
  generalize gm_D x v z * gm_D x v z = Z at *
  generalize gm_D x v v * gm_D x z z = T at *
  omega
/-- on the third side: in the triangle -/
theorem gm_on_in {a t c x : gm_P} (hT : 0 < gm_O a t c) (h : gm_on a c x) (hn : x ≠ a) : gm_in a t c x := by
  have e1 : gm_O a t a = 0 := gm_O2 a t
  have e2 : gm_O t c c = 0 := gm_O3 t c
  have e3 : gm_O t c a = gm_O a t c := by unfold gm_O; grind
  have e4 : gm_O c a x = - gm_O a c x := by unfold gm_O; grind
  refine ⟨gm_seg a t h (by omega) (by omega) hn, gm_seg t c h (by omega) (by omega) hn, by have := h.1; omega⟩
/-- in the triangle and not on a side: strictly -/
theorem gm_strict {a v c z : gm_P} (hT : 0 < gm_O a v c) (h : gm_in a v c z) (hn : ¬ gm_on a v z) : 0 < gm_O a v z := by
  refine Classical.byContradiction fun n => ?_
  have h0 : gm_O a v z = 0 := by have := h.1; omega
  have k : 0 < gm_D z a v := by unfold gm_on at hn; omega
  have o : gm_O z a v = 0 := by rw [gm_Oc]; exact h0
  have q := gm_col1 (d1 := c.1 - z.1) (d2 := c.2 - z.2) (p1 := a.1 - z.1) (p2 := a.2 - z.2) (q1 := v.1 - z.1) (q2 := v.2 - z.2) o k
  have q1 : 0 < gm_O z c a → 0 < gm_O z c v := q.1
  have o2 : gm_O z v a = 0 := by
    have : gm_O z v a = - gm_O z a v := by unfold gm_O; grind
    omega
  have k2 : 0 < gm_D z v a := by rw [gm_Ds]; exact k
  have r := gm_col1 (d1 := c.1 - z.1) (d2 := c.2 - z.2) (p1 := v.1 - z.1) (p2 := v.2 - z.2) (q1 := a.1 - z.1) (q2 := a.2 - z.2) o2 k2
  have r2 : gm_O z c v < 0 → gm_O z c a < 0 := r.2
  have e1 : gm_O z c v = - gm_O v c z := by unfold gm_O; grind
  have e2 : gm_O z c a = gm_O c a z := by unfold gm_O; grind
  have e3 := gm_O4 z a v c
  have e4 : gm_O z v c = gm_O v c z := by unfold gm_O; grind
  have h1 := h.2.1
  have h2 := h.2.2
  omega
theorem gm_in_r {a v c z : gm_P} (h : gm_in a v c z) : gm_in v c a z := ⟨h.2.1, h.2.2, h.1⟩
theorem gm_strict2 {a v c z : gm_P} (hT : 0 < gm_O a v c) (h : gm_in a v c z) (hn : ¬ gm_on v c z) : 0 < gm_O v c z :=
  gm_strict (by rw [← gm_Oc]; exact hT) (gm_in_r h) hn
/-- in the triangle, not the tip: nearer to the third side than the tip -/
theorem gm_low {a v c z : gm_P} (z1 : 0 < gm_O a v z) (z2 : 0 < gm_O v c z) : gm_O c a z < gm_O c a v := by
  have e : gm_O c a v = gm_O a v z + gm_O v c z + gm_O c a z := by unfold gm_O; grind
  omega
