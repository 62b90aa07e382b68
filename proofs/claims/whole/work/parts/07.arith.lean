/-! whole numbers in ints; segments as the two texts see them -/
def mt_c (z : Int) : Int32 := Int32.ofInt z
theorem mt_cT (x : Int32) : mt_c x.toInt = x := Int32.ofInt_toInt x
theorem mt_tc {z : Int} (h1 : -2000000000 ≤ z) (h2 : z ≤ 2000000000) : (mt_c z).toInt = z := Int32.toInt_ofInt_of_le (by omega) (by omega)
theorem mt_add (a b : Int) : mt_c a + mt_c b = mt_c (a + b) := (Int32.ofInt_add a b).symm
theorem mt_sub (a b : Int) : mt_c a - mt_c b = mt_c (a - b) := (Int32.ofInt_sub a b).symm
theorem mt_mul (a b : Int) : mt_c a * mt_c b = mt_c (a * b) := (Int32.ofInt_mul a b).symm
theorem mt_neg (a : Int) : - mt_c a = mt_c (-a) := (Int32.ofInt_neg a).symm
theorem mt_n (n : Nat) : mt_c (n : Int) = nI n := Int32.ofInt_eq_ofNat
def mt_sm (z : Int) : Prop := -2000000000 ≤ z ∧ z ≤ 2000000000
theorem mt_lt {a b : Int} (ha : mt_sm a) (hb : mt_sm b) : mt_c a < mt_c b ↔ a < b := by
  rw [Int32.lt_iff_toInt_lt, mt_tc ha.1 ha.2, mt_tc hb.1 hb.2]
theorem mt_le {a b : Int} (ha : mt_sm a) (hb : mt_sm b) : mt_c a ≤ mt_c b ↔ a ≤ b := by
  rw [Int32.le_iff_toInt_le, mt_tc ha.1 ha.2, mt_tc hb.1 hb.2]
theorem mt_eq {a b : Int} (ha : mt_sm a) (hb : mt_sm b) : mt_c a = mt_c b ↔ a = b := by
  rw [← Int32.toInt_inj, mt_tc ha.1 ha.2, mt_tc hb.1 hb.2]
theorem mt_0 : (0 : Int32) = mt_c 0 := by decide
theorem mt_1 : (1 : Int32) = mt_c 1 := by decide
theorem mt_m1 : (-1 : Int32) = mt_c (-1) := by decide
theorem mt_2 : (2 : Int32) = mt_c 2 := by decide
theorem mt_s0 : mt_sm 0 := by unfold mt_sm; omega
theorem mt_lt0 {a : Int} (ha : mt_sm a) : mt_c a < 0 ↔ a < 0 := by rw [mt_0]; exact mt_lt ha mt_s0
theorem mt_0lt {a : Int} (ha : mt_sm a) : 0 < mt_c a ↔ 0 < a := by rw [mt_0]; exact mt_lt mt_s0 ha
theorem mt_le0 {a : Int} (ha : mt_sm a) : mt_c a ≤ 0 ↔ a ≤ 0 := by rw [mt_0]; exact mt_le ha mt_s0
theorem mt_0le {a : Int} (ha : mt_sm a) : 0 ≤ mt_c a ↔ 0 ≤ a := by rw [mt_0]; exact mt_le mt_s0 ha
theorem mt_eq0 {a : Int} (ha : mt_sm a) : mt_c a = 0 ↔ a = 0 := by rw [mt_0]; exact mt_eq ha mt_s0
/-- a product within bounds -/
theorem mt_bd {a b M N : Int} (h1 : -M ≤ a) (h2 : a ≤ M) (h3 : -N ≤ b) (h4 : b ≤ N) : -(M * N) ≤ a * b ∧ a * b ≤ M * N := by
  have p1 := Int.mul_nonneg (show 0 ≤ M - a by omega) (show 0 ≤ N + b by omega)
  have p2 := Int.mul_nonneg (show 0 ≤ M + a by omega) (show 0 ≤ N - b by omega)
  have p3 := Int.mul_nonneg (show 0 ≤ M - a by omega) (show 0 ≤ N - b by omega)
  have p4 := Int.mul_nonneg (show 0 ≤ M + a by omega) (show 0 ≤ N + b by omega)
  have e1 : (M - a) * (N + b) = M * N + M * b - a * N - a * b := by grind
  have e2 : (M + a) * (N - b) = M * N - M * b + a * N - a * b := by grind
  have e3 : (M - a) * (N - b) = M * N - M * b - a * N + a * b := by grind
  have e4 : (M + a) * (N + b) = M * N + M * b + a * N + a * b := by grind
  rw [e1] at p1
  rw [e2] at p2
  rw [e3] at p3
  rw [e4] at p4
  generalize M * N = w at *
  generalize M * b = x at *
  generalize a * N = y at *
  generalize a * b = z at *
  omega
def mt_B (p : gm_P) : Prop := (-1000 ≤ p.1 ∧ p.1 ≤ 1000) ∧ (-1000 ≤ p.2 ∧ p.2 ≤ 1000)
theorem mt_Ob {a b c : gm_P} (ha : mt_B a) (hb : mt_B b) (hc : mt_B c) : -8000000 ≤ gm_O a b c ∧ gm_O a b c ≤ 8000000 := by
  unfold mt_B at *
  have x := mt_bd (M := 2000) (N := 2000) (a := b.1 - a.1) (b := c.2 - a.2) (by omega) (by omega) (by omega) (by omega)
  have y := mt_bd (M := 2000) (N := 2000) (a := b.2 - a.2) (b := c.1 - a.1) (by omega) (by omega) (by omega) (by omega)
  unfold gm_O
  generalize (b.1 - a.1) * (c.2 - a.2) = X at *
  generalize (b.2 - a.2) * (c.1 - a.1) = Y at *
  omega
theorem mt_Db {a b c : gm_P} (ha : mt_B a) (hb : mt_B b) (hc : mt_B c) : -8000000 ≤ gm_D a b c ∧ gm_D a b c ≤ 8000000 := by
  unfold mt_B at *
  have x := mt_bd (M := 2000) (N := 2000) (a := b.1 - a.1) (b := c.1 - a.1) (by omega) (by omega) (by omega) (by omega)
  have y := mt_bd (M := 2000) (N := 2000) (a := b.2 - a.2) (b := c.2 - a.2) (by omega) (by omega) (by omega) (by omega)
  unfold gm_D
  generalize (b.1 - a.1) * (c.1 - a.1) = X at *
  generalize (b.2 - a.2) * (c.2 - a.2) = Y at *
  omega
theorem mt_Os {a b c : gm_P} (ha : mt_B a) (hb : mt_B b) (hc : mt_B c) : mt_sm (gm_O a b c) := by
  have := mt_Ob ha hb hc
  unfold mt_sm
  omega
theorem mt_Ds {a b c : gm_P} (ha : mt_B a) (hb : mt_B b) (hc : mt_B c) : mt_sm (gm_D a b c) := by
  have := mt_Db ha hb hc
  unfold mt_sm
  omega
/-! two closed segments have a common point -/
def gm_meet (a b c d : gm_P) : Prop := gm_px a b c d ∨ gm_on a b c ∨ gm_on a b d ∨ gm_on c d a ∨ gm_on c d b
theorem gm_same {a b c d : gm_P} (h : ¬ gm_on a b c) (z : gm_O a b c = 0) : (0 < gm_O c d a ↔ 0 < gm_O c d b) ∧ (gm_O c d a < 0 ↔ gm_O c d b < 0) := by
  have k : 0 < gm_D c a b := by unfold gm_on at h; omega
  have g : gm_O c a b = 0 := by rw [gm_Oc]; exact z
  have g' : gm_O c b a = 0 := by
    have : gm_O c b a = - gm_O c a b := by unfold gm_O; grind
    omega
  have k' : 0 < gm_D c b a := by rw [gm_Ds]; exact k
  have x := gm_col1 (d1 := d.1 - c.1) (d2 := d.2 - c.2) g k
  have y := gm_col1 (d1 := d.1 - c.1) (d2 := d.2 - c.2) g' k'
  exact ⟨⟨x.1, y.1⟩, ⟨x.2, y.2⟩⟩
def gm_sep (a b c d : gm_P) : Prop := ¬ (0 < gm_O a b c ↔ 0 < gm_O a b d)
theorem gm_meetX {a b c d : gm_P} (h1 : ¬ gm_on a b c) (h2 : ¬ gm_on a b d) (h3 : ¬ gm_on c d a) (h4 : ¬ gm_on c d b) : (gm_sep a b c d ∧ gm_sep c d a b) ↔ gm_px a b c d := by
  have s1 := gm_same (d := d) h1
  have s2 := gm_same (d := c) h2
  have s3 := gm_same (d := b) h3
  have s4 := gm_same (d := a) h4
  have e1 := gm_Os d c a
  have e2 := gm_Os d c b
  have e3 := gm_Os b a c
  have e4 := gm_Os b a d
  unfold gm_sep gm_px gm_opp
  constructor
  · intro ⟨x, y⟩
    by_cases z1 : gm_O a b c = 0
    · exact absurd (s1 z1).1 y
    · by_cases z2 : gm_O a b d = 0
      · have := (s2 z2).2
        exact absurd (by omega) y
      · by_cases z3 : gm_O c d a = 0
        · exact absurd (s3 z3).1 x
        · by_cases z4 : gm_O c d b = 0
          · have := (s4 z4).2
            exact absurd (by omega) x
          · omega
  · intro h
    omega
theorem gm_ends {a b x : gm_P} (h : gm_O a b x = 0) (k : gm_D x a b = 0) : x = a ∨ x = b := by
  have i := gm_id2 (a.1 - x.1) (a.2 - x.2) (b.1 - x.1) (b.2 - x.2)
  have i' : gm_D x a b * gm_D x a b + gm_O x a b * gm_O x a b = gm_D x a a * gm_D x b b := i
  have o : gm_O x a b = 0 := by rw [gm_Oc]; exact h
  rw [o, k] at i'
  refine Classical.byContradiction fun n => ?_
  have n1 : x ≠ a := fun z => n (Or.inl z)
  have n2 : x ≠ b := fun z => n (Or.inr z)
  have p1 : 0 < gm_D x a a := gm_sqp (fun y => n1 (Prod.ext (by have := y.1; omega) (by have := y.2; omega)))
  have p2 : 0 < gm_D x b b := gm_sqp (fun y => n2 (Prod.ext (by have := y.1; omega) (by have := y.2; omega)))
  have := Int.mul_pos p1 p2
  omega
/-! the diagonal's two readings -/
def gm_blX (f : Nat → gm_P) (j a b k : Nat) : Prop :=
  ((k ≠ a ∧ k ≠ b) ∧ gm_on (f a) (f b) (f k)) ∨ ((k ≠ a ∧ k ≠ b ∧ gm_nx 0 j k ≠ a ∧ gm_nx 0 j k ≠ b) ∧ gm_meet (f a) (f b) (f k) (f (gm_nx 0 j k)))
def gm_blY (f : Nat → gm_P) (j a b k : Nat) : Prop :=
  gm_px (f a) (f b) (f k) (f (gm_nx 0 j k)) ∨ (gm_O (f a) (f b) (f k) = 0 ∧ gm_D (f k) (f a) (f b) < 0) ∨ (gm_O (f a) (f b) (f (gm_nx 0 j k)) = 0 ∧ gm_D (f (gm_nx 0 j k)) (f a) (f b) < 0) ∨ ((gm_O (f a) (f b) (f k) = 0 ∧ gm_O (f a) (f b) (f (gm_nx 0 j k)) = 0) ∧ (gm_D (f a) (f k) (f (gm_nx 0 j k)) < 0 ∨ gm_D (f b) (f k) (f (gm_nx 0 j k)) < 0))
theorem gm_D1 (a b : gm_P) : gm_D a a b = 0 := by unfold gm_D; grind
theorem gm_D2 (a b : gm_P) : gm_D a b a = 0 := by unfold gm_D; grind
theorem gm_line {a b p q : gm_P} (n : a ≠ b) (h1 : gm_O a b p = 0) (h2 : gm_O a b q = 0) (x : gm_P) (hx : x = a ∨ x = b) : gm_O p q x = 0 := by
  have e : gm_O p q x * gm_D a b b = (gm_O a b x - gm_O a b p) * ((b.1 - a.1) * (q.1 - p.1) + (b.2 - a.2) * (q.2 - p.2)) - (gm_O a b q - gm_O a b p) * ((b.1 - a.1) * (x.1 - p.1) + (b.2 - a.2) * (x.2 - p.2)) := by
    unfold gm_O gm_D; grind
  have hx' : gm_O a b x = 0 := by
    rcases hx with h | h
    · rw [h, gm_O2]
    · rw [h, gm_O3]
  rw [h1, h2, hx'] at e
  simp only [Int.sub_self, Int.zero_mul] at e
  have pp : 0 < gm_D a b b := gm_sqp (fun y => n (Prod.ext (by have := y.1; omega) (by have := y.2; omega)))
  have s := gm_sg (gm_O p q x) (gm_D a b b)
  omega
theorem gm_bl {f : Nat → gm_P} {j a b : Nat} (h2 : 2 ≤ j) (hs : gm_simp f 0 j) (ha : a ≤ j) (hb : b ≤ j) (ne : a ≠ b) : (∃ k, k ≤ j ∧ gm_blX f j a b k) ↔ (∃ k, k ≤ j ∧ gm_blY f j a b k) := by
  have nab := gm_ne hs (by omega) ha (by omega) hb ne
  have st : ∀ k, k ≤ j → k ≠ a → k ≠ b → gm_on (f a) (f b) (f k) → gm_O (f a) (f b) (f k) = 0 ∧ gm_D (f k) (f a) (f b) < 0 := by
    intro k k1 n1 n2 on
    refine ⟨on.1, ?_⟩
    have := on.2
    rcases (show gm_D (f k) (f a) (f b) < 0 ∨ gm_D (f k) (f a) (f b) = 0 by omega) with h | h
    · exact h
    · rcases gm_ends on.1 h with e | e
      · exact absurd e (gm_ne hs (by omega) k1 (by omega) ha n1)
      · exact absurd e (gm_ne hs (by omega) k1 (by omega) hb n2)
  constructor
  · intro ⟨k, k1, h⟩
    have kn := gm_nx_in (i := 0) (j := j) (k := k) (by omega) (by omega) k1
    have ad := gm_adj_nx (i := 0) (j := j) (k := k) (by omega) (by omega) k1
    refine ⟨k, k1, ?_⟩
    rcases h with ⟨⟨n1, n2⟩, on⟩ | ⟨⟨n1, n2, n3, n4⟩, m⟩
    · exact Or.inr (Or.inl (st k k1 n1 n2 on))
    · rcases m with m | m | m | m | m
      · exact Or.inl m
      · exact Or.inr (Or.inl (st k k1 n1 n2 m))
      · exact Or.inr (Or.inr (Or.inl (st _ kn.2 n3 n4 m)))
      · exact absurd m (hs.2.1 _ _ _ ad (by omega) ha (fun z => n1 z.symm) (fun z => n3 z.symm))
      · exact absurd m (hs.2.1 _ _ _ ad (by omega) hb (fun z => n2 z.symm) (fun z => n4 z.symm))
  · intro ⟨k, k1, h⟩
    have kn := gm_nx_in (i := 0) (j := j) (k := k) (by omega) (by omega) k1
    have ad := gm_adj_nx (i := 0) (j := j) (k := k) (by omega) (by omega) k1
    rcases h with m | ⟨o, d⟩ | ⟨o, d⟩ | ⟨⟨o1, o2⟩, d⟩
    · have x := m.1
      unfold gm_opp at x
      refine ⟨k, k1, Or.inr ⟨⟨?_, ?_, ?_, ?_⟩, Or.inl m⟩⟩
      · intro e; rw [e, gm_O2] at x; omega
      · intro e; rw [e, gm_O3] at x; omega
      · intro e; rw [e, gm_O2] at x; omega
      · intro e; rw [e, gm_O3] at x; omega
    · refine ⟨k, k1, Or.inl ⟨⟨?_, ?_⟩, o, by omega⟩⟩
      · intro e; rw [e, gm_D1] at d; omega
      · intro e; rw [e, gm_D2] at d; omega
    · refine ⟨gm_nx 0 j k, kn.2, Or.inl ⟨⟨?_, ?_⟩, o, by omega⟩⟩
      · intro e; rw [e, gm_D1] at d; omega
      · intro e; rw [e, gm_D2] at d; omega
    · exfalso
      rcases d with d | d
      · have on : gm_on (f k) (f (gm_nx 0 j k)) (f a) := ⟨gm_line nab o1 o2 _ (Or.inl rfl), by omega⟩
        refine hs.2.1 _ _ _ ad (by omega) ha ?_ ?_ on
        · intro e; rw [e, gm_D1] at d; omega
        · intro e; rw [← e, gm_D2] at d; omega
      · have on : gm_on (f k) (f (gm_nx 0 j k)) (f b) := ⟨gm_line nab o1 o2 _ (Or.inr rfl), by omega⟩
        refine hs.2.1 _ _ _ ad (by omega) hb ?_ ?_ on
        · intro e; rw [e, gm_D1] at d; omega
        · intro e; rw [← e, gm_D2] at d; omega
/-! the document's four conditions give gm_simp -/
theorem gm_simpI {f : Nat → gm_P} {j : Nat} (h2 : 2 ≤ j) (r : ∀ a b, a ≤ j → b ≤ j → a ≠ b → f a ≠ f b) (fo : ∀ k, k ≤ j → ¬ (gm_O (f k) (f (gm_pv 0 j k)) (f (gm_nx 0 j k)) = 0 ∧ 0 < gm_D (f k) (f (gm_pv 0 j k)) (f (gm_nx 0 j k)))) (me : ∀ a b, a < b → b ≤ j → b ≠ gm_nx 0 j a → a ≠ gm_nx 0 j b → ¬ gm_meet (f a) (f (gm_nx 0 j a)) (f b) (f (gm_nx 0 j b))) : gm_simp f 0 j := by
  -- two edges without a common corner don't meet
  have me' : ∀ a b, a ≤ j → b ≤ j → a ≠ b → b ≠ gm_nx 0 j a → a ≠ gm_nx 0 j b → ¬ gm_meet (f a) (f (gm_nx 0 j a)) (f b) (f (gm_nx 0 j b)) := by
    intro a b ha hb n1 n2 n3 m
    rcases (show a < b ∨ b < a by omega) with h | h
    · exact me a b h hb n2 n3 m
    · refine me b a h ha n3 n2 ?_
      rcases m with m | m | m | m | m
      · exact Or.inl (gm_px_s m)
      · exact Or.inr (Or.inr (Or.inr (Or.inl m)))
      · exact Or.inr (Or.inr (Or.inr (Or.inr m)))
      · exact Or.inr (Or.inl m)
      · exact Or.inr (Or.inr (Or.inl m))
  have nv : ∀ k x, k ≤ j → x ≤ j → x ≠ k → x ≠ gm_nx 0 j k → ¬ gm_on (f k) (f (gm_nx 0 j k)) (f x) := by
    intro k x hk hx n1 n2 on
    have kn := gm_nx_in (i := 0) (j := j) (k := k) (by omega) (by omega) hk
    by_cases c1 : k = gm_nx 0 j x
    · -- x is the corner before k
      have p : gm_pv 0 j k = x := (gm_nx_pv (by omega) hx c1.symm).symm
      refine fo k hk ⟨?_, ?_⟩
      · rw [p]
        have e : gm_O (f k) (f x) (f (gm_nx 0 j k)) = - gm_O (f k) (f (gm_nx 0 j k)) (f x) := by unfold gm_O; grind
        have := on.1
        omega
      · rw [p]
        have e : gm_D (f x) (f k) (f (gm_nx 0 j k)) = gm_D (f k) (f x) (f x) - gm_D (f k) (f x) (f (gm_nx 0 j k)) := by unfold gm_D; grind
        have pp : 0 < gm_D (f k) (f x) (f x) := gm_sqp (fun y => r x k hx hk n1 (Prod.ext (by have := y.1; omega) (by have := y.2; omega)))
        have := on.2
        omega
    · exact me' k x hk hx (fun z => n1 z.symm) n2 c1 (Or.inr (Or.inl on))
  have ed : ∀ a b, gm_adj 0 j a b → (a ≤ j ∧ b = gm_nx 0 j a) ∨ (b ≤ j ∧ a = gm_nx 0 j b) := by
    intro a b h
    unfold gm_adj at h
    by_cases e1 : a = j <;> by_cases e2 : b = j <;> unfold gm_nx <;> simp only [e1, e2, if_true, if_false] <;> omega
  have px0 : ∀ a b, a ≤ j → b ≤ j → ¬ gm_px (f a) (f (gm_nx 0 j a)) (f b) (f (gm_nx 0 j b)) := by
    intro a b ha hb px
    have x := px.1
    have y := px.2
    unfold gm_opp at x y
    by_cases e1 : a = b
    · rw [e1, gm_O2] at x; omega
    · by_cases e2 : b = gm_nx 0 j a
      · rw [← e2, gm_O3] at x; omega
      · by_cases e3 : a = gm_nx 0 j b
        · rw [← e3, gm_O2] at x; omega
        · exact me' a b ha hb e1 e2 e3 (Or.inl px)
  refine ⟨fun a b _ ha _ hb e => ?_, fun a b x ad _ hx n1 n2 on => ?_, fun a b c e g h px => ?_⟩
  · refine Classical.byContradiction fun n => r a b ha hb n e
  · rcases ed a b ad with ⟨h1, h3⟩ | ⟨h1, h3⟩
    · rw [h3] at on n2
      exact nv a x h1 hx n1 n2 on
    · rw [h3] at on n1
      exact nv b x h1 hx n2 n1 (gm_on_s on)
  · rcases ed a b g with ⟨h1, h3⟩ | ⟨h1, h3⟩ <;> rcases ed c e h with ⟨h4, h5⟩ | ⟨h4, h5⟩ <;> rw [h3, h5] at px
    · exact px0 _ _ h1 h4 px
    · exact px0 _ _ h1 h4 (gm_px_s2 px)
    · exact px0 _ _ h1 h4 (gm_px_s1 px)
    · exact px0 _ _ h1 h4 (gm_px_s1 (gm_px_s2 px))
