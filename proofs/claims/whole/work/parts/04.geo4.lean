/-! sums over a closed polygon: the corners f i .. f j -/
def gm_sum (F : Nat → Int) (i : Nat) : Nat → Int
  | 0 => 0
  | n + 1 => gm_sum F i n + F (i + n)
def gm_nx (i j k : Nat) : Nat := if k = j then i else k + 1
def gm_pv (i j k : Nat) : Nat := if k = i then j else k - 1
def gm_cy (F : gm_P → gm_P → Int) (f : Nat → gm_P) (i j : Nat) : Int := gm_sum (fun k => F (f k) (f (gm_nx i j k))) i (j + 1 - i)
def gm_W (f : Nat → gm_P) (i j : Nat) (d u : gm_P) : Int := gm_cy (gm_Om d u) f i j
def gm_w (f : Nat → gm_P) (i j k : Nat) : Int := gm_W f i j (gm_V (f k) (f (gm_nx i j k))) (f k)
def gm_adj (i j a b : Nat) : Prop := (i ≤ a ∧ a ≤ j ∧ i ≤ b ∧ b ≤ j) ∧ (b = a + 1 ∨ a = b + 1 ∨ (a = i ∧ b = j) ∨ (a = j ∧ b = i))
def gm_simp (f : Nat → gm_P) (i j : Nat) : Prop :=
  (∀ a b, i ≤ a → a ≤ j → i ≤ b → b ≤ j → f a = f b → a = b) ∧
  (∀ a b x, gm_adj i j a b → i ≤ x → x ≤ j → x ≠ a → x ≠ b → ¬ gm_on (f a) (f b) (f x)) ∧
  (∀ a b c e, gm_adj i j a b → gm_adj i j c e → ¬ gm_px (f a) (f b) (f c) (f e))
theorem gm_sum_0 {F : Nat → Int} {i : Nat} : ∀ {n : Nat}, (∀ k, i ≤ k → k < i + n → F k = 0) → gm_sum F i n = 0
  | 0, _ => rfl
  | n + 1, h => by
    have a := gm_sum_0 (F := F) (i := i) (n := n) (fun k h1 h2 => h k h1 (by omega))
    have b := h (i + n) (by omega) (by omega)
    simp only [gm_sum]; omega
theorem gm_sum_c {F G : Nat → Int} {i : Nat} : ∀ {n : Nat}, (∀ k, i ≤ k → k < i + n → F k = G k) → gm_sum F i n = gm_sum G i n
  | 0, _ => rfl
  | n + 1, h => by
    have a := gm_sum_c (F := F) (G := G) (i := i) (n := n) (fun k h1 h2 => h k h1 (by omega))
    have b := h (i + n) (by omega) (by omega)
    simp only [gm_sum]; omega
theorem gm_sum_sub (F G : Nat → Int) (i : Nat) : ∀ n : Nat, gm_sum (fun k => F k - G k) i n = gm_sum F i n - gm_sum G i n
  | 0 => rfl
  | n + 1 => by
    have a := gm_sum_sub F G i n
    simp only [gm_sum]; omega
theorem gm_sum_1 {F : Nat → Int} {i k0 : Nat} : ∀ {n : Nat}, i ≤ k0 → k0 < i + n → (∀ k, i ≤ k → k < i + n → k ≠ k0 → F k = 0) → gm_sum F i n = F k0
  | 0, h1, h2, _ => by omega
  | n + 1, h1, h2, h => by
    by_cases e : k0 = i + n
    · have a := gm_sum_0 (F := F) (i := i) (n := n) (fun k h1 h2 => h k h1 (by omega) (by omega))
      simp only [gm_sum]; rw [a, e, Int.zero_add]
    · have a := gm_sum_1 (F := F) (i := i) (k0 := k0) (n := n) h1 (by omega) (fun k h1 h2 h3 => h k h1 (by omega) h3)
      have b := h (i + n) (by omega) (by omega) (by omega)
      simp only [gm_sum]; omega
theorem gm_sum_2 {F : Nat → Int} {i k0 k1 : Nat} : ∀ {n : Nat}, i ≤ k0 → k0 < i + n → i ≤ k1 → k1 < i + n → k0 ≠ k1 → (∀ k, i ≤ k → k < i + n → k ≠ k0 → k ≠ k1 → F k = 0) → gm_sum F i n = F k0 + F k1
  | 0, h1, h2, _, _, _, _ => by omega
  | n + 1, h1, h2, h3, h4, hn, h => by
    by_cases e : k0 = i + n
    · have a := gm_sum_1 (F := F) (i := i) (k0 := k1) (n := n) h3 (by omega) (fun k g1 g2 g3 => h k g1 (by omega) (by omega) g3)
      simp only [gm_sum]; rw [a, e]; omega
    · by_cases e' : k1 = i + n
      · have a := gm_sum_1 (F := F) (i := i) (k0 := k0) (n := n) h1 (by omega) (fun k g1 g2 g3 => h k g1 (by omega) g3 (by omega))
        simp only [gm_sum]; rw [a, e']
      · have a := gm_sum_2 (F := F) (i := i) (k0 := k0) (k1 := k1) (n := n) h1 (by omega) h3 (by omega) hn (fun k g1 g2 g3 g4 => h k g1 (by omega) g3 g4)
        have b := h (i + n) (by omega) (by omega) (by omega) (by omega)
        simp only [gm_sum]; omega
theorem gm_tel0 (H : Nat → Int) (i j : Nat) : ∀ n : Nat, i + n ≤ j → gm_sum (fun k => H (gm_nx i j k) - H k) i n = H (i + n) - H i
  | 0, _ => by simp only [gm_sum, Nat.add_zero]; omega
  | n + 1, h => by
    have a := gm_tel0 H i j n (by omega)
    have e : gm_nx i j (i + n) = i + (n + 1) := by unfold gm_nx; rw [if_neg (by omega)]; omega
    simp only [gm_sum]; rw [a, e]; omega
theorem gm_tel (H : Nat → Int) {i j : Nat} (h : i ≤ j) : gm_sum (fun k => H (gm_nx i j k) - H k) i (j + 1 - i) = 0 := by
  obtain ⟨n, rfl⟩ : ∃ n, j = i + n := ⟨j - i, by omega⟩
  have e : i + n + 1 - i = n + 1 := by omega
  have a := gm_tel0 H i (i + n) n (by omega)
  have e2 : gm_nx i (i + n) (i + n) = i := by unfold gm_nx; rw [if_pos rfl]
  rw [e]; simp only [gm_sum]; rw [a, e2]; omega
theorem gm_nx_in {i j k : Nat} (h : i ≤ j) (h1 : i ≤ k) (h2 : k ≤ j) : i ≤ gm_nx i j k ∧ gm_nx i j k ≤ j := by
  unfold gm_nx; split <;> omega
theorem gm_pv_in {i j k : Nat} (h1 : i ≤ k) (h2 : k ≤ j) : i ≤ gm_pv i j k ∧ gm_pv i j k ≤ j := by
  unfold gm_pv; split <;> omega
theorem gm_nxpv {i j k : Nat} (h1 : i ≤ k) (h2 : k ≤ j) : gm_nx i j (gm_pv i j k) = k := by
  unfold gm_nx gm_pv
  repeat' split
  all_goals omega
theorem gm_nx_pv {i j k m : Nat} (h1 : i ≤ k) (h2 : k ≤ j) (h : gm_nx i j k = m) : k = gm_pv i j m := by
  unfold gm_nx at h
  unfold gm_pv
  split at h <;> split <;> omega
theorem gm_adj_nx {i j k : Nat} (h : i < j) (h1 : i ≤ k) (h2 : k ≤ j) : gm_adj i j k (gm_nx i j k) := by
  unfold gm_adj gm_nx
  split <;> omega
theorem gm_adj_s {i j a b : Nat} (h : gm_adj i j a b) : gm_adj i j b a := by unfold gm_adj at *; omega
/-- the winding around a point off the edges doesn't depend on the direction -/
theorem gm_F2 {f : Nat → gm_P} {i j : Nat} {d e u : gm_P} (hij : i ≤ j) (ha : 0 < d.1 * e.2 - d.2 * e.1) (h : ∀ k, i ≤ k → k ≤ j → ¬ gm_on (f k) (f (gm_nx i j k)) u) : gm_W f i j d u = gm_W f i j e u := by
  have t := gm_tel (fun k => gm_h (gm_S d u (f k)) (gm_S e u (f k))) hij
  have s := gm_sum_c (F := fun k => gm_Om d u (f k) (f (gm_nx i j k)) - gm_Om e u (f k) (f (gm_nx i j k))) (G := fun k => gm_h (gm_S d u (f (gm_nx i j k))) (gm_S e u (f (gm_nx i j k))) - gm_h (gm_S d u (f k)) (gm_S e u (f k))) (i := i) (n := j + 1 - i) (fun k h1 h2 => gm_L1 ha (h k h1 (by omega)))
  rw [gm_sum_sub] at s
  unfold gm_W gm_cy
  omega
theorem gm_F2' {f : Nat → gm_P} {i j : Nat} {d e u : gm_P} (hij : i ≤ j) (hd : ¬ (d.1 = 0 ∧ d.2 = 0)) (he : ¬ (e.1 = 0 ∧ e.2 = 0)) (h : ∀ k, i ≤ k → k ≤ j → ¬ gm_on (f k) (f (gm_nx i j k)) u) : gm_W f i j d u = gm_W f i j e u := by
  rcases Int.lt_trichotomy (d.1 * e.2 - d.2 * e.1) 0 with g | g | g
  · have q : e.1 * d.2 - e.2 * d.1 = - (d.1 * e.2 - d.2 * e.1) := by grind
    exact (gm_F2 hij (by omega) h).symm
  · have p1 : 0 < d.1 * d.1 + d.2 * d.2 := gm_sqp hd
    have p2 : 0 < e.1 * e.1 + e.2 * e.2 := gm_sqp he
    have r1 : 0 < d.1 * d.1 - d.2 * -d.2 := by
      have : d.1 * d.1 - d.2 * -d.2 = d.1 * d.1 + d.2 * d.2 := by grind
      omega
    have a1 := gm_F2 (d := d) (e := (-d.2, d.1)) hij r1 h
    have i := gm_id2 d.1 d.2 e.1 e.2
    rw [g, Int.mul_zero, Int.add_zero] at i
    have p3 := Int.mul_pos p1 p2
    have ne : d.1 * e.1 + d.2 * e.2 ≠ 0 := by
      intro z
      rw [z] at i
      omega
    rw [a1]
    rcases (show 0 < d.1 * e.1 + d.2 * e.2 ∨ d.1 * e.1 + d.2 * e.2 < 0 by omega) with q | q
    · have r2 : 0 < e.1 * d.1 - e.2 * -d.2 := by
        have : e.1 * d.1 - e.2 * -d.2 = d.1 * e.1 + d.2 * e.2 := by grind
        omega
      exact (gm_F2 (d := e) (e := (-d.2, d.1)) hij r2 h).symm
    · have r2 : 0 < -d.2 * e.2 - d.1 * e.1 := by
        have : -d.2 * e.2 - d.1 * e.1 = - (d.1 * e.1 + d.2 * e.2) := by grind
        omega
      exact gm_F2 (d := (-d.2, d.1)) (e := e) hij r2 h
  · exact gm_F2 hij g h
/-- at a corner: the change of direction shows at its two neighbours alone -/
theorem gm_F2v {f : Nat → gm_P} {i j m : Nat} {d e : gm_P} (hij : i + 2 ≤ j) (h1 : i ≤ m) (h2 : m ≤ j) (ha : 0 < d.1 * e.2 - d.2 * e.1) (h : ∀ k, i ≤ k → k ≤ j → k ≠ m → gm_nx i j k ≠ m → ¬ gm_on (f k) (f (gm_nx i j k)) (f m)) : gm_W f i j d (f m) - gm_W f i j e (f m) = gm_h (gm_S d (f m) (f (gm_pv i j m))) (gm_S e (f m) (f (gm_pv i j m))) - gm_h (gm_S d (f m) (f (gm_nx i j m))) (gm_S e (f m) (f (gm_nx i j m))) := by
  have t := gm_tel (fun k => gm_h (gm_S d (f m) (f k)) (gm_S e (f m) (f k))) (show i ≤ j by omega)
  have pm := gm_pv_in h1 h2
  have npm := gm_nxpv h1 h2
  have ne : gm_pv i j m ≠ m := by unfold gm_pv; split <;> omega
  have s := gm_sum_2 (F := fun k => (gm_Om d (f m) (f k) (f (gm_nx i j k)) - gm_Om e (f m) (f k) (f (gm_nx i j k))) - (gm_h (gm_S d (f m) (f (gm_nx i j k))) (gm_S e (f m) (f (gm_nx i j k))) - gm_h (gm_S d (f m) (f k)) (gm_S e (f m) (f k)))) (i := i) (k0 := m) (k1 := gm_pv i j m) (n := j + 1 - i) h1 (by omega) pm.1 (by omega) (fun z => ne z.symm) (fun k g1 g2 g3 g4 => by
    have := gm_L1 (u := f m) ha (h k g1 (by omega) g3 (fun z => g4 (gm_nx_pv g1 (by omega) z)))
    try dsimp only
    omega)
  rw [gm_sum_sub, gm_sum_sub, t] at s
  try dsimp only at s
  rw [npm, gm_Om_p, gm_Om_p, gm_Om_q, gm_Om_q] at s
  unfold gm_W gm_cy
  omega
theorem gm_VV (u w x : gm_P) : (gm_V u w).1 * (gm_V w x).2 - (gm_V u w).2 * (gm_V w x).1 = gm_O u w x := by unfold gm_V gm_O; grind
theorem gm_VV1 (u w x : gm_P) : (gm_V u w).1 * (gm_V u x).2 - (gm_V u w).2 * (gm_V u x).1 = gm_O u w x := rfl
theorem gm_om_b (x : Int) : gm_om 0 x x = gm_b x := by
  unfold gm_om gm_b
  repeat' split
  all_goals omega
theorem gm_h0 (x : Int) : gm_h 0 x = 0 := by unfold gm_h; rw [if_neg (by decide)]
theorem gm_hn {b : Int} (x : Int) (h : b ≤ 0) : gm_h b x = 0 := by unfold gm_h; rw [if_neg (by omega)]
theorem gm_h1 {b x : Int} (h : 0 < b) (k : x ≤ 0) : gm_h b x = 1 := by unfold gm_h; rw [if_pos h, if_neg (by omega)]
theorem gm_hp {x : Int} (b : Int) (k : 0 < x) : gm_h b x = 0 := by unfold gm_h; split <;> simp [k]
theorem gm_om_c {α β α' β' : Int} (g : Int) (h1 : 0 < α ↔ 0 < α') (h2 : 0 < β ↔ 0 < β') : gm_om α β g = gm_om α' β' g := by
  unfold gm_om
  repeat' split
  all_goals omega
theorem gm_ne {f : Nat → gm_P} {i j a b : Nat} (hs : gm_simp f i j) (h1 : i ≤ a) (h2 : a ≤ j) (h3 : i ≤ b) (h4 : b ≤ j) (h : a ≠ b) : f a ≠ f b := fun e => h (hs.1 a b h1 h2 h3 h4 e)
/-- the winding on the left of an edge is the same for all edges: one step -/
theorem gm_J {f : Nat → gm_P} {i j k : Nat} (h2 : i + 2 ≤ j) (hs : gm_simp f i j) (hk : i ≤ k) (hk' : k < j) : gm_w f i j k = gm_w f i j (k + 1) := by
  have e1 : gm_nx i j k = k + 1 := by unfold gm_nx; rw [if_neg (by omega)]
  have e2 : gm_pv i j (k + 1) = k := by unfold gm_pv; rw [if_neg (by omega)]; omega
  have nn := gm_nx_in (k := k + 1) (show i ≤ j by omega) (by omega) (by omega)
  have nk : gm_nx i j (k + 1) ≠ k := by unfold gm_nx; split <;> omega
  have nk1 : gm_nx i j (k + 1) ≠ k + 1 := by unfold gm_nx; split <;> omega
  have A : gm_W f i j (gm_V (f k) (f (k + 1))) (f k) - gm_W f i j (gm_V (f k) (f (k + 1))) (f (k + 1)) = gm_b (gm_O (f k) (f (k + 1)) (f (gm_nx i j (k + 1)))) := by
    unfold gm_W gm_cy
    rw [← gm_sum_sub, gm_sum_1 (k0 := k + 1) (by omega) (by omega)]
    · try dsimp only
      rw [gm_Om_p, Int.sub_zero]
      unfold gm_Om
      rw [gm_SV, gm_SV, gm_O3, gm_om_b]
    · intro m g1 g2 g3
      try dsimp only
      by_cases e : m = k
      · rw [e, e1, gm_Om_p, gm_Om_q]; rfl
      · have mi := gm_nx_in (k := m) (show i ≤ j by omega) g1 (by omega)
        have n1 : gm_nx i j m ≠ k + 1 := fun z => e (by have := gm_nx_pv g1 (by omega) z; omega)
        have ad := gm_adj_nx (k := k) (show i < j by omega) hk (by omega)
        rw [e1] at ad
        have ad' := gm_adj_nx (k := m) (show i < j by omega) g1 (by omega)
        have r := gm_R (u := f k) (u' := f (k + 1)) (p := f m) (q := f (gm_nx i j m)) (hs.2.2 _ _ _ _ ad ad') (fun z => absurd z (hs.2.1 _ _ _ ad g1 (by omega) e g3)) (fun z => by
          by_cases y : gm_nx i j m = k
          · rw [y]
          · exact absurd z (hs.2.1 _ _ _ ad mi.1 mi.2 y n1)) (hs.2.1 _ _ _ ad' (by omega) (by omega) (fun z => g3 z.symm) (fun z => n1 z.symm))
        omega
  have off : ∀ m, i ≤ m → m ≤ j → m ≠ k + 1 → gm_nx i j m ≠ k + 1 → ¬ gm_on (f m) (f (gm_nx i j m)) (f (k + 1)) := fun m g1 g2 g3 g4 =>
    hs.2.1 _ _ _ (gm_adj_nx (show i < j by omega) g1 g2) (by omega) (by omega) (fun z => g3 z.symm) (fun z => g4 z.symm)
  show gm_W f i j (gm_V (f k) (f (gm_nx i j k))) (f k) = gm_W f i j (gm_V (f (k + 1)) (f (gm_nx i j (k + 1)))) (f (k + 1))
  rw [e1]
  have vv := gm_VV (f k) (f (k + 1)) (f (gm_nx i j (k + 1)))
  have vv' : (gm_V (f (k + 1)) (f (gm_nx i j (k + 1)))).1 * (gm_V (f k) (f (k + 1))).2 - (gm_V (f (k + 1)) (f (gm_nx i j (k + 1)))).2 * (gm_V (f k) (f (k + 1))).1 = - gm_O (f k) (f (k + 1)) (f (gm_nx i j (k + 1))) := by rw [← vv]; grind
  have oc : gm_O (f (k + 1)) (f (gm_nx i j (k + 1))) (f k) = gm_O (f k) (f (k + 1)) (f (gm_nx i j (k + 1))) := (gm_Oc _ _ _).symm
  rcases Int.lt_trichotomy (gm_O (f k) (f (k + 1)) (f (gm_nx i j (k + 1)))) 0 with g | g | g
  · have B := gm_F2v (d := gm_V (f (k + 1)) (f (gm_nx i j (k + 1)))) (e := gm_V (f k) (f (k + 1))) h2 (show i ≤ k + 1 by omega) (show k + 1 ≤ j by omega) (by omega) off
    rw [e2, gm_SV, gm_SV, gm_O3, gm_h0, gm_hn _ (by omega)] at B
    have : gm_b (gm_O (f k) (f (k + 1)) (f (gm_nx i j (k + 1)))) = 0 := by unfold gm_b; rw [if_neg (by omega)]
    omega
  · have c : gm_W f i j (gm_V (f k) (f (k + 1))) (f (k + 1)) = gm_W f i j (gm_V (f (k + 1)) (f (gm_nx i j (k + 1)))) (f (k + 1)) := by
      unfold gm_W gm_cy
      refine gm_sum_c (fun m g1 g2 => ?_)
      have ad := gm_adj_nx (k := k) (show i < j by omega) hk (by omega)
      rw [e1] at ad
      have ad2 := gm_adj_nx (k := k + 1) (show i < j by omega) (by omega) (by omega)
      have nf : ¬ 0 < gm_D (f (k + 1)) (f (gm_nx i j (k + 1))) (f k) := by
        intro z
        rcases gm_fold (oc.trans g) z with y | y
        · exact hs.2.1 _ _ _ ad2 hk (by omega) (by omega) (fun z => nk z.symm) y
        · exact hs.2.1 _ _ _ (gm_adj_s ad) nn.1 nn.2 nk1 nk y
      have pos : 0 < (gm_V (f k) (f (k + 1))).1 * (gm_V (f (k + 1)) (f (gm_nx i j (k + 1)))).1 + (gm_V (f k) (f (k + 1))).2 * (gm_V (f (k + 1)) (f (gm_nx i j (k + 1)))).2 := by
        have q : (gm_V (f k) (f (k + 1))).1 * (gm_V (f (k + 1)) (f (gm_nx i j (k + 1)))).1 + (gm_V (f k) (f (k + 1))).2 * (gm_V (f (k + 1)) (f (gm_nx i j (k + 1)))).2 = - gm_D (f (k + 1)) (f (gm_nx i j (k + 1))) (f k) := by unfold gm_V gm_D; grind
        have p1 : 0 < (gm_V (f k) (f (k + 1))).1 * (gm_V (f k) (f (k + 1))).1 + (gm_V (f k) (f (k + 1))).2 * (gm_V (f k) (f (k + 1))).2 := by
          refine gm_sqp (fun y => gm_ne hs hk (by omega) (show i ≤ k + 1 by omega) (by omega) (by omega) ?_)
          have y1 := y.1
          have y2 := y.2
          unfold gm_V at y1 y2
          try dsimp only at y1 y2
          exact Prod.ext (by omega) (by omega)
        have p2 : 0 < (gm_V (f (k + 1)) (f (gm_nx i j (k + 1)))).1 * (gm_V (f (k + 1)) (f (gm_nx i j (k + 1)))).1 + (gm_V (f (k + 1)) (f (gm_nx i j (k + 1)))).2 * (gm_V (f (k + 1)) (f (gm_nx i j (k + 1)))).2 := by
          refine gm_sqp (fun y => gm_ne hs (show i ≤ k + 1 by omega) (by omega) nn.1 nn.2 (fun z => nk1 z.symm) ?_)
          have y1 := y.1
          have y2 := y.2
          unfold gm_V at y1 y2
          try dsimp only at y1 y2
          exact Prod.ext (by omega) (by omega)
        have i2 := gm_id2 (gm_V (f k) (f (k + 1))).1 (gm_V (f k) (f (k + 1))).2 (gm_V (f (k + 1)) (f (gm_nx i j (k + 1)))).1 (gm_V (f (k + 1)) (f (gm_nx i j (k + 1)))).2
        rw [vv, g, Int.mul_zero, Int.add_zero] at i2
        have p3 := Int.mul_pos p1 p2
        have ne : (gm_V (f k) (f (k + 1))).1 * (gm_V (f (k + 1)) (f (gm_nx i j (k + 1)))).1 + (gm_V (f k) (f (k + 1))).2 * (gm_V (f (k + 1)) (f (gm_nx i j (k + 1)))).2 ≠ 0 := by
          intro z
          rw [z] at i2
          omega
        omega
      have pos' : 0 < (gm_V (f (k + 1)) (f (gm_nx i j (k + 1)))).1 * (gm_V (f k) (f (k + 1))).1 + (gm_V (f (k + 1)) (f (gm_nx i j (k + 1)))).2 * (gm_V (f k) (f (k + 1))).2 := by
        have q : (gm_V (f (k + 1)) (f (gm_nx i j (k + 1)))).1 * (gm_V (f k) (f (k + 1))).1 + (gm_V (f (k + 1)) (f (gm_nx i j (k + 1)))).2 * (gm_V (f k) (f (k + 1))).2 = (gm_V (f k) (f (k + 1))).1 * (gm_V (f (k + 1)) (f (gm_nx i j (k + 1)))).1 + (gm_V (f k) (f (k + 1))).2 * (gm_V (f (k + 1)) (f (gm_nx i j (k + 1)))).2 := by grind
        rw [q]; exact pos
      have key : ∀ x : gm_P, 0 < gm_S (gm_V (f k) (f (k + 1))) (f (k + 1)) x ↔ 0 < gm_S (gm_V (f (k + 1)) (f (gm_nx i j (k + 1)))) (f (k + 1)) x := by
        intro x
        have a := (gm_col1 (d1 := x.1 - (f (k + 1)).1) (d2 := x.2 - (f (k + 1)).2) (vv.trans g) pos).2
        have b := (gm_col1 (d1 := x.1 - (f (k + 1)).1) (d2 := x.2 - (f (k + 1)).2) (vv'.trans (by omega)) pos').2
        have c1 : gm_S (gm_V (f k) (f (k + 1))) (f (k + 1)) x = - ((x.1 - (f (k + 1)).1) * (gm_V (f k) (f (k + 1))).2 - (x.2 - (f (k + 1)).2) * (gm_V (f k) (f (k + 1))).1) := by unfold gm_S; grind
        have c2 : gm_S (gm_V (f (k + 1)) (f (gm_nx i j (k + 1)))) (f (k + 1)) x = - ((x.1 - (f (k + 1)).1) * (gm_V (f (k + 1)) (f (gm_nx i j (k + 1)))).2 - (x.2 - (f (k + 1)).2) * (gm_V (f (k + 1)) (f (gm_nx i j (k + 1)))).1) := by unfold gm_S; grind
        rw [c1, c2]
        constructor
        · intro z
          have := a (by omega)
          omega
        · intro z
          have := b (by omega)
          omega
      exact gm_om_c _ (key _) (key _)
    have : gm_b (gm_O (f k) (f (k + 1)) (f (gm_nx i j (k + 1)))) = 0 := by unfold gm_b; rw [if_neg (by omega)]
    omega
  · have B := gm_F2v (d := gm_V (f k) (f (k + 1))) (e := gm_V (f (k + 1)) (f (gm_nx i j (k + 1)))) h2 (show i ≤ k + 1 by omega) (show k + 1 ≤ j by omega) (by omega) off
    rw [e2, gm_SV', gm_SV', gm_SV, gm_SV, gm_O2, gm_h0, gm_O3, gm_h1 g (by decide)] at B
    have : gm_b (gm_O (f k) (f (k + 1)) (f (gm_nx i j (k + 1)))) = 1 := by unfold gm_b; rw [if_pos g]
    omega
theorem gm_Jall {f : Nat → gm_P} {i j : Nat} (h2 : i + 2 ≤ j) (hs : gm_simp f i j) : ∀ n, i + n ≤ j → gm_w f i j (i + n) = gm_w f i j i
  | 0, _ => rfl
  | n + 1, h => by
    have a := gm_Jall h2 hs n (by omega)
    have b := gm_J (k := i + n) h2 hs (by omega) (by omega)
    have e : i + (n + 1) = i + n + 1 := by omega
    rw [e, ← b, a]
theorem gm_Jk {f : Nat → gm_P} {i j k : Nat} (h2 : i + 2 ≤ j) (hs : gm_simp f i j) (h : i ≤ k) (h' : k ≤ j) : gm_w f i j k = gm_w f i j i := by
  have := gm_Jall h2 hs (k - i) (by omega)
  rwa [show i + (k - i) = k by omega] at this
/-! extreme corners -/
def gm_ext (f : Nat → gm_P) (i j m : Nat) (l : gm_P) : Prop := ∀ x, i ≤ x → x ≤ j → x ≠ m → gm_H l (f m) (f x)
/-- at an extreme corner the winding on the left is 1 for a left turn, else 0 -/
theorem gm_extw {f : Nat → gm_P} {i j m : Nat} {l : gm_P} (h2 : i + 2 ≤ j) (h3 : i ≤ m) (h4 : m ≤ j) (hx : gm_ext f i j m l) : gm_w f i j m = gm_b (gm_O (f m) (f (gm_nx i j m)) (f (gm_pv i j m))) := by
  have nn := gm_nx_in (show i ≤ j by omega) h3 h4
  have pp := gm_pv_in h3 h4
  have npm := gm_nxpv h3 h4
  have nm : gm_nx i j m ≠ m := by unfold gm_nx; split <;> omega
  have pm : gm_pv i j m ≠ m := by unfold gm_pv; split <;> omega
  have t := gm_tel (fun k => gm_b (gm_O (f m) (f (gm_nx i j m)) (f k))) (show i ≤ j by omega)
  have hc := hx _ nn.1 nn.2 nm
  have b0 : gm_b 0 = 0 := by unfold gm_b; rw [if_neg (by decide)]
  have s := gm_sum_1 (F := fun k => gm_Om (gm_V (f m) (f (gm_nx i j m))) (f m) (f k) (f (gm_nx i j k)) - (gm_b (gm_O (f m) (f (gm_nx i j m)) (f (gm_nx i j k))) - gm_b (gm_O (f m) (f (gm_nx i j m)) (f k)))) (i := i) (k0 := gm_pv i j m) (n := j + 1 - i) pp.1 (by omega) (fun k g1 g2 g3 => by
    try dsimp only
    by_cases e : k = m
    · rw [e, gm_Om_p, gm_O3, gm_O2, b0]; rfl
    · have kn := gm_nx_in (k := k) (show i ≤ j by omega) g1 (by omega)
      have := gm_L3 hc (hx k g1 (by omega) e) (hx _ kn.1 kn.2 (fun z => g3 (gm_nx_pv g1 (by omega) z)))
      omega)
  rw [gm_sum_sub, t] at s
  try dsimp only at s
  rw [npm, gm_Om_q, gm_O2, b0] at s
  unfold gm_w gm_W gm_cy
  omega
/-- an extreme corner turns -/
theorem gm_extn {f : Nat → gm_P} {i j m : Nat} {l : gm_P} (h2 : i + 2 ≤ j) (hs : gm_simp f i j) (h3 : i ≤ m) (h4 : m ≤ j) (hx : gm_ext f i j m l) : gm_O (f m) (f (gm_nx i j m)) (f (gm_pv i j m)) ≠ 0 := by
  intro z
  have nn := gm_nx_in (show i ≤ j by omega) h3 h4
  have pp := gm_pv_in h3 h4
  have npm := gm_nxpv h3 h4
  have nm : gm_nx i j m ≠ m := by unfold gm_nx; split <;> omega
  have pm : gm_pv i j m ≠ m := by unfold gm_pv; split <;> omega
  have np : gm_nx i j m ≠ gm_pv i j m := by
    unfold gm_nx gm_pv
    repeat' split
    all_goals omega
  have d := gm_L3b (hx _ pp.1 pp.2 pm) (hx _ nn.1 nn.2 nm) z
  have ad := gm_adj_nx (k := m) (show i < j by omega) h3 h4
  have ad' := gm_adj_nx (k := gm_pv i j m) (show i < j by omega) pp.1 pp.2
  rw [npm] at ad'
  rcases gm_fold z d with y | y
  · exact hs.2.1 _ _ _ ad pp.1 pp.2 pm (fun z => np z.symm) y
  · exact hs.2.1 _ _ _ (gm_adj_s ad') nn.1 nn.2 nm np y
/-- there is one for each direction -/
theorem gm_ext_ex {f : Nat → gm_P} {i : Nat} (l : gm_P) (hl : ¬ (l.1 = 0 ∧ l.2 = 0)) : ∀ n, (∀ a b, i ≤ a → a ≤ i + n → i ≤ b → b ≤ i + n → f a = f b → a = b) → ∃ m, i ≤ m ∧ m ≤ i + n ∧ gm_ext f i (i + n) m l := by
  intro n
  induction n with
  | zero => intro _; exact ⟨i, by omega, by omega, fun x h1 h2 h3 => by omega⟩
  | succ n ih =>
    intro hd
    obtain ⟨m, m1, m2, hm⟩ := ih (fun a b h1 h2 h3 h4 => hd a b h1 (by omega) h3 (by omega))
    have ne : f m ≠ f (i + (n + 1)) := fun e => by have := hd m (i + (n + 1)) m1 (by omega) (by omega) (by omega) e; omega
    have S : ∀ a b : gm_P, gm_S l a b = (l.1 * b.2 - l.2 * b.1) - (l.1 * a.2 - l.2 * a.1) := by intro a b; unfold gm_S; grind
    have T : ∀ a b : gm_P, l.1 * (b.1 - a.1) + l.2 * (b.2 - a.2) = (l.1 * b.1 + l.2 * b.2) - (l.1 * a.1 + l.2 * a.2) := by intro a b; grind
    have key : ∀ a b : gm_P, gm_H l a b ↔ ((l.1 * a.2 - l.2 * a.1) < (l.1 * b.2 - l.2 * b.1) ∨ ((l.1 * a.2 - l.2 * a.1) = (l.1 * b.2 - l.2 * b.1) ∧ (l.1 * a.1 + l.2 * a.2) < (l.1 * b.1 + l.2 * b.2))) := by
      intro a b
      unfold gm_H
      rw [S, T]
      omega
    have tot : gm_H l (f m) (f (i + (n + 1))) ∨ gm_H l (f (i + (n + 1))) (f m) := by
      refine Classical.byContradiction fun z => ne ?_
      rw [key, key] at z
      have q1 : l.1 * ((f m).2 - (f (i + (n + 1))).2) - l.2 * ((f m).1 - (f (i + (n + 1))).1) = 0 := by
        have := S (f (i + (n + 1))) (f m)
        unfold gm_S at this
        omega
      have q2 : l.1 * ((f m).1 - (f (i + (n + 1))).1) + l.2 * ((f m).2 - (f (i + (n + 1))).2) = 0 := by
        have := T (f (i + (n + 1))) (f m)
        omega
      have i2 := gm_id2 l.1 l.2 ((f m).1 - (f (i + (n + 1))).1) ((f m).2 - (f (i + (n + 1))).2)
      rw [q1, q2] at i2
      have p := gm_sqp hl
      have r : ((f m).1 - (f (i + (n + 1))).1) * ((f m).1 - (f (i + (n + 1))).1) + ((f m).2 - (f (i + (n + 1))).2) * ((f m).2 - (f (i + (n + 1))).2) = 0 := by
        have s := gm_sg (l.1 * l.1 + l.2 * l.2) (((f m).1 - (f (i + (n + 1))).1) * ((f m).1 - (f (i + (n + 1))).1) + ((f m).2 - (f (i + (n + 1))).2) * ((f m).2 - (f (i + (n + 1))).2))
        omega
      have r2 : (f m).1 - (f (i + (n + 1))).1 = 0 ∧ (f m).2 - (f (i + (n + 1))).2 = 0 := by
        refine Classical.byContradiction fun y => ?_
        have := gm_sqp y
        omega
      exact Prod.ext (by omega) (by omega)
    rcases tot with t | t
    · refine ⟨m, m1, by omega, fun x h1 h2 h3 => ?_⟩
      by_cases e : x = i + (n + 1)
      · rw [e]; exact t
      · exact hm x h1 (by omega) h3
    · refine ⟨i + (n + 1), by omega, by omega, fun x h1 h2 h3 => ?_⟩
      by_cases e : x = m
      · rw [e]; exact t
      · have a := hm x h1 (by omega) e
        rw [key] at a t ⊢
        omega
