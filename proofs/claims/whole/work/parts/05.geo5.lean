/-! a simple polygon that runs to the left has an ear, away from its closing edge -/
theorem gm_argmax {i : Nat} (Q : Nat → Prop) (key : Nat → Int) : ∀ n, (∃ x, i ≤ x ∧ x ≤ i + n ∧ Q x) → ∃ l, i ≤ l ∧ l ≤ i + n ∧ Q l ∧ ∀ x, i ≤ x → x ≤ i + n → Q x → key x ≤ key l := by
  intro n
  induction n with
  | zero =>
    intro ⟨x, h1, h2, h3⟩
    refine ⟨x, h1, h2, h3, fun y g1 g2 g3 => ?_⟩
    rw [show y = x by omega]
    exact Int.le_refl _
  | succ n ih =>
    intro ⟨x, h1, h2, h3⟩
    by_cases q : ∃ x, i ≤ x ∧ x ≤ i + n ∧ Q x
    · obtain ⟨l, l1, l2, l3, l4⟩ := ih q
      by_cases w : Q (i + (n + 1)) ∧ key l < key (i + (n + 1))
      · refine ⟨i + (n + 1), by omega, by omega, w.1, fun y g1 g2 g3 => ?_⟩
        by_cases e : y = i + (n + 1)
        · rw [e]; exact Int.le_refl _
        · have := l4 y g1 (by omega) g3
          omega
      · refine ⟨l, l1, by omega, l3, fun y g1 g2 g3 => ?_⟩
        by_cases e : y = i + (n + 1)
        · rw [e] at g3 ⊢
          have : ¬ key l < key (i + (n + 1)) := fun z => w ⟨g3, z⟩
          omega
        · exact l4 y g1 (by omega) g3
    · have e : x = i + (n + 1) := by
        refine Classical.byContradiction fun z => q ⟨x, h1, by omega, h3⟩
      refine ⟨x, h1, h2, h3, fun y g1 g2 g3 => ?_⟩
      have e' : y = i + (n + 1) := by
        refine Classical.byContradiction fun z => q ⟨y, g1, by omega, g3⟩
      rw [e, e']; exact Int.le_refl _
theorem gm_V0 {x x' : gm_P} (h : x ≠ x') : ¬ ((gm_V x x').1 = 0 ∧ (gm_V x x').2 = 0) := by
  intro z
  have z1 := z.1
  have z2 := z.2
  unfold gm_V at z1 z2
  try dsimp only at z1 z2
  exact h (Prod.ext (by omega) (by omega))
/-- along a segment that doesn't meet the polygon behind its start -/
theorem gm_step {f : Nat → gm_P} {r s : Nat} {x x' : gm_P} (hrs : r + 2 ≤ s) (h0 : gm_W f r s (gm_V x x') x = 0) (ne : x ≠ x') (c1 : ∀ k, r ≤ k → k ≤ s → ¬ gm_px x x' (f k) (f (gm_nx r s k))) (c2 : ∀ k, r ≤ k → k ≤ s → gm_on x x' (f k) → f k = x) (c4 : ∀ k, r ≤ k → k ≤ s → ¬ gm_on (f k) (f (gm_nx r s k)) x') (d : gm_P) (hd : ¬ (d.1 = 0 ∧ d.2 = 0)) : gm_W f r s d x' = 0 := by
  have e : gm_W f r s (gm_V x x') x = gm_W f r s (gm_V x x') x' := by
    unfold gm_W gm_cy
    refine gm_sum_c (fun k g1 g2 => ?_)
    have kn := gm_nx_in (k := k) (show r ≤ s by omega) g1 (by omega)
    exact gm_R (c1 k g1 (by omega)) (c2 k g1 (by omega)) (c2 _ kn.1 kn.2) (c4 k g1 (by omega))
  rw [gm_F2' (d := d) (e := gm_V x x') (by omega) hd (gm_V0 ne) c4, ← e, h0]
/-- a point in the triangle of an ear is wound around -/
theorem gm_earx {f : Nat → gm_P} {r s t : Nat} {x : gm_P} (hrs : r + 2 ≤ s) (hs : gm_simp f r s) (hw : gm_w f r s r = 1) (t1 : r < t) (t2 : t < s) (hT : 0 < gm_O (f (t - 1)) (f t) (f (t + 1))) (he : ∀ y, r ≤ y → y ≤ s → y ≠ t - 1 → y ≠ t → y ≠ t + 1 → ¬ gm_in (f (t - 1)) (f t) (f (t + 1)) (f y)) (xo : ∀ k, r ≤ k → k ≤ s → ¬ gm_on (f k) (f (gm_nx r s k)) x) (xin : gm_in (f (t - 1)) (f t) (f (t + 1)) x) (hz : ∀ d : gm_P, ¬ (d.1 = 0 ∧ d.2 = 0) → gm_W f r s d x = 0) : False := by
  have n1 : gm_nx r s t = t + 1 := by unfold gm_nx; rw [if_neg (by omega)]
  have p1 : gm_pv r s t = t - 1 := by unfold gm_pv; rw [if_neg (by omega)]
  have n2 : gm_nx r s (t - 1) = t := by unfold gm_nx; rw [if_neg (by omega)]; omega
  have ad1 := gm_adj_nx (k := t - 1) (show r < s by omega) (by omega) (by omega)
  rw [n2] at ad1
  have ad2 := gm_adj_nx (k := t) (show r < s by omega) (by omega) (by omega)
  rw [n1] at ad2
  have o1 := xo (t - 1) (by omega) (by omega)
  rw [n2] at o1
  have o2 := xo t (by omega) (by omega)
  rw [n1] at o2
  have z1 := gm_strict hT xin o1
  have z2 := gm_strict2 hT xin o2
  have z3 := xin.2.2
  have wt : gm_w f r s t = 1 := by rw [gm_Jk hrs hs (by omega) (by omega), hw]
  unfold gm_w at wt
  rw [n1] at wt
  have eva : gm_O (f t) x (f (t - 1)) = gm_O (f (t - 1)) (f t) x := by unfold gm_O; grind
  have evc : gm_O (f t) x (f (t + 1)) = - gm_O (f t) (f (t + 1)) x := by unfold gm_O; grind
  have B := gm_F2v (f := f) (i := r) (j := s) (m := t) (d := gm_V (f t) (f (t + 1))) (e := gm_V (f t) x) hrs (by omega) (by omega) (by rw [gm_VV1]; exact z2) (fun k g1 g2 g3 g4 => hs.2.1 _ _ _ (gm_adj_nx (show r < s by omega) g1 g2) (by omega) (by omega) (fun z => g3 z.symm) (fun z => g4 z.symm))
  rw [n1, p1, gm_SV, gm_SV, gm_SV, gm_SV, gm_O3, gm_h0, gm_hp _ (by omega)] at B
  have W1 : gm_W f r s (gm_V (f t) x) (f t) = 1 := by omega
  have nt : f t ≠ x := by
    intro z
    rw [← z, gm_O3] at z1
    omega
  have e : gm_W f r s (gm_V (f t) x) (f t) = gm_W f r s (gm_V (f t) x) x := by
    unfold gm_W gm_cy
    refine gm_sum_c (fun k g1 g2 => ?_)
    have kn := gm_nx_in (k := k) (show r ≤ s by omega) g1 (by omega)
    have c2 : ∀ y, r ≤ y → y ≤ s → gm_on (f t) x (f y) → f y = f t := by
      intro y y1 y2 h
      by_cases e : y = t
      · rw [e]
      · exfalso
        have ny : f y ≠ f t := gm_ne hs y1 y2 (by omega) (by omega) e
        have q1 := gm_seg (f (t - 1)) (f t) h (by rw [gm_O3]; exact Int.le_refl _) (by omega) ny
        have q2 := gm_seg (f t) (f (t + 1)) h (by rw [gm_O2]; exact Int.le_refl _) (by omega) ny
        have q3 := gm_seg (f (t + 1)) (f (t - 1)) h (by rw [gm_Oc]; omega) z3 ny
        by_cases e1 : y = t - 1
        · have := h.1
          rw [e1] at this
          omega
        · by_cases e2 : y = t + 1
          · have := h.1
            rw [e2] at this
            omega
          · exact he y y1 y2 e1 e e2 ⟨q1, q2, q3⟩
    have c1 : ∀ p q, gm_adj r s p q → gm_px (f t) x (f p) (f q) → ¬ gm_O (f (t + 1)) (f (t - 1)) x < gm_O (f (t + 1)) (f (t - 1)) (f p) := by
      intro p q ad px hi
      have ap := ad.1
      have np : ∀ y, gm_O (f t) x (f y) = 0 → p ≠ y := by
        intro y hy e
        have := px.1
        rw [e] at this
        unfold gm_opp at this
        omega
      have npt : p ≠ t := np t (gm_O2 _ _)
      have npa : p ≠ t - 1 := fun e => by rw [e, gm_O3] at hi; omega
      have npc : p ≠ t + 1 := fun e => by rw [e, gm_O2] at hi; omega
      rcases gm_CR hT z1 z2 z3 px (by omega) (he p ap.1 ap.2.1 npa npt npc) with h | h
      · exact hs.2.2 _ _ _ _ ad1 ad h
      · exact hs.2.2 _ _ _ _ ad2 ad h
    have ad := gm_adj_nx (k := k) (show r < s by omega) g1 (by omega)
    refine gm_R (fun px => ?_) (c2 k g1 (by omega)) (c2 _ kn.1 kn.2) (xo k g1 (by omega))
    rcases gm_hi (a := f (t - 1)) (c := f (t + 1)) (gm_low z1 z2) px with h | h
    · exact c1 _ _ ad px h
    · exact c1 _ _ (gm_adj_s ad) (gm_px_s2 px) h
  have := hz (gm_V (f t) x) (gm_V0 nt)
  omega
/-- an extreme corner off the closing edge -/
theorem gm_mid {f : Nat → gm_P} {i j : Nat} (h2 : i + 2 ≤ j) (hs : gm_simp f i j) : ∃ m l, i < m ∧ m < j ∧ gm_ext f i j m l := by
  have ne := gm_ne hs (a := i) (b := j) (by omega) (by omega) (by omega) (by omega) (by omega)
  have v0 := gm_V0 ne
  have v1 : ¬ ((gm_V (f j) (f i)).1 = 0 ∧ (gm_V (f j) (f i)).2 = 0) := gm_V0 (fun z => ne z.symm)
  have ij : i + (j - i) = j := by omega
  have E1 := gm_ext_ex (f := f) (i := i) (gm_V (f i) (f j)) v0 (j - i) (by rw [ij]; exact hs.1)
  have E2 := gm_ext_ex (f := f) (i := i) (gm_V (f j) (f i)) v1 (j - i) (by rw [ij]; exact hs.1)
  rw [ij] at E1 E2
  obtain ⟨m1, a1, a2, a3⟩ := E1
  obtain ⟨m2, b1, b2, b3⟩ := E2
  by_cases q1 : m1 = i ∨ m1 = j
  · by_cases q2 : m2 = i ∨ m2 = j
    · exfalso
      have k1 : ∀ x, i ≤ x → x ≤ j → 0 ≤ gm_O (f i) (f j) (f x) := by
        intro x x1 x2
        by_cases e : x = m1
        · rcases q1 with q | q
          · rw [e, q, gm_O2]; exact Int.le_refl _
          · rw [e, q, gm_O3]; exact Int.le_refl _
        · have h := a3 x x1 x2 e
          have g : gm_S (gm_V (f i) (f j)) (f m1) (f x) = gm_O (f i) (f j) (f x) := by
            rcases q1 with q | q
            · rw [q, gm_SV]
            · rw [q, gm_SV']
          unfold gm_H at h
          rw [g] at h
          omega
      have k2 : ∀ x, i ≤ x → x ≤ j → 0 ≤ gm_O (f j) (f i) (f x) := by
        intro x x1 x2
        by_cases e : x = m2
        · rcases q2 with q | q
          · rw [e, q, gm_O3]; exact Int.le_refl _
          · rw [e, q, gm_O2]; exact Int.le_refl _
        · have h := b3 x x1 x2 e
          have g : gm_S (gm_V (f j) (f i)) (f m2) (f x) = gm_O (f j) (f i) (f x) := by
            rcases q2 with q | q
            · rw [q, gm_SV']
            · rw [q, gm_SV]
          unfold gm_H at h
          rw [g] at h
          omega
      have k : ∀ x, i ≤ x → x ≤ j → gm_O (f i) (f j) (f x) = 0 := by
        intro x x1 x2
        have h1 := k1 x x1 x2
        have h2 := k2 x x1 x2
        have h3 := gm_Os (f i) (f j) (f x)
        omega
      refine gm_extn h2 hs a1 a2 a3 ?_
      have nn := gm_nx_in (k := m1) (show i ≤ j by omega) a1 a2
      have pp := gm_pv_in a1 a2
      have x0 := k m1 a1 a2
      have x1 := k _ nn.1 nn.2
      have x2 := k _ pp.1 pp.2
      have e : gm_O (f m1) (f (gm_nx i j m1)) (f (gm_pv i j m1)) * gm_D (f i) (f j) (f j) = (gm_O (f i) (f j) (f (gm_pv i j m1)) - gm_O (f i) (f j) (f m1)) * (((f j).1 - (f i).1) * ((f (gm_nx i j m1)).1 - (f m1).1) + ((f j).2 - (f i).2) * ((f (gm_nx i j m1)).2 - (f m1).2)) - (gm_O (f i) (f j) (f (gm_nx i j m1)) - gm_O (f i) (f j) (f m1)) * (((f j).1 - (f i).1) * ((f (gm_pv i j m1)).1 - (f m1).1) + ((f j).2 - (f i).2) * ((f (gm_pv i j m1)).2 - (f m1).2)) := by
        unfold gm_O gm_D; grind
      rw [x0, x1, x2] at e
      have dp : 0 < gm_D (f i) (f j) (f j) := gm_sqp v0
      have s := gm_sg (gm_O (f m1) (f (gm_nx i j m1)) (f (gm_pv i j m1))) (gm_D (f i) (f j) (f j))
      simp only [Int.sub_self, Int.zero_mul] at e
      omega
    · exact ⟨m2, _, by omega, by omega, b3⟩
  · exact ⟨m1, _, by omega, by omega, a3⟩
/-- the diagonal from an extreme corner that is no ear -/
theorem gm_diag {f : Nat → gm_P} {i j m l : Nat} (hs : gm_simp f i j) (h1 : i < m) (h2 : m < j) (l1 : i ≤ l) (l2 : l ≤ j) (hT : 0 < gm_O (f (m - 1)) (f m) (f (m + 1))) (ln : l ≠ m - 1 ∧ l ≠ m ∧ l ≠ m + 1) (lin : gm_in (f (m - 1)) (f m) (f (m + 1)) (f l)) (mx : ∀ x, i ≤ x → x ≤ j → x ≠ m - 1 ∧ x ≠ m ∧ x ≠ m + 1 → gm_in (f (m - 1)) (f m) (f (m + 1)) (f x) → gm_O (f (m + 1)) (f (m - 1)) (f x) ≤ gm_O (f (m + 1)) (f (m - 1)) (f l)) : 0 < gm_O (f (m - 1)) (f m) (f l) ∧ 0 < gm_O (f m) (f (m + 1)) (f l) ∧ (∀ x, i ≤ x → x ≤ j → x ≠ m → x ≠ l → ¬ gm_on (f m) (f l) (f x)) ∧ (∀ p q, gm_adj i j p q → ¬ gm_px (f m) (f l) (f p) (f q)) := by
  have ad1 : gm_adj i j (m - 1) m := by unfold gm_adj; omega
  have ad2 : gm_adj i j m (m + 1) := by unfold gm_adj; omega
  have z1 := gm_strict hT lin (hs.2.1 _ _ _ ad1 l1 l2 ln.1 ln.2.1)
  have z2 := gm_strict2 hT lin (hs.2.1 _ _ _ ad2 l1 l2 ln.2.1 ln.2.2)
  have z3 := lin.2.2
  have lo := gm_low z1 z2
  have eva : gm_O (f m) (f l) (f (m - 1)) = gm_O (f (m - 1)) (f m) (f l) := by unfold gm_O; grind
  have evc : gm_O (f m) (f l) (f (m + 1)) = - gm_O (f m) (f (m + 1)) (f l) := by unfold gm_O; grind
  refine ⟨z1, z2, ?_, ?_⟩
  · intro x x1 x2 n1 n2 h
    have nv : f x ≠ f m := gm_ne hs x1 x2 (by omega) (by omega) n1
    have nz : f x ≠ f l := gm_ne hs x1 x2 l1 l2 n2
    have xa : x ≠ m - 1 := fun e => by have := h.1; rw [e] at this; omega
    have xc : x ≠ m + 1 := fun e => by have := h.1; rw [e] at this; omega
    have q1 := gm_seg (f (m - 1)) (f m) h (by rw [gm_O3]; exact Int.le_refl _) (by omega) nv
    have q2 := gm_seg (f m) (f (m + 1)) h (by rw [gm_O2]; exact Int.le_refl _) (by omega) nv
    have q3 := gm_seg (f (m + 1)) (f (m - 1)) h (by omega) z3 nv
    have := mx x x1 x2 ⟨xa, n1, xc⟩ ⟨q1, q2, q3⟩
    have := gm_segh (f (m + 1)) (f (m - 1)) h lo nv nz
    omega
  · have c1 : ∀ p q, gm_adj i j p q → gm_px (f m) (f l) (f p) (f q) → ¬ gm_O (f (m + 1)) (f (m - 1)) (f l) < gm_O (f (m + 1)) (f (m - 1)) (f p) := by
      intro p q ad px hi
      have ap := ad.1
      have np : ∀ y, gm_O (f m) (f l) (f y) = 0 → p ≠ y := by
        intro y hy e
        have := px.1
        rw [e] at this
        unfold gm_opp at this
        omega
      have npm : p ≠ m := np m (gm_O2 _ _)
      have npa : p ≠ m - 1 := fun e => by rw [e, gm_O3] at hi; omega
      have npc : p ≠ m + 1 := fun e => by rw [e, gm_O2] at hi; omega
      have no : ¬ gm_in (f (m - 1)) (f m) (f (m + 1)) (f p) := fun z => by
        have := mx p ap.1 ap.2.1 ⟨npa, npm, npc⟩ z
        omega
      rcases gm_CR hT z1 z2 z3 px (by omega) no with h | h
      · exact hs.2.2 _ _ _ _ ad1 ad h
      · exact hs.2.2 _ _ _ _ ad2 ad h
    intro p q ad px
    rcases gm_hi (a := f (m - 1)) (c := f (m + 1)) lo px with h | h
    · exact c1 _ _ ad px h
    · exact c1 _ _ (gm_adj_s ad) (gm_px_s2 px) h
theorem gm_sub {f : Nat → gm_P} {i j r s : Nat} (hs : gm_simp f i j) (h1 : i ≤ r) (h2 : r + 2 ≤ s) (h3 : s ≤ j) (d1 : ∀ x, i ≤ x → x ≤ j → x ≠ r → x ≠ s → ¬ gm_on (f r) (f s) (f x)) (d2 : ∀ p q, gm_adj i j p q → ¬ gm_px (f r) (f s) (f p) (f q)) : gm_simp f r s := by
  have ad : ∀ a b, gm_adj r s a b → gm_adj i j a b ∨ (a = r ∧ b = s) ∨ (a = s ∧ b = r) := by
    intro a b h
    unfold gm_adj at *
    omega
  refine ⟨fun a b g1 g2 g3 g4 => hs.1 a b (by omega) (by omega) (by omega) (by omega), ?_, ?_⟩
  · intro a b x h g1 g2 g3 g4 on
    rcases ad a b h with k | ⟨k1, k2⟩ | ⟨k1, k2⟩
    · exact hs.2.1 a b x k (by omega) (by omega) g3 g4 on
    · rw [k1, k2] at on
      exact d1 x (by omega) (by omega) (by omega) (by omega) on
    · rw [k1, k2] at on
      exact d1 x (by omega) (by omega) (by omega) (by omega) (gm_on_s on)
  · intro a b c e h g px
    have self : ∀ a b : gm_P, ¬ gm_px a b a b := by
      intro a b h
      have := h.1
      rw [gm_O2] at this
      unfold gm_opp at this
      omega
    have self2 : ∀ a b : gm_P, ¬ gm_px a b b a := fun a b h => self a b (gm_px_s2 h)
    rcases ad a b h with k | ⟨k1, k2⟩ | ⟨k1, k2⟩ <;> rcases ad c e g with y | ⟨y1, y2⟩ | ⟨y1, y2⟩
    · exact hs.2.2 a b c e k y px
    · rw [y1, y2] at px; exact d2 _ _ k (gm_px_s px)
    · rw [y1, y2] at px; exact d2 _ _ k (gm_px_s1 (gm_px_s px))
    · rw [k1, k2] at px; exact d2 _ _ y px
    · rw [k1, k2, y1, y2] at px; exact self _ _ px
    · rw [k1, k2, y1, y2] at px; exact self2 _ _ px
    · rw [k1, k2] at px; exact d2 _ _ y (gm_px_s1 px)
    · rw [k1, k2, y1, y2] at px; exact self2 _ _ px
    · rw [k1, k2, y1, y2] at px; exact self _ _ px
/-- an edge of the range r .. s -/
theorem gm_edge {i j r s k : Nat} (h1 : i ≤ r) (h2 : r + 2 ≤ s) (h3 : s ≤ j) (k1 : r ≤ k) (k2 : k ≤ s) : gm_adj i j k (gm_nx r s k) ∨ (k = s ∧ gm_nx r s k = r) := by
  unfold gm_adj gm_nx
  split <;> omega
theorem gm_off {f : Nat → gm_P} {i j r s x : Nat} (hs : gm_simp f i j) (h1 : i ≤ r) (h2 : r + 2 ≤ s) (h3 : s ≤ j) (d1 : ∀ x, i ≤ x → x ≤ j → x ≠ r → x ≠ s → ¬ gm_on (f r) (f s) (f x)) (x1 : i ≤ x) (x2 : x ≤ j) (x3 : x < r ∨ s < x) (k : Nat) (k1 : r ≤ k) (k2 : k ≤ s) : ¬ gm_on (f k) (f (gm_nx r s k)) (f x) := by
  intro on
  have kn := gm_nx_in (show r ≤ s by omega) k1 k2
  rcases gm_edge h1 h2 h3 k1 k2 with a | ⟨a1, a2⟩
  · exact hs.2.1 _ _ _ a x1 x2 (by omega) (by omega) on
  · rw [a2, a1] at on
    exact d1 x x1 x2 (by omega) (by omega) (gm_on_s on)
theorem gm_out {f : Nat → gm_P} {i j r s x x' : Nat} (hs : gm_simp f i j) (h1 : i ≤ r) (h2 : r + 2 ≤ s) (h3 : s ≤ j) (d1 : ∀ x, i ≤ x → x ≤ j → x ≠ r → x ≠ s → ¬ gm_on (f r) (f s) (f x)) (d2 : ∀ p q, gm_adj i j p q → ¬ gm_px (f r) (f s) (f p) (f q)) (ad : gm_adj i j x x') (ne : x ≠ x') (xo : x' < r ∨ s < x') (h0 : gm_W f r s (gm_V (f x) (f x')) (f x) = 0) (d : gm_P) (hd : ¬ (d.1 = 0 ∧ d.2 = 0)) : gm_W f r s d (f x') = 0 := by
  have a := ad.1
  refine gm_step h2 h0 (gm_ne hs a.1 a.2.1 a.2.2.1 a.2.2.2 ne) ?_ ?_ (gm_off hs h1 h2 h3 d1 a.2.2.1 a.2.2.2 xo) d hd
  · intro k k1 k2 px
    rcases gm_edge h1 h2 h3 k1 k2 with b | ⟨b1, b2⟩
    · exact hs.2.2 _ _ _ _ ad b px
    · rw [b2, b1] at px
      exact d2 _ _ ad (gm_px_s1 (gm_px_s px))
  · intro k k1 k2 on
    by_cases e : k = x
    · rw [e]
    · exact absurd on (hs.2.1 _ _ _ ad (by omega) (by omega) e (by omega))
theorem gm_walkA {Z : Nat → Prop} {i j r s : Nat} (h1 : i < r) (h2 : r ≤ s) (h3 : s ≤ j) (st : ∀ x x', gm_adj i j x x' → x ≠ x' → (x < r ∨ s < x) → (x' < r ∨ s < x') → Z x → Z x') (h0 : Z (r - 1)) (x : Nat) (x1 : i ≤ x) (x2 : x ≤ j) (x3 : x < r ∨ s < x) : Z x := by
  have dn : ∀ n, i + n ≤ r - 1 → Z (r - 1 - n) := by
    intro n
    induction n with
    | zero => intro _; exact h0
    | succ n ih =>
      intro h
      exact st (r - 1 - n) (r - 1 - (n + 1)) (by unfold gm_adj; omega) (by omega) (by omega) (by omega) (ih (by omega))
  rcases x3 with y | y
  · have := dn (r - 1 - x) (by omega)
    rwa [show r - 1 - (r - 1 - x) = x by omega] at this
  · have zi := dn (r - 1 - i) (by omega)
    rw [show r - 1 - (r - 1 - i) = i by omega] at zi
    have zj := st i j (by unfold gm_adj; omega) (by omega) (by omega) (by omega) zi
    have up : ∀ n, s < j - n → Z (j - n) := by
      intro n
      induction n with
      | zero => intro _; exact zj
      | succ n ih =>
        intro h
        exact st (j - n) (j - (n + 1)) (by unfold gm_adj; omega) (by omega) (by omega) (by omega) (ih (by omega))
    have := up (j - x) (by omega)
    rwa [show j - (j - x) = x by omega] at this
theorem gm_walkB {Z : Nat → Prop} {i j r s : Nat} (h1 : i ≤ r) (h2 : r ≤ s) (h3 : s < j) (st : ∀ x x', gm_adj i j x x' → x ≠ x' → (x < r ∨ s < x) → (x' < r ∨ s < x') → Z x → Z x') (h0 : Z (s + 1)) (x : Nat) (x1 : i ≤ x) (x2 : x ≤ j) (x3 : x < r ∨ s < x) : Z x := by
  have up : ∀ n, s + 1 + n ≤ j → Z (s + 1 + n) := by
    intro n
    induction n with
    | zero => intro _; exact h0
    | succ n ih =>
      intro h
      exact st (s + 1 + n) (s + 1 + (n + 1)) (by unfold gm_adj; omega) (by omega) (by omega) (by omega) (ih (by omega))
  rcases x3 with y | y
  · have zj := up (j - (s + 1)) (by omega)
    rw [show s + 1 + (j - (s + 1)) = j by omega] at zj
    have zi := st j i (by unfold gm_adj; omega) (by omega) (by omega) (by omega) zj
    have dn : ∀ n, i + n < r → Z (i + n) := by
      intro n
      induction n with
      | zero => intro _; exact zi
      | succ n ih =>
        intro h
        exact st (i + n) (i + (n + 1)) (by unfold gm_adj; omega) (by omega) (by omega) (by omega) (ih (by omega))
    have := dn (x - i) (by omega)
    rwa [show i + (x - i) = x by omega] at this
  · have := up (x - (s + 1)) (by omega)
    rwa [show s + 1 + (x - (s + 1)) = x by omega] at this
theorem gm_b1 {x : Int} (h : gm_b x = 1) : 0 < x := by
  unfold gm_b at h
  split at h
  · assumption
  · omega
theorem gm_bp {x : Int} (h : 0 < x) : gm_b x = 1 := by unfold gm_b; rw [if_pos h]
def gm_ear (f : Nat → gm_P) (i j t : Nat) : Prop := i < t ∧ t < j ∧ 0 < gm_O (f (t - 1)) (f t) (f (t + 1)) ∧ ∀ x, i ≤ x → x ≤ j → x ≠ t - 1 → x ≠ t → x ≠ t + 1 → ¬ gm_in (f (t - 1)) (f t) (f (t + 1)) (f x)
/-- from an ear of the part r .. s to one of the whole -/
theorem gm_lift {f : Nat → gm_P} {i j r s t : Nat} (hs : gm_simp f i j) (h1 : i ≤ r) (h2 : r + 2 ≤ s) (h3 : s ≤ j) (d1 : ∀ x, i ≤ x → x ≤ j → x ≠ r → x ≠ s → ¬ gm_on (f r) (f s) (f x)) (d2 : ∀ p q, gm_adj i j p q → ¬ gm_px (f r) (f s) (f p) (f q)) (hw : gm_w f r s r = 1) (he : gm_ear f r s t) (hz : ∀ x, i ≤ x → x ≤ j → (x < r ∨ s < x) → ∀ d : gm_P, ¬ (d.1 = 0 ∧ d.2 = 0) → gm_W f r s d (f x) = 0) : gm_ear f i j t := by
  obtain ⟨t1, t2, t3, t4⟩ := he
  refine ⟨by omega, by omega, t3, fun x x1 x2 n1 n2 n3 xin => ?_⟩
  by_cases o : x < r ∨ s < x
  · exact gm_earx h2 (gm_sub hs h1 h2 h3 d1 d2) hw t1 t2 t3 t4 (gm_off hs h1 h2 h3 d1 x1 x2 o) xin (hz x x1 x2 o)
  · exact t4 x (by omega) (by omega) n1 n2 n3 xin
theorem gm_E : ∀ (n : Nat) (f : Nat → gm_P) (i j : Nat), j - i ≤ n → i + 2 ≤ j → gm_simp f i j → gm_w f i j i = 1 → ∃ t, gm_ear f i j t := by
  intro n
  induction n with
  | zero => intro f i j h1 h2; omega
  | succ n ih =>
    intro f i j hn h2 hs hw
    obtain ⟨m, l0, m1, m2, hx⟩ := gm_mid h2 hs
    have nm : gm_nx i j m = m + 1 := by unfold gm_nx; rw [if_neg (by omega)]
    have pm : gm_pv i j m = m - 1 := by unfold gm_pv; rw [if_neg (by omega)]
    have wm : gm_w f i j m = 1 := by rw [gm_Jk h2 hs (by omega) (by omega), hw]
    have hT' : 0 < gm_O (f m) (f (m + 1)) (f (m - 1)) := by
      rw [gm_extw h2 (by omega) (by omega) hx, nm, pm] at wm
      exact gm_b1 wm
    have hT : 0 < gm_O (f (m - 1)) (f m) (f (m + 1)) := by rw [gm_Oc]; exact hT'
    by_cases em : ∃ x, i ≤ x ∧ x ≤ i + (j - i) ∧ ((x ≠ m - 1 ∧ x ≠ m ∧ x ≠ m + 1) ∧ gm_in (f (m - 1)) (f m) (f (m + 1)) (f x))
    · obtain ⟨l, l1, l2, ⟨ln, lin⟩, mx⟩ := gm_argmax (i := i) _ (fun x => gm_O (f (m + 1)) (f (m - 1)) (f x)) (j - i) em
      have l2' : l ≤ j := by omega
      obtain ⟨z1, z2, d1, d2⟩ := gm_diag hs m1 m2 l1 l2' hT ln lin (fun x x1 x2 g1 g2 => mx x x1 (by omega) ⟨g1, g2⟩)
      have eva : gm_O (f m) (f l) (f (m - 1)) = gm_O (f (m - 1)) (f m) (f l) := by unfold gm_O; grind
      have eav : gm_O (f m) (f (m - 1)) (f l) = - gm_O (f (m - 1)) (f m) (f l) := by unfold gm_O; grind
      by_cases lm : m < l
      · -- the part m .. l
        have sq := gm_sub hs (r := m) (s := l) (by omega) (by omega) l2' (fun x a b c d => d1 x a b c d) d2
        have nq : gm_nx m l m = m + 1 := by unfold gm_nx; rw [if_neg (by omega)]
        have pq : gm_pv m l m = l := by unfold gm_pv; rw [if_pos rfl]
        have xq : gm_ext f m l m l0 := fun x a b c => hx x (by omega) (by omega) c
        have wq : gm_w f m l m = 1 := by
          rw [gm_extw (by omega) (by omega) (by omega) xq, nq, pq]
          exact gm_bp z2
        obtain ⟨t, ht⟩ := ih f m l (by omega) (by omega) sq wq
        refine ⟨t, gm_lift hs (r := m) (s := l) (by omega) (by omega) l2' d1 d2 wq ht ?_⟩
        refine fun x x1 x2 x3 => gm_walkA (Z := fun x => ∀ d : gm_P, ¬ (d.1 = 0 ∧ d.2 = 0) → gm_W f m l d (f x) = 0) m1 (by omega) l2' ?_ ?_ x x1 x2 x3
        · intro x x' ad ne _ o' hz
          exact gm_out hs (by omega) (by omega) l2' d1 d2 ad ne o' (hz _ (gm_V0 (gm_ne hs ad.1.1 ad.1.2.1 ad.1.2.2.1 ad.1.2.2.2 ne)))
        · refine gm_out (x := m) hs (by omega) (by omega) l2' d1 d2 (by unfold gm_adj; omega) (by omega) (by omega) ?_
          have B := gm_F2v (f := f) (i := m) (j := l) (m := m) (d := gm_V (f m) (f (m + 1))) (e := gm_V (f m) (f (m - 1))) (by omega) (by omega) (by omega) (by rw [gm_VV1]; exact hT') (fun k g1 g2 g3 g4 => sq.2.1 _ _ _ (gm_adj_nx (by omega) g1 g2) (by omega) (by omega) (fun z => g3 z.symm) (fun z => g4 z.symm))
          rw [nq, pq, gm_SV, gm_SV, gm_SV, gm_SV, gm_O3, gm_h0, gm_h1 z2 (by omega)] at B
          unfold gm_w at wq
          rw [nq] at wq
          omega
      · -- the part l .. m
        have dd1 : ∀ x, i ≤ x → x ≤ j → x ≠ l → x ≠ m → ¬ gm_on (f l) (f m) (f x) := fun x a b c d h => d1 x a b d c (gm_on_s h)
        have dd2 : ∀ p q, gm_adj i j p q → ¬ gm_px (f l) (f m) (f p) (f q) := fun p q a h => d2 p q a (gm_px_s1 h)
        have sq := gm_sub hs (r := l) (s := m) l1 (by omega) (by omega) dd1 dd2
        have nq : gm_nx l m m = l := by unfold gm_nx; rw [if_pos rfl]
        have pq : gm_pv l m m = m - 1 := by unfold gm_pv; rw [if_neg (by omega)]
        have xq : gm_ext f l m m l0 := fun x a b c => hx x (by omega) (by omega) c
        have wq' : gm_w f l m m = 1 := by
          rw [gm_extw (by omega) (by omega) (by omega) xq, nq, pq]
          exact gm_bp (by omega)
        have wq : gm_w f l m l = 1 := by rw [← gm_Jk (k := m) (by omega) sq (by omega) (by omega), wq']
        obtain ⟨t, ht⟩ := ih f l m (by omega) (by omega) sq wq
        refine ⟨t, gm_lift hs (r := l) (s := m) l1 (by omega) (by omega) dd1 dd2 wq ht ?_⟩
        refine fun x x1 x2 x3 => gm_walkB (Z := fun x => ∀ d : gm_P, ¬ (d.1 = 0 ∧ d.2 = 0) → gm_W f l m d (f x) = 0) l1 (by omega) m2 ?_ ?_ x x1 x2 x3
        · intro x x' ad ne _ o' hz
          exact gm_out hs l1 (by omega) (by omega) dd1 dd2 ad ne o' (hz _ (gm_V0 (gm_ne hs ad.1.1 ad.1.2.1 ad.1.2.2.1 ad.1.2.2.2 ne)))
        · refine gm_out (x := m) hs l1 (by omega) (by omega) dd1 dd2 (by unfold gm_adj; omega) (by omega) (by omega) ?_
          have B := gm_F2v (f := f) (i := l) (j := m) (m := m) (d := gm_V (f m) (f (m + 1))) (e := gm_V (f m) (f l)) (by omega) (by omega) (by omega) (by rw [gm_VV1]; exact z2) (fun k g1 g2 g3 g4 => sq.2.1 _ _ _ (gm_adj_nx (by omega) g1 g2) (by omega) (by omega) (fun z => g3 z.symm) (fun z => g4 z.symm))
          rw [nq, pq, gm_SV, gm_SV, gm_SV, gm_SV, gm_O3, gm_h1 z2 (by decide), gm_hp _ (show 0 < gm_O (f m) (f l) (f (m - 1)) by omega)] at B
          unfold gm_w at wq'
          rw [nq] at wq'
          omega
    · refine ⟨m, m1, m2, hT, fun x x1 x2 n1 n2 n3 xin => em ⟨x, x1, by omega, ⟨n1, n2, n3⟩, xin⟩⟩
