/-! triangulate, locate, isDiagonal -/
theorem mt_simp {xs ys : Nat → Int32} {n : Nat} (h3 : 3 ≤ n) (nr : ¬ ∃ a b, a < b ∧ b < n ∧ mt_rep xs ys a b) (nf : ¬ ∃ k, k < n ∧ mt_fo xs ys n k) (nm : ¬ ∃ a b, a < b ∧ b < n ∧ mt_me xs ys n a b) : gm_simp (mt_p xs ys) 0 (n - 1) := by
  have r : ∀ a b, a < b → b ≤ n - 1 → mt_p xs ys a ≠ mt_p xs ys b := by
    intro a b h1 h2 e
    have e1 : (xs a).toInt = (xs b).toInt := congrArg Prod.fst e
    have e2 : (ys a).toInt = (ys b).toInt := congrArg Prod.snd e
    exact nr ⟨a, b, h1, by omega, Int32.toInt_inj.mp e1, Int32.toInt_inj.mp e2⟩
  refine gm_simpI (by omega) (fun a b ha hb ne => ?_) (fun k hk z => nf ⟨k, by omega, z⟩) (fun a b h1 h2 h4 h5 m => nm ⟨a, b, h1, by omega, ⟨h4, h5⟩, m⟩)
  rcases (show a < b ∨ b < a by omega) with h | h
  · exact r a b h hb
  · exact fun e => r b a h ha e.symm
theorem i_vc_triangulate {k : Nat} {u : SX} {v : SY} (I : i_Rel k u v) (hk : k + 3 ≤ 1537) : wpX_triangulate (fun r u' => wpY_triangulate (fun r' v' => r' = r ∧ i_Rel (k + 3) u' v') v) u := by
  obtain ⟨c, n, st, tr, xs, ys, kd, fc, mc, lc, rg, rfl, rfl, h4, h32, hnc, hB, hR⟩ := I
  have J : i_Rel (k + 3) (nI c, st, nI n, tr, xs, ys, kd, fc, mc, lc, rg) (nI c, nI n, st, xs, ys) := ⟨c, n, st, tr, xs, ys, kd, fc, mc, lc, rg, rfl, rfl, h4, h32, hnc, hB, hR⟩
  have J2 : i_Rel (k + 3) (nI c, 2, nI n, tr, xs, ys, kd, fc, mc, lc, rg) (nI c, nI n, 2, xs, ys) := mt_mk0 h4 h32 hnc hB mt_n21
  have hn : n ≤ 32 := by omega
  have n20 : ¬ (2 : Int32) = 0 := by decide
  have n30 : ¬ (3 : Int32) = 0 := by decide
  have n40 : ¬ (4 : Int32) = 0 := by decide
  unfold wpX_triangulate wpY_triangulate
  dsimp only
  by_cases hs : st = 0
  · refine br_t hs ?_
    by_cases h3 : 3 ≤ n
    · have h3' : (3 : Int32) ≤ nI n := nI_le (a := 3) h3 (by omega)
      have bad : (∃ k, k < n ∧ mt_fo xs ys n k) ∨ (∃ a b, a < b ∧ b < n ∧ mt_me xs ys n a b) → (¬ ∃ a b, a < b ∧ b < n ∧ mt_rep xs ys a b) → ∃ n26 : Nat, wY_triangulate_26 (fun r' v' => r' = 4 ∧ i_Rel (k + 3) (nI c, 2, nI n, tr, xs, ys, kd, fc, mc, lc, rg) v') (nI c) (nI n) st xs ys n26 0 := by
        intro b nr
        refine y_judge hn hB (fun z => absurd z nr) (fun _ _ => ⟨rfl, J2⟩) (fun _ nf nm => ?_)
        rcases b with b | b
        · exact absurd b nf
        · exact absurd b nm
      refine br_t h3' (x_rep hn (fun ex => br_f mt_n10 ?_) (fun nr => br_t rfl (x_fo hn hB (fun ex => br_f mt_n10 ?_) (fun nf => br_t rfl (x_me hn hB (fun ex => br_f mt_n10 ?_) (fun nm => br_t rfl ?_))))))
      · unfold wX_triangulate_52
        exact br_f n30 (br_t hs (br_t h3' (y_judge hn hB (fun _ => ⟨rfl, J2⟩) (fun z => absurd ex z) (fun z => absurd ex z))))
      · unfold wX_triangulate_50 wX_triangulate_52
        exact br_f n40 (br_t hs (br_t h3' (bad (Or.inl ex) nr)))
      · unfold wX_triangulate_50 wX_triangulate_52
        exact br_f n40 (br_t hs (br_t h3' (bad (Or.inr ex) nr)))
      · have sp := mt_simp h3 nr nf nm
        unfold wX_triangulate_52
        refine br_t rfl (x_kinds hn (fun kd' hk' => ?_))
        refine x_cuts h3 hn hB sp (mt_Acy xs ys (by omega)) (mt_Asm hB hn) (fun fc' mc' lc' rg' m hT hm hV => ?_)
        refine br_t hs (br_t h3' (y_judge hn hB (fun z => absurd z nr) (fun _ z => ?_) (fun _ _ _ => ⟨rfl, ?_⟩)))
        · rcases z with z | z
          · exact absurd z nf
          · exact absurd z nm
        · exact ⟨c, n, 1, nI m, xs, ys, kd', fc', mc', lc', rg', rfl, rfl, h4, h32, hnc, hB, fun _ => ⟨h3, sp, hk', m, rfl, hm, hV, hT⟩⟩
    · have h3' : ¬ (3 : Int32) ≤ nI n := nI_ge (b := 3) (by omega) (by omega)
      refine br_f h3' ?_
      unfold wX_triangulate_52
      exact br_f n20 (br_t hs (br_f h3' ⟨rfl, J2⟩))
  · exact br_f hs (br_f hs ⟨rfl, J⟩)
theorem i_vc_locate {k : Nat} {u : SX} {v : SY} (I : i_Rel k u v) (hk : k + 3 ≤ 1537) (v1 : Int32) (v2 : Int32) : wpX_locate (fun r => wpY_locate (fun r' => r' = r ∧ i_Rel (k + 3) u v) v v1 v2) u v1 v2 := by
  have J := I
  obtain ⟨c, n, st, tr, xs, ys, kd, fc, mc, lc, rg, rfl, rfl, h4, h32, hnc, hB, hR⟩ := I
  have hn : n ≤ 32 := by omega
  unfold wpX_locate wpY_locate
  dsimp only
  by_cases hs : st = 1
  · refine br_t hs (x_inb (fun hb => br_f mt_n10 ?_) (fun hb => br_t rfl (br_t hs (mt_bnd (fun z => absurd z hb) (fun _ => ⟨rfl, J⟩)))))
    have bb : (-1000 ≤ v1.toInt ∧ v1.toInt ≤ 1000) ∧ (-1000 ≤ v2.toInt ∧ v2.toInt ≤ 1000) := hb
    have dbl : ∀ x : Int32, 2 * x = mt_c (2 * x.toInt) := by
      intro x
      rw [mt_2, ← mt_mul, mt_cT]
    have yw : ∀ post : Int32 → Prop, (¬ mt_c (mt_wn (mt_p xs ys) n (2 * v1.toInt) (2 * v2.toInt) n) = 0 → post 3) → (mt_c (mt_wn (mt_p xs ys) n (2 * v1.toInt) (2 * v2.toInt) n) = 0 → post 1) → wpY_winding (fun r => (r = 0 → post 1) ∧ (¬ r = 0 → post 3)) (nI c, nI n, st, xs, ys) v1 v2 1 := by
      intro post p3 p1
      have w := y_wind (cp := nI c) (st := st) (post := fun r => (r = 0 → post 1) ∧ (¬ r = 0 → post 3)) (PX := v1.toInt) (PY := v2.toInt) (sc := 1) hn hB (Or.inl ⟨rfl, rfl, rfl⟩) (by omega) (by omega) (by omega) (by omega) (fun z => br_f mt_n10 (p3 z)) (fun z => br_t rfl (p1 z))
      rw [mt_cT, mt_cT, ← mt_1] at w
      exact w
    refine ⟨n + 1, x_bd_l hn hB hb n 0 (by omega) (fun ex => br_f mt_n10 (br_t hs (mt_bnd (fun _ => ⟨n + 1, y_bd_l hn hB hb n 0 (by omega) (fun _ => ⟨rfl, J⟩) (fun z => absurd ex z)⟩) (fun z => absurd hb z)))) (fun nex => br_t rfl ?_)⟩
    rw [dbl v1, dbl v2]
    refine x_wind hn hB (by omega) (by omega) (by omega) (by omega) (fun w => br_f mt_n10 ?_) (fun w => br_t rfl ?_)
    · exact br_t hs (mt_bnd (fun _ => ⟨n + 1, y_bd_l hn hB hb n 0 (by omega) (fun z => absurd z nex) (fun _ => yw (fun r' => r' = 3 ∧ i_Rel (k + 3) (nI c, st, nI n, tr, xs, ys, kd, fc, mc, lc, rg) (nI c, nI n, st, xs, ys)) (fun _ => ⟨rfl, J⟩) (fun z => absurd z w))⟩) (fun z => absurd hb z))
    · exact br_t hs (mt_bnd (fun _ => ⟨n + 1, y_bd_l hn hB hb n 0 (by omega) (fun z => absurd z nex) (fun _ => yw (fun r' => r' = 1 ∧ i_Rel (k + 3) (nI c, st, nI n, tr, xs, ys, kd, fc, mc, lc, rg) (nI c, nI n, st, xs, ys)) (fun z => absurd w z) (fun _ => ⟨rfl, J⟩))⟩) (fun z => absurd hb z))
  · exact br_f hs (br_f hs ⟨rfl, J⟩)
theorem i_vc_isDiagonal {k : Nat} {u : SX} {v : SY} (I : i_Rel k u v) (hk : k + 3 ≤ 1537) (v1 : Int32) (v2 : Int32) : wpX_isDiagonal (fun r => wpY_isDiagonal (fun r' => r' = r ∧ i_Rel (k + 3) u v) v v1 v2) u v1 v2 := by
  have J := I
  obtain ⟨c, n, st, tr, xs, ys, kd, fc, mc, lc, rg, rfl, rfl, h4, h32, hnc, hB, hR⟩ := I
  have hn : n ≤ 32 := by omega
  unfold wpX_isDiagonal wpY_isDiagonal
  dsimp only
  by_cases hs : st = 1
  · refine br_t hs ?_
    obtain ⟨r1, r2, _, _⟩ := hR hs
    rcases mt_ix v1 hn with h | ⟨h0, h⟩ | ⟨a, ha, rfl⟩
    · exact x_idx0 (Or.inl h) (br_t rfl (br_t hs (br_t h ⟨rfl, J⟩)))
    · exact x_idx0 (Or.inr ⟨h0, h⟩) (br_t rfl (br_t hs (br_f h0 (br_t h ⟨rfl, J⟩))))
    · have a0 : ¬ nI a < 0 := nI_pos (by omega)
      have a1 : ¬ nI n ≤ nI a := nI_ge ha (by omega)
      refine x_idx1 ha hn (br_f mt_n10 ?_)
      rcases mt_ix v2 hn with h | ⟨h0, h⟩ | ⟨b, hb, rfl⟩
      · exact x_idx0 (Or.inl h) (br_t rfl (br_t hs (br_f a0 (br_f a1 (br_t h ⟨rfl, J⟩)))))
      · exact x_idx0 (Or.inr ⟨h0, h⟩) (br_t rfl (br_t hs (br_f a0 (br_f a1 (br_f h0 (br_f (Int32.not_lt.mpr h) ⟨rfl, J⟩))))))
      · have b0 : ¬ nI b < 0 := nI_pos (by omega)
        have b1 : nI b < nI n := nI_lt hb (by omega)
        refine x_idx1 hb hn (br_f mt_n10 ?_)
        by_cases e : nI a = nI b
        · exact br_t e (br_t hs (br_f a0 (br_f a1 (br_f b0 (br_t b1 (br_t e ⟨rfl, J⟩))))))
        · refine br_f e (x_next ha hn ?_)
          by_cases e1 : nI b = nI (gm_nx 0 (n - 1) a)
          · exact br_t e1 (br_t hs (br_f a0 (br_f a1 (br_f b0 (br_t b1 (br_f e (y_nxt ha hn (br_t e1 ⟨rfl, J⟩))))))))
          · refine br_f e1 (x_next hb hn ?_)
            by_cases e2 : nI a = nI (gm_nx 0 (n - 1) b)
            · exact br_t e2 (br_t hs (br_f a0 (br_f a1 (br_f b0 (br_t b1 (br_f e (y_nxt ha hn (br_f e1 (y_nxt hb hn (br_t e2 ⟨rfl, J⟩))))))))))
            · have nab : a ≠ b := fun z => e (by rw [z])
              have va : vp_in (nI a) 32 := vp_in_nI (by omega) (by omega)
              have vb : vp_in (nI b) 32 := vp_in_nI (by omega) (by omega)
              have ca := nI_clamp (show a < 2 ^ 31 by omega)
              have cb := nI_clamp (show b < 2 ^ 31 by omega)
              have Ba : (-1000 ≤ (xs a).toInt ∧ (xs a).toInt ≤ 1000) ∧ (-1000 ≤ (ys a).toInt ∧ (ys a).toInt ≤ 1000) := hB a ha
              have Bb : (-1000 ≤ (xs b).toInt ∧ (xs b).toInt ≤ 1000) ∧ (-1000 ≤ (ys b).toInt ∧ (ys b).toInt ≤ 1000) := hB b hb
              have sX : xs a + xs b = mt_c ((xs a).toInt + (xs b).toInt) := by rw [← mt_add, mt_cT, mt_cT]
              have sY : ys a + ys b = mt_c ((ys a).toInt + (ys b).toInt) := by rw [← mt_add, mt_cT, mt_cT]
              have bl := gm_bl (f := mt_p xs ys) (j := n - 1) (a := a) (b := b) (by omega) r2 (by omega) (by omega) nab
              have yd : ∀ post : Int32 → Prop, ((∃ k, k < n ∧ gm_blY (mt_p xs ys) (n - 1) a b k) → post 0) → ((¬ ∃ k, k < n ∧ gm_blY (mt_p xs ys) (n - 1) a b k) → ¬ mt_c (mt_wn (mt_p xs ys) n ((xs a).toInt + (xs b).toInt) ((ys a).toInt + (ys b).toInt) n) = 0 → post 1) → ((¬ ∃ k, k < n ∧ gm_blY (mt_p xs ys) (n - 1) a b k) → mt_c (mt_wn (mt_p xs ys) n ((xs a).toInt + (xs b).toInt) ((ys a).toInt + (ys b).toInt) n) = 0 → post 0) → ∃ n97 : Nat, wY_isDiagonal_97 post (xs a) (ys a) (xs b) (ys b) (nI c) (nI n) st xs ys n97 0 := by
                intro post p0 p1 p2
                refine ⟨n + 1, y_bl_l ha hb hn hB n 0 (by omega) (fun ⟨k, _, q, r⟩ => p0 ⟨k, q, r⟩) (fun z => ?_)⟩
                have z' : ¬ ∃ k, k < n ∧ gm_blY (mt_p xs ys) (n - 1) a b k := fun ⟨k, q, r⟩ => z ⟨k, Nat.zero_le _, q, r⟩
                have w := y_wind (cp := nI c) (st := st) (post := fun r => narrow .boolean (.int r) = .int r ∧ post r) (PX := (xs a).toInt + (xs b).toInt) (PY := (ys a).toInt + (ys b).toInt) (sc := 2) hn hB (Or.inr ⟨rfl, rfl, rfl⟩) (by omega) (by omega) (by omega) (by omega) (fun y => ⟨rfl, p1 z' y⟩) (fun y => ⟨rfl, p2 z' y⟩)
                rw [← sX, ← sY, ← mt_2] at w
                exact w
              have Yd : ∀ r : Int32, (∃ n97 : Nat, wY_isDiagonal_97 (fun r' => r' = r ∧ i_Rel (k + 3) (nI c, st, nI n, tr, xs, ys, kd, fc, mc, lc, rg) (nI c, nI n, st, xs, ys)) (xs a) (ys a) (xs b) (ys b) (nI c) (nI n) st xs ys n97 0) → wpY_isDiagonal (fun r' => r' = r ∧ i_Rel (k + 3) (nI c, st, nI n, tr, xs, ys, kd, fc, mc, lc, rg) (nI c, nI n, st, xs, ys)) (nI c, nI n, st, xs, ys) (nI a) (nI b) := by
                intro r h
                unfold wpY_isDiagonal
                dsimp only
                exact br_t hs (br_f a0 (br_f a1 (br_f b0 (br_t b1 (br_f e (y_nxt ha hn (br_f e1 (y_nxt hb hn (br_f e2 ⟨va, nm_r (congrArg xs ca) ⟨va, nm_r (congrArg ys ca) ⟨vb, nm_r (congrArg xs cb) ⟨vb, nm_r (congrArg ys cb) h⟩⟩⟩⟩)))))))))
              refine br_f e2 (x_bl ha hb hn hB (fun ex => br_f mt_n10 ?_) (fun nex => br_t rfl ⟨va, vb, va, vb, ?_⟩))
              · have ey : ∃ k, k < n ∧ gm_blY (mt_p xs ys) (n - 1) a b k := by
                  obtain ⟨k', q, r⟩ := ex
                  obtain ⟨k'', q', r'⟩ := bl.mp ⟨k', by omega, r⟩
                  exact ⟨k'', by omega, r'⟩
                exact Yd 0 (yd _ (fun _ => ⟨rfl, J⟩) (fun z => absurd ey z) (fun z => absurd ey z))
              · have ny : ¬ ∃ k, k < n ∧ gm_blY (mt_p xs ys) (n - 1) a b k := by
                  intro ⟨k', q, r⟩
                  obtain ⟨k'', q', r'⟩ := bl.mpr ⟨k', by omega, r⟩
                  exact nex ⟨k'', by omega, r'⟩
                have eX : xs (nI a).toNatClampNeg + xs (nI b).toNatClampNeg = mt_c ((xs a).toInt + (xs b).toInt) := by rw [ca, cb, sX]
                have eY : ys (nI a).toNatClampNeg + ys (nI b).toNatClampNeg = mt_c ((ys a).toInt + (ys b).toInt) := by rw [ca, cb, sY]
                rw [eX, eY]
                refine x_wind hn hB (by omega) (by omega) (by omega) (by omega) (fun w => ⟨rfl, ?_⟩) (fun w => ⟨rfl, ?_⟩)
                · exact Yd 1 (yd _ (fun z => absurd z ny) (fun _ _ => ⟨rfl, J⟩) (fun _ z => absurd z w))
                · exact Yd 0 (yd _ (fun z => absurd z ny) (fun _ z => absurd w z) (fun _ _ => ⟨rfl, J⟩))
  · exact br_f hs (br_f hs ⟨rfl, J⟩)
