/-! winding numbers, the boundary, diagonals, sums -/
def mt_side (P : Nat → gm_P) (dX dY : Int) (k j : Nat) : Int := ((P j).1 - (P k).1) * (dY - 2 * (P k).2) - ((P j).2 - (P k).2) * (dX - 2 * (P k).1)
def mt_wt (P : Nat → gm_P) (n : Nat) (dX dY : Int) (k : Nat) : Int :=
  if dY < 2 * (P k).2 then (if dY < 2 * (P (gm_nx 0 (n - 1) k)).2 then 0 else if mt_side P dX dY k (gm_nx 0 (n - 1) k) < 0 then -1 else 0)
  else (if dY < 2 * (P (gm_nx 0 (n - 1) k)).2 then (if 0 < mt_side P dX dY k (gm_nx 0 (n - 1) k) then 1 else 0) else 0)
def mt_wn (P : Nat → gm_P) (n : Nat) (dX dY : Int) (k : Nat) : Int := gm_sum (mt_wt P n dX dY) 0 k
theorem mt_wns (P : Nat → gm_P) (n : Nat) (dX dY : Int) (k : Nat) : mt_wn P n dX dY (k + 1) = mt_wn P n dX dY k + mt_wt P n dX dY k := by
  unfold mt_wn
  simp only [gm_sum, Nat.zero_add]
theorem mt_w0 {P : Nat → gm_P} {n : Nat} {dX dY : Int} {k : Nat} (h : mt_wt P n dX dY k = 0) : mt_c (mt_wn P n dX dY k) = mt_c (mt_wn P n dX dY (k + 1)) := by
  rw [mt_wns, h, Int.add_zero]
theorem mt_wp {P : Nat → gm_P} {n : Nat} {dX dY : Int} {k : Nat} (h : mt_wt P n dX dY k = 1) : mt_c (mt_wn P n dX dY k) + 1 = mt_c (mt_wn P n dX dY (k + 1)) := by
  rw [mt_wns, h, mt_1, mt_add]
theorem mt_wm {P : Nat → gm_P} {n : Nat} {dX dY : Int} {k : Nat} (h : mt_wt P n dX dY k = -1) : mt_c (mt_wn P n dX dY k) + (-1) = mt_c (mt_wn P n dX dY (k + 1)) := by
  rw [mt_wns, h, mt_m1, mt_add]
theorem mt_sideb {P : Nat → gm_P} {dX dY : Int} {k j : Nat} (hk : mt_B (P k)) (hj : mt_B (P j)) (h1 : -2000 ≤ dX) (h2 : dX ≤ 2000) (h3 : -2000 ≤ dY) (h4 : dY ≤ 2000) : mt_sm (mt_side P dX dY k j) := by
  unfold mt_B at *
  have x := mt_bd (M := 2000) (N := 4000) (a := (P j).1 - (P k).1) (b := dY - 2 * (P k).2) (by omega) (by omega) (by omega) (by omega)
  have y := mt_bd (M := 2000) (N := 4000) (a := (P j).2 - (P k).2) (b := dX - 2 * (P k).1) (by omega) (by omega) (by omega) (by omega)
  unfold mt_side mt_sm
  generalize ((P j).1 - (P k).1) * (dY - 2 * (P k).2) = X at *
  generalize ((P j).2 - (P k).2) * (dX - 2 * (P k).1) = Y at *
  omega
section
variable {cp st tr : Int32} {xs ys kd fc mc lc rg : Nat → Int32} {n : Nat} {post : Int32 → Prop}
theorem x_wind_l {dX dY : Int} (hn : n ≤ 32) (hB : ∀ k, k < n → mt_B (mt_p xs ys k)) (b1 : -2000 ≤ dX) (b2 : dX ≤ 2000) (b3 : -2000 ≤ dY) (b4 : dY ≤ 2000) (h1 : ¬ mt_c (mt_wn (mt_p xs ys) n dX dY n) = 0 → post 1) (h0 : mt_c (mt_wn (mt_p xs ys) n dX dY n) = 0 → post 0) : ∀ d k, k + d = n → wX_windsAround_5 post (mt_c dX) (mt_c dY) cp st (nI n) tr xs ys kd fc mc lc rg (d + 1) (mt_c (mt_wn (mt_p xs ys) n dX dY k)) (nI k) := by
  intro d
  induction d with
  | zero =>
    intro k hk
    have e : k = n := by omega
    rw [e]
    exact br_t (nI_le (Nat.le_refl _) (by omega)) (br_c h0 h1)
  | succ d ih =>
    intro k hk
    have hkn : k < n := by omega
    have hj := mt_nl hkn
    have vk : vp_in (nI k) 32 := vp_in_nI (by omega) (by omega)
    have vj : vp_in (nI (gm_nx 0 (n - 1) k)) 32 := vp_in_nI (by omega) (by omega)
    have ck := nI_clamp (show k < 2 ^ 31 by omega)
    have cj := nI_clamp (show gm_nx 0 (n - 1) k < 2 ^ 31 by omega)
    have n01 : ¬ (0 : Int32) = 1 := by decide
    have n10 : ¬ (1 : Int32) = 0 := by decide
    have nxt := ih (k + 1) (by omega)
    have Bk := hB k hkn
    have Bj := hB _ hj
    have sY : mt_sm dY := by unfold mt_sm; omega
    have dbl : ∀ x : Int32, 2 * x = mt_c (2 * x.toInt) := by
      intro x
      rw [mt_2, ← mt_mul, mt_cT]
    have sk : mt_sm (2 * (mt_p xs ys k).2) := by unfold mt_sm; unfold mt_B at Bk; omega
    have sj : mt_sm (2 * (mt_p xs ys (gm_nx 0 (n - 1) k)).2) := by unfold mt_sm; unfold mt_B at Bj; omega
    have qk : (2 * ys k ≤ mt_c dY) ↔ 2 * (mt_p xs ys k).2 ≤ dY := by
      rw [dbl]; exact mt_le sk sY
    have qj : (2 * ys (gm_nx 0 (n - 1) k) ≤ mt_c dY) ↔ 2 * (mt_p xs ys (gm_nx 0 (n - 1) k)).2 ≤ dY := by
      rw [dbl]; exact mt_le sj sY
    have ss := mt_sideb Bk Bj b1 b2 b3 b4
    have side : (xs (gm_nx 0 (n - 1) k) - xs k) * (mt_c dY - 2 * ys k) - (ys (gm_nx 0 (n - 1) k) - ys k) * (mt_c dX - 2 * xs k) = mt_c (mt_side (mt_p xs ys) dX dY k (gm_nx 0 (n - 1) k)) := by
      simp only [mt_side, mt_p, mt_2, ← mt_sub, ← mt_mul, mt_cT]
    -- the row behind the side, for an edge that doesn't lead up with its point on the left
    have t142 : ∀ f : Int32, ((f = 0 ∧ mt_wt (mt_p xs ys) n dX dY k = 0) ∨ (f = 1 ∧ mt_wt (mt_p xs ys) n dX dY k = if mt_side (mt_p xs ys) dX dY k (gm_nx 0 (n - 1) k) < 0 then -1 else 0)) → wX_windsAround_142 post (wX_windsAround_5 post (mt_c dX) (mt_c dY) cp st (nI n) tr xs ys kd fc mc lc rg (d + 1)) (mt_c dX) (mt_c dY) (mt_c (mt_wn (mt_p xs ys) n dX dY k)) (nI k) f (mt_c (mt_side (mt_p xs ys) dX dY k (gm_nx 0 (n - 1) k))) cp st (nI n) tr xs ys kd fc mc lc rg := by
      intro f hf
      unfold wX_windsAround_142
      rcases hf with ⟨rfl, hf⟩ | ⟨rfl, hf⟩
      · refine br_t rfl (nm_r (nI_1 k) ?_)
        rw [mt_w0 hf]; exact nxt
      · refine br_f n10 (br_c (fun g => nm_r (nI_1 k) ?_) (fun g => nm_r (mt_wm ?_) (nm_r (nI_1 k) nxt)))
        · rw [mt_0le ss] at g
          rw [if_neg (by omega)] at hf
          rw [mt_w0 hf]; exact nxt
        · rw [mt_0le ss] at g
          rw [if_pos (by omega)] at hf
          exact hf
    have t60 : ∀ f z : Int32, ((f = 0 ∧ 2 * (mt_p xs ys k).2 ≤ dY) ∨ (f = 1 ∧ ¬ 2 * (mt_p xs ys k).2 ≤ dY)) → ((z = 0 ∧ 2 * (mt_p xs ys (gm_nx 0 (n - 1) k)).2 ≤ dY) ∨ (z = 1 ∧ ¬ 2 * (mt_p xs ys (gm_nx 0 (n - 1) k)).2 ≤ dY)) → wX_windsAround_60 post (wX_windsAround_5 post (mt_c dX) (mt_c dY) cp st (nI n) tr xs ys kd fc mc lc rg (d + 1)) (mt_c dX) (mt_c dY) (mt_c (mt_wn (mt_p xs ys) n dX dY k)) (nI k) (nI (gm_nx 0 (n - 1) k)) f z cp st (nI n) tr xs ys kd fc mc lc rg := by
      intro f z hf hz
      unfold wX_windsAround_60
      rw [ck, cj]
      rcases hf with ⟨rfl, hf⟩ | ⟨rfl, hf⟩ <;> rcases hz with ⟨rfl, hz⟩ | ⟨rfl, hz⟩
      · refine br_t rfl (nm_r (nI_1 k) ?_)
        rw [mt_w0 (by unfold mt_wt; rw [if_neg (by omega), if_neg (by omega)])]; exact nxt
      · refine br_f n01 ⟨vj, vk, vk, vj, vk, vk, nm_r side (br_f n10 (br_c (fun g => t142 0 (Or.inl ⟨rfl, ?_⟩)) (fun g => nm_r (mt_wp ?_) (nm_r (nI_1 k) nxt))))⟩
        · rw [mt_le0 ss] at g
          unfold mt_wt
          rw [if_neg (by omega), if_pos (by omega), if_neg (by omega)]
        · rw [mt_le0 ss] at g
          unfold mt_wt
          rw [if_neg (by omega), if_pos (by omega), if_pos (by omega)]
      · refine br_f n10 ⟨vj, vk, vk, vj, vk, vk, nm_r side (br_t rfl (t142 1 (Or.inr ⟨rfl, ?_⟩)))⟩
        unfold mt_wt
        rw [if_pos (by omega), if_neg (by omega)]
      · refine br_t rfl (nm_r (nI_1 k) ?_)
        rw [mt_w0 (by unfold mt_wt; rw [if_pos (by omega), if_pos (by omega)])]; exact nxt
    have t40 : ∀ f : Int32, ((f = 0 ∧ 2 * (mt_p xs ys k).2 ≤ dY) ∨ (f = 1 ∧ ¬ 2 * (mt_p xs ys k).2 ≤ dY)) → wX_windsAround_40 post (wX_windsAround_5 post (mt_c dX) (mt_c dY) cp st (nI n) tr xs ys kd fc mc lc rg (d + 1)) (mt_c dX) (mt_c dY) (mt_c (mt_wn (mt_p xs ys) n dX dY k)) (nI k) (nI (gm_nx 0 (n - 1) k)) f cp st (nI n) tr xs ys kd fc mc lc rg := by
      intro f hf
      unfold wX_windsAround_40
      rw [cj]
      exact ⟨vj, br_c (fun g => t60 f 0 hf (Or.inl ⟨rfl, qj.mp g⟩)) (fun g => t60 f 1 hf (Or.inr ⟨rfl, fun z => g (qj.mpr z)⟩))⟩
    refine br_f (nI_ge (by omega) (by omega)) (x_next hkn hn ⟨vk, ?_⟩)
    rw [ck]
    exact br_c (fun g => t40 0 (Or.inl ⟨rfl, qk.mp g⟩)) (fun g => t40 1 (Or.inr ⟨rfl, fun z => g (qk.mpr z)⟩))
theorem x_wind {dX dY : Int} (hn : n ≤ 32) (hB : ∀ k, k < n → mt_B (mt_p xs ys k)) (b1 : -2000 ≤ dX) (b2 : dX ≤ 2000) (b3 : -2000 ≤ dY) (b4 : dY ≤ 2000) (h1 : ¬ mt_c (mt_wn (mt_p xs ys) n dX dY n) = 0 → post 1) (h0 : mt_c (mt_wn (mt_p xs ys) n dX dY n) = 0 → post 0) : wpX_windsAround post (cp, st, nI n, tr, xs, ys, kd, fc, mc, lc, rg) (mt_c dX) (mt_c dY) := by
  have k := x_wind_l (cp := cp) (st := st) (tr := tr) (kd := kd) (fc := fc) (mc := mc) (lc := lc) (rg := rg) hn hB b1 b2 b3 b4 h1 h0 n 0 (by omega)
  have e : mt_c (mt_wn (mt_p xs ys) n dX dY 0) = 0 := mt_0.symm
  rw [e, nI_0] at k
  exact ⟨n + 1, k⟩
theorem y_wind_l {PX PY sc dX dY : Int} (hn : n ≤ 32) (hB : ∀ k, k < n → mt_B (mt_p xs ys k)) (hs : (sc = 1 ∧ dX = 2 * PX ∧ dY = 2 * PY) ∨ (sc = 2 ∧ dX = PX ∧ dY = PY)) (b1 : -2000 ≤ dX) (b2 : dX ≤ 2000) (b3 : -2000 ≤ dY) (b4 : dY ≤ 2000) (h1 : ¬ mt_c (mt_wn (mt_p xs ys) n dX dY n) = 0 → post 1) (h0 : mt_c (mt_wn (mt_p xs ys) n dX dY n) = 0 → post 0) : ∀ d k, k + d = n → wY_winding_6 post (mt_c PX) (mt_c PY) (mt_c sc) cp (nI n) st xs ys (d + 1) (mt_c (mt_wn (mt_p xs ys) n dX dY k)) (nI k) := by
  intro d
  induction d with
  | zero =>
    intro k hk
    have e : k = n := by omega
    rw [e]
    exact br_t (nI_le (Nat.le_refl _) (by omega)) (br_c h0 h1)
  | succ d ih =>
    intro k hk
    have hkn : k < n := by omega
    have hj := mt_nl hkn
    have vk : vp_in (nI k) 32 := vp_in_nI (by omega) (by omega)
    have vj : vp_in (nI (gm_nx 0 (n - 1) k)) 32 := vp_in_nI (by omega) (by omega)
    have ck := nI_clamp (show k < 2 ^ 31 by omega)
    have cj := nI_clamp (show gm_nx 0 (n - 1) k < 2 ^ 31 by omega)
    have nxt := ih (k + 1) (by omega)
    have Bk := hB k hkn
    have Bj := hB _ hj
    have ss := mt_sideb Bk Bj b1 b2 b3 b4
    have sPX : mt_sm PX := by unfold mt_sm; omega
    have sPY : mt_sm PY := by unfold mt_sm; omega
    unfold mt_B at Bk Bj
    have m1 : mt_sm ((mt_p xs ys k).1 * sc) := by unfold mt_sm; rcases hs with ⟨e, _⟩ | ⟨e, _⟩ <;> rw [e] <;> omega
    have m2 : mt_sm ((mt_p xs ys k).2 * sc) := by unfold mt_sm; rcases hs with ⟨e, _⟩ | ⟨e, _⟩ <;> rw [e] <;> omega
    have m3 : mt_sm ((mt_p xs ys (gm_nx 0 (n - 1) k)).1 * sc) := by unfold mt_sm; rcases hs with ⟨e, _⟩ | ⟨e, _⟩ <;> rw [e] <;> omega
    have m4 : mt_sm ((mt_p xs ys (gm_nx 0 (n - 1) k)).2 * sc) := by unfold mt_sm; rcases hs with ⟨e, _⟩ | ⟨e, _⟩ <;> rw [e] <;> omega
    have q1 : (mt_c PY < mt_c ((mt_p xs ys k).2 * sc)) ↔ dY < 2 * (mt_p xs ys k).2 := by
      rw [mt_lt sPY m2]
      rcases hs with ⟨e, e1, e2⟩ | ⟨e, e1, e2⟩ <;> rw [e, e2] <;> omega
    have q2 : (mt_c PY < mt_c ((mt_p xs ys (gm_nx 0 (n - 1) k)).2 * sc)) ↔ dY < 2 * (mt_p xs ys (gm_nx 0 (n - 1) k)).2 := by
      rw [mt_lt sPY m4]
      rcases hs with ⟨e, e1, e2⟩ | ⟨e, e1, e2⟩ <;> rw [e, e2] <;> omega
    have q3 : (mt_c ((mt_p xs ys (gm_nx 0 (n - 1) k)).2 * sc) ≤ mt_c PY) ↔ 2 * (mt_p xs ys (gm_nx 0 (n - 1) k)).2 ≤ dY := by
      rw [mt_le m4 sPY]
      rcases hs with ⟨e, e1, e2⟩ | ⟨e, e1, e2⟩ <;> rw [e, e2] <;> omega
    have cr : 2 * gm_O ((mt_p xs ys k).1 * sc, (mt_p xs ys k).2 * sc) ((mt_p xs ys (gm_nx 0 (n - 1) k)).1 * sc, (mt_p xs ys (gm_nx 0 (n - 1) k)).2 * sc) (PX, PY) = mt_side (mt_p xs ys) dX dY k (gm_nx 0 (n - 1) k) ∨ gm_O ((mt_p xs ys k).1 * sc, (mt_p xs ys k).2 * sc) ((mt_p xs ys (gm_nx 0 (n - 1) k)).1 * sc, (mt_p xs ys (gm_nx 0 (n - 1) k)).2 * sc) (PX, PY) = 2 * mt_side (mt_p xs ys) dX dY k (gm_nx 0 (n - 1) k) := by
      unfold gm_O mt_side
      dsimp only
      generalize (mt_p xs ys k).1 = x1
      generalize (mt_p xs ys k).2 = y1
      generalize (mt_p xs ys (gm_nx 0 (n - 1) k)).1 = x2
      generalize (mt_p xs ys (gm_nx 0 (n - 1) k)).2 = y2
      rcases hs with ⟨e, e1, e2⟩ | ⟨e, e1, e2⟩
      · left; rw [e, e1, e2]; clear ss; grind
      · right; rw [e, e1, e2]; clear ss; grind
    have sO : mt_sm (gm_O ((mt_p xs ys k).1 * sc, (mt_p xs ys k).2 * sc) ((mt_p xs ys (gm_nx 0 (n - 1) k)).1 * sc, (mt_p xs ys (gm_nx 0 (n - 1) k)).2 * sc) (PX, PY)) := by
      have x := mt_bd (M := 2000) (N := 4000) (a := (mt_p xs ys (gm_nx 0 (n - 1) k)).1 - (mt_p xs ys k).1) (b := dY - 2 * (mt_p xs ys k).2) (by omega) (by omega) (by omega) (by omega)
      have y := mt_bd (M := 2000) (N := 4000) (a := (mt_p xs ys (gm_nx 0 (n - 1) k)).2 - (mt_p xs ys k).2) (b := dX - 2 * (mt_p xs ys k).1) (by omega) (by omega) (by omega) (by omega)
      have ds : mt_side (mt_p xs ys) dX dY k (gm_nx 0 (n - 1) k) = ((mt_p xs ys (gm_nx 0 (n - 1) k)).1 - (mt_p xs ys k).1) * (dY - 2 * (mt_p xs ys k).2) - ((mt_p xs ys (gm_nx 0 (n - 1) k)).2 - (mt_p xs ys k).2) * (dX - 2 * (mt_p xs ys k).1) := rfl
      unfold mt_sm
      omega
    have w1 := mt_0le sO
    have w2 := mt_le0 sO
    refine br_f (nI_ge (by omega) (by omega)) (y_nxt hkn hn ⟨vk, nm_r (show xs (nI k).toNatClampNeg * mt_c sc = mt_c ((mt_p xs ys k).1 * sc) by rw [ck, ← mt_mul]; exact congrArg (· * mt_c sc) (mt_cT _).symm) ⟨vk, nm_r (show ys (nI k).toNatClampNeg * mt_c sc = mt_c ((mt_p xs ys k).2 * sc) by rw [ck, ← mt_mul]; exact congrArg (· * mt_c sc) (mt_cT _).symm) ⟨vj, nm_r (show xs (nI (gm_nx 0 (n - 1) k)).toNatClampNeg * mt_c sc = mt_c ((mt_p xs ys (gm_nx 0 (n - 1) k)).1 * sc) by rw [cj, ← mt_mul]; exact congrArg (· * mt_c sc) (mt_cT _).symm) ⟨vj, nm_r (show ys (nI (gm_nx 0 (n - 1) k)).toNatClampNeg * mt_c sc = mt_c ((mt_p xs ys (gm_nx 0 (n - 1) k)).2 * sc) by rw [cj, ← mt_mul]; exact congrArg (· * mt_c sc) (mt_cT _).symm) (y_cross ?_)⟩⟩⟩⟩)
    rw [mt_tc m1.1 m1.2, mt_tc m2.1 m2.2, mt_tc m3.1 m3.2, mt_tc m4.1 m4.2, mt_tc sPX.1 sPX.2, mt_tc sPY.1 sPY.2]
    refine br_c (fun g => br_c (fun g2 => nm_r (nI_1 k) ?_) (fun g2 => br_c (fun g3 => nm_r (nI_1 k) ?_) (fun g3 => nm_r (mt_wm ?_) (nm_r (nI_1 k) nxt)))) (fun g => br_c (fun g2 => nm_r (nI_1 k) ?_) (fun g2 => br_c (fun g3 => nm_r (nI_1 k) ?_) (fun g3 => nm_r (mt_wp ?_) (nm_r (nI_1 k) nxt))))
    · rw [q1] at g; rw [q2] at g2
      rw [mt_w0 (by unfold mt_wt; rw [if_pos g, if_pos g2])]; exact nxt
    · rw [q1] at g; rw [q2] at g2; rw [w1] at g3
      rw [mt_w0 (by unfold mt_wt; rw [if_pos g, if_neg g2, if_neg (by omega)])]; exact nxt
    · rw [q1] at g; rw [q2] at g2; rw [w1] at g3
      unfold mt_wt; rw [if_pos g, if_neg g2, if_pos (by omega)]
    · rw [q1] at g; rw [q3] at g2
      rw [mt_w0 (by unfold mt_wt; rw [if_neg g, if_neg (by omega)])]; exact nxt
    · rw [q1] at g; rw [q3] at g2; rw [w2] at g3
      rw [mt_w0 (by unfold mt_wt; rw [if_neg g, if_pos (by omega), if_neg (by omega)])]; exact nxt
    · rw [q1] at g; rw [q3] at g2; rw [w2] at g3
      unfold mt_wt; rw [if_neg g, if_pos (by omega), if_pos (by omega)]
theorem y_wind {PX PY sc dX dY : Int} (hn : n ≤ 32) (hB : ∀ k, k < n → mt_B (mt_p xs ys k)) (hs : (sc = 1 ∧ dX = 2 * PX ∧ dY = 2 * PY) ∨ (sc = 2 ∧ dX = PX ∧ dY = PY)) (b1 : -2000 ≤ dX) (b2 : dX ≤ 2000) (b3 : -2000 ≤ dY) (b4 : dY ≤ 2000) (h1 : ¬ mt_c (mt_wn (mt_p xs ys) n dX dY n) = 0 → post 1) (h0 : mt_c (mt_wn (mt_p xs ys) n dX dY n) = 0 → post 0) : wpY_winding post (cp, nI n, st, xs, ys) (mt_c PX) (mt_c PY) (mt_c sc) := by
  have k := y_wind_l (cp := cp) (st := st) hn hB hs b1 b2 b3 b4 h1 h0 n 0 (by omega)
  have e : mt_c (mt_wn (mt_p xs ys) n dX dY 0) = 0 := mt_0.symm
  rw [e, nI_0] at k
  exact ⟨n + 1, k⟩
/-! the boundary -/
theorem x_bd_l {px py : Int32} (hn : n ≤ 32) (hB : ∀ k, k < n → mt_B (mt_p xs ys k)) (hq : mt_B (px.toInt, py.toInt)) : ∀ d k, k + d = n → ((∃ k', k ≤ k' ∧ k' < n ∧ gm_on (mt_p xs ys k') (mt_p xs ys (gm_nx 0 (n - 1) k')) (px.toInt, py.toInt)) → post 1) → ((¬ ∃ k', k ≤ k' ∧ k' < n ∧ gm_on (mt_p xs ys k') (mt_p xs ys (gm_nx 0 (n - 1) k')) (px.toInt, py.toInt)) → post 0) → wX_onBoundary_2 post px py cp st (nI n) tr xs ys kd fc mc lc rg (d + 1) (nI k) := by
  intro d
  induction d with
  | zero =>
    intro k hk h1 h0
    have e : k = n := by omega
    subst e
    exact br_t (nI_le (Nat.le_refl _) (by omega)) (h0 (fun ⟨k', p, q, _⟩ => by omega))
  | succ d ih =>
    intro k hk h1 h0
    have hkn : k < n := by omega
    have n10 : ¬ (1 : Int32) = 0 := by decide
    refine br_f (nI_ge (by omega) (by omega)) (x_next hkn hn (x_on hkn (mt_nl hkn) hn hB hq (fun m => br_f n10 (h1 ⟨k, Nat.le_refl _, hkn, m⟩)) (fun m => br_t rfl (nm_r (nI_1 k) (ih (k + 1) (by omega) (fun ⟨b', p, q, r⟩ => h1 ⟨b', by omega, q, r⟩) (fun z => h0 (fun ⟨b', p, q, r⟩ => ?_)))))))
    by_cases e : b' = k
    · exact m (e ▸ r)
    · exact z ⟨b', by omega, q, r⟩
theorem y_bd_l {px py : Int32} (hn : n ≤ 32) (hB : ∀ k, k < n → mt_B (mt_p xs ys k)) (hq : mt_B (px.toInt, py.toInt)) : ∀ d k, k + d = n → ((∃ k', k ≤ k' ∧ k' < n ∧ gm_on (mt_p xs ys k') (mt_p xs ys (gm_nx 0 (n - 1) k')) (px.toInt, py.toInt)) → post 2) → ((¬ ∃ k', k ≤ k' ∧ k' < n ∧ gm_on (mt_p xs ys k') (mt_p xs ys (gm_nx 0 (n - 1) k')) (px.toInt, py.toInt)) → wpY_winding (fun r => (r = 0 → post 1) ∧ (¬ r = 0 → post 3)) (cp, nI n, st, xs, ys) px py 1) → wY_locate_42 post px py cp (nI n) st xs ys (d + 1) (nI k) := by
  intro d
  induction d with
  | zero =>
    intro k hk h1 h0
    have e : k = n := by omega
    subst e
    exact br_t (nI_le (Nat.le_refl _) (by omega)) (h0 (fun ⟨k', p, q, _⟩ => by omega))
  | succ d ih =>
    intro k hk h1 h0
    have hkn : k < n := by omega
    have hj := mt_nl hkn
    have n10 : ¬ (1 : Int32) = 0 := by decide
    have vk : vp_in (nI k) 32 := vp_in_nI (by omega) (by omega)
    have vj : vp_in (nI (gm_nx 0 (n - 1) k)) 32 := vp_in_nI (by omega) (by omega)
    refine br_f (nI_ge (by omega) (by omega)) (y_nxt hkn hn ⟨vk, vk, vj, vj, ?_⟩)
    rw [nI_clamp (show k < 2 ^ 31 by omega), nI_clamp (show gm_nx 0 (n - 1) k < 2 ^ 31 by omega)]
    refine y_on hq (hB _ hkn) (hB _ hj) (fun m => br_f n10 (h1 ⟨k, Nat.le_refl _, hkn, m⟩)) (fun m => br_t rfl (nm_r (nI_1 k) (ih (k + 1) (by omega) (fun ⟨b', p, q, r⟩ => h1 ⟨b', by omega, q, r⟩) (fun z => h0 (fun ⟨b', p, q, r⟩ => ?_)))))
    by_cases e : b' = k
    · exact m (e ▸ r)
    · exact z ⟨b', by omega, q, r⟩
end
