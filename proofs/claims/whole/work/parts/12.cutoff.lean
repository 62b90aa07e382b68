/-! cutting off, and the whole run of cuts -/
section
variable {cp st tr : Int32} {xs ys kd fc mc lc rg : Nat → Int32} {n : Nat} {post : Int32 → Prop} {pst : SX → Prop}
theorem x_shift {left t : Nat} {tr' : Int32} (hl : left ≤ 32) (h : ∀ rg', (∀ k, k < left - 1 → rg' k = if k < t then rg k else rg (k + 1)) → pst (cp, st, nI n, tr', xs, ys, kd, fc, mc, lc, rg')) : ∀ d k rg', k + d + 1 = left → t ≤ k → (∀ j, rg' j = if j < t then rg j else if j < k then rg (j + 1) else rg j) → wX_cutOff_82 pst (nI left) cp st (nI n) tr' (d + 1) (nI k) xs ys kd fc mc lc rg' := by
  intro d
  induction d with
  | zero =>
    intro k rg' hk htk hi
    refine br_t (by rw [nI_1]; exact nI_le (by omega) (by omega)) (h rg' (fun j hj => ?_))
    rw [hi j]
    by_cases e : j < t
    · rw [if_pos e, if_pos e]
    · rw [if_neg e, if_neg e, if_pos (by omega)]
  | succ d ih =>
    intro k rg' hk htk hi
    have vk : vp_in (nI k) 32 := vp_in_nI (by omega) (by omega)
    have vk1 : vp_in (nI k + 1) 32 := by rw [nI_1]; exact vp_in_nI (by omega) (by omega)
    have ck := nI_clamp (show k < 2 ^ 31 by omega)
    have ck1 : (nI k + 1).toNatClampNeg = k + 1 := by rw [nI_1]; exact nI_clamp (by omega)
    refine br_f (by rw [nI_1]; exact nI_ge (by omega) (by omega)) ⟨vk1, vk, nm_r (show upd rg' (nI k).toNatClampNeg (rg' (nI k + 1).toNatClampNeg) = upd rg' k (rg' (k + 1)) by rw [ck, ck1]) (nm_r (nI_1 k) (ih (k + 1) _ (by omega) (by omega) (fun j => ?_)))⟩
    by_cases e : j = k
    · rw [e, mt_us, hi (k + 1), if_neg (by omega), if_neg (by omega), if_neg (by omega), if_pos (by omega)]
    · rw [mt_un e, hi j]
      by_cases e1 : j < t
      · rw [if_pos e1, if_pos e1]
      · rw [if_neg e1, if_neg e1]
        by_cases e2 : j < k
        · rw [if_pos e2, if_pos (by omega)]
        · rw [if_neg e2, if_neg (by omega)]
theorem x_cut {R : Nat → Nat} {left t m : Nat} (hm : m < 32) (h3 : 3 ≤ left) (hl : left ≤ 32) (hr : ∀ k, k < left → rg k = nI (R k) ∧ R k < n) (ht : t < left - 1) (h : ∀ rg', (∀ k, k < left - 1 → rg' k = if k < t then rg k else rg (k + 1)) → pst (cp, st, nI n, nI (m + 1), xs, ys, kd, upd fc m (nI (R (gm_pv 0 (left - 1) t))), upd mc m (nI (R t)), upd lc m (nI (R (gm_nx 0 (left - 1) t))), rg')) : wpX_cutOff pst (cp, st, nI n, nI m, xs, ys, kd, fc, mc, lc, rg) (nI t) (nI left) := by
  have htl : t < left := by omega
  have hp := mt_pl htl
  have hq := mt_nl htl
  obtain ⟨gp, rp⟩ := hr _ hp
  obtain ⟨gt, rt⟩ := hr _ htl
  obtain ⟨gq, rq⟩ := hr _ hq
  have vm : vp_in (nI m) 32 := vp_in_nI (by omega) (by omega)
  have vt : vp_in (nI t) 32 := vp_in_nI (by omega) (by omega)
  have vp : vp_in (nI (gm_pv 0 (left - 1) t)) 32 := vp_in_nI (by omega) (by omega)
  have vq : vp_in (nI (gm_nx 0 (left - 1) t)) 32 := vp_in_nI (by omega) (by omega)
  have cm := nI_clamp (show m < 2 ^ 31 by omega)
  have ct := nI_clamp (show t < 2 ^ 31 by omega)
  have c1 := nI_clamp (show gm_pv 0 (left - 1) t < 2 ^ 31 by omega)
  have c2 := nI_clamp (show gm_nx 0 (left - 1) t < 2 ^ 31 by omega)
  have e68 : wX_cutOff_68 pst (nI t) (nI left) (nI (gm_nx 0 (left - 1) t)) (nI m) cp st (nI n) (nI m) xs ys kd (upd fc m (nI (R (gm_pv 0 (left - 1) t)))) (upd mc m (nI (R t))) lc rg := by
    unfold wX_cutOff_68
    refine ⟨vq, vm, nm_r (show upd lc (nI m).toNatClampNeg (rg (nI (gm_nx 0 (left - 1) t)).toNatClampNeg) = upd lc m (nI (R (gm_nx 0 (left - 1) t))) by rw [cm, c2, gq]) (nm_r (nI_1 m) ⟨left - 1 - t + 1, x_shift hl h (left - 1 - t) t rg (by omega) (Nat.le_refl _) (fun j => ?_)⟩)⟩
    by_cases e : j < t
    · rw [if_pos e]
    · rw [if_neg e, if_neg e]
  have e25 : wX_cutOff_25 pst (nI t) (nI left) (nI (gm_pv 0 (left - 1) t)) (nI m) cp st (nI n) (nI m) xs ys kd fc mc lc rg := by
    unfold wX_cutOff_25
    refine ⟨vp, vm, nm_r (show upd fc (nI m).toNatClampNeg (rg (nI (gm_pv 0 (left - 1) t)).toNatClampNeg) = upd fc m (nI (R (gm_pv 0 (left - 1) t))) by rw [cm, c1, gp]) ⟨vt, vm, nm_r (show upd mc (nI m).toNatClampNeg (rg (nI t).toNatClampNeg) = upd mc m (nI (R t)) by rw [cm, ct, gt]) ?_⟩⟩
    rw [nI_1, nI_leI (by omega) (by omega)]
    refine br_c (fun z => absurd z (by omega)) (fun z => ?_)
    have e : gm_nx 0 (left - 1) t = t + 1 := by unfold gm_nx; rw [if_neg (by omega)]
    rw [e] at e68
    rw [e] at h
    exact e68
  unfold wpX_cutOff
  dsimp only
  rw [← nI_0, nI_leI (by omega) (by omega)]
  refine br_c (fun z => ?_) (fun z => ?_)
  · have e : gm_pv 0 (left - 1) t = left - 1 := by unfold gm_pv; rw [if_pos (by omega)]
    rw [mt_dec (by omega)]
    rw [e] at e25
    exact e25
  · have e : gm_pv 0 (left - 1) t = t - 1 := by unfold gm_pv; rw [if_neg (by omega)]
    rw [mt_dec (by omega)]
    rw [e] at e25
    exact e25
theorem x_find {J : Int32 → Int32 → Int32 → Int32 → Int32 → (Nat → Int32) → (Nat → Int32) → (Nat → Int32) → (Nat → Int32) → (Nat → Int32) → (Nat → Int32) → (Nat → Int32) → Prop} {R : Nat → Nat} {left : Nat} (hn : n ≤ 32) (hB : ∀ k, k < n → mt_B (mt_p xs ys k)) (h3 : 3 ≤ left) (hl : left ≤ 32) (hr : ∀ k, k < left → rg k = nI (R k) ∧ R k < n) (inj : ∀ p q, p < left → q < left → R p = R q → p = q) (h : ∀ t, t < left - 1 → gm_er (fun k => mt_p xs ys (R k)) (left - 1) t → wX_cutIntoTriangles_43 pst J (nI left) (nI t) cp st (nI n) tr xs ys kd fc mc lc rg) : ∀ d k, k + d = left - 1 → (∃ t, k ≤ t ∧ t < left - 1 ∧ gm_er (fun k => mt_p xs ys (R k)) (left - 1) t) → wX_cutIntoTriangles_21 pst J (nI left) cp st (nI n) tr xs ys kd fc mc lc rg (d + 1) (nI k) := by
  intro d
  induction d with
  | zero =>
    intro k hk ⟨t, p, q, _⟩
    omega
  | succ d ih =>
    intro k hk ⟨t, p, q, r⟩
    have n10 : ¬ (1 : Int32) = 0 := by decide
    refine br_f (by rw [mt_dec (by omega)]; exact nI_ge (by omega) (by omega)) (x_ear hn hB h3 hl hr inj (by omega) (fun er => br_f n10 (h k (by omega) er)) (fun er => br_t rfl (nm_r (nI_1 k) (ih (k + 1) (by omega) ⟨t, ?_, q, r⟩))))
    by_cases e : t = k
    · rw [e] at r; exact absurd r er
    · omega
theorem x_run {A : Int} (hn : n ≤ 32) (hB : ∀ k, k < n → mt_B (mt_p xs ys k)) (h : ∀ (R : Nat → Nat) fc mc lc rg m, mt_CI (mt_p xs ys) n A rg R 2 fc mc lc m → pst (cp, st, nI n, nI m, xs, ys, kd, fc, mc, lc, rg)) : ∀ d (R : Nat → Nat) fc mc lc rg m, mt_CI (mt_p xs ys) n A rg R (d + 2) fc mc lc m → wX_cutIntoTriangles_14 pst (d + 1) (nI (d + 2)) cp st (nI n) (nI m) xs ys kd fc mc lc rg := by
  intro d
  induction d with
  | zero =>
    intro R fc mc lc rg m ci
    exact br_t (nI_lt (b := 3) (by omega) (by omega)) (h R fc mc lc rg m ci)
  | succ d ih =>
    intro R fc mc lc rg m ci
    have c4 := ci.2.2.2.1
    have inj : ∀ p q, p < d + 1 + 2 → q < d + 1 + 2 → R p = R q → p = q := fun p q hp hq e => mt_inj ci (by omega) hp hq e
    obtain ⟨t0, t1, t2⟩ := mt_ear ci (by omega)
    refine br_f (nI_nlt (b := 3) (by omega) (by omega)) ⟨d + 1 + 2 - 1 + 1, x_find hn hB (left := d + 1 + 2) (by omega) (by omega) ci.1 inj (fun t ht er => ?_) (d + 1 + 2 - 1) 0 (by omega) ⟨t0, Nat.zero_le _, t1, t2⟩⟩
    unfold wX_cutIntoTriangles_43
    refine x_cut (R := R) (by omega) (by omega) (by omega) ci.1 ht (fun rg' hr' => ?_)
    refine nm_r (show nI (d + 1 + 2) + (-1) = nI (d + 2) from mt_m1n (d + 2)) ?_
    exact ih _ _ _ _ rg' (m + 1) (mt_cut hn ci (by omega) ht er hr')
theorem x_cuts (h3 : 3 ≤ n) (hn : n ≤ 32) (hB : ∀ k, k < n → mt_B (mt_p xs ys k)) (hs : gm_simp (mt_p xs ys) 0 (n - 1)) (hA : mt_A xs ys n n = gm_cy gm_ar (mt_p xs ys) 0 (n - 1)) (hsm : mt_sm (mt_A xs ys n n)) (h : ∀ fc mc lc rg m, mt_T (mt_p xs ys) fc mc lc m = mt_ab (gm_cy gm_ar (mt_p xs ys) 0 (n - 1)) → m + 2 = n → mt_V n fc mc lc m → pst (cp, st, nI n, nI m, xs, ys, kd, fc, mc, lc, rg)) : wpX_cutIntoTriangles pst (cp, st, nI n, tr, xs, ys, kd, fc, mc, lc, rg) := by
  have fin : ∀ (R : Nat → Nat) fc mc lc rg m, mt_CI (mt_p xs ys) n (mt_ab (gm_cy gm_ar (mt_p xs ys) 0 (n - 1))) rg R 2 fc mc lc m → pst (cp, st, nI n, nI m, xs, ys, kd, fc, mc, lc, rg) := by
    intro R fc mc lc rg m ci
    obtain ⟨a, b, c⟩ := mt_end ci
    exact h fc mc lc rg m a b c
  have run := x_run (cp := cp) (st := st) (kd := kd) hn hB fin (n - 2)
  rw [show n - 2 + 2 = n by omega] at run
  unfold wpX_cutIntoTriangles
  dsimp only
  refine x_ring hn (fun a rg' hr => ⟨n - 2 + 1, ?_⟩) (fun a rg' hr => ⟨n - 2 + 1, ?_⟩)
  · have p : 0 < mt_A xs ys n n := Int.not_le.mp (fun z => a ((mt_le0 hsm).mpr z))
    exact run _ fc mc lc rg' 0 (mt_start1 h3 hs (by omega) hr)
  · have p := (mt_le0 hsm).mp a
    exact run _ fc mc lc rg' 0 (mt_start2 h3 hs (by omega) hr)
end
/-! the area fits -/
theorem mt_arb {p q : gm_P} (hp : mt_B p) (hq : mt_B q) : -2000000 ≤ gm_ar p q ∧ gm_ar p q ≤ 2000000 := by
  unfold mt_B at *
  have x := mt_bd (M := 1000) (N := 1000) (a := p.1) (b := q.2) (by omega) (by omega) (by omega) (by omega)
  have y := mt_bd (M := 1000) (N := 1000) (a := q.1) (b := p.2) (by omega) (by omega) (by omega) (by omega)
  unfold gm_ar
  generalize p.1 * q.2 = X at *
  generalize q.1 * p.2 = Y at *
  omega
theorem mt_Ab {xs ys : Nat → Int32} {n : Nat} (hB : ∀ k, k < n → mt_B (mt_p xs ys k)) : ∀ k, k ≤ n → -(2000000 * (k : Int)) ≤ mt_A xs ys n k ∧ mt_A xs ys n k ≤ 2000000 * (k : Int) := by
  intro k
  induction k with
  | zero => intro _; exact ⟨by show _ ≤ (0 : Int); omega, by show (0 : Int) ≤ _; omega⟩
  | succ k ih =>
    intro hk
    have a := ih (by omega)
    have b := mt_arb (hB k (by omega)) (hB _ (mt_nl (show k < n by omega)))
    have e : mt_A xs ys n (k + 1) = mt_A xs ys n k + gm_ar (mt_p xs ys k) (mt_p xs ys (gm_nx 0 (n - 1) k)) := by
      unfold mt_A
      simp only [gm_sum, Nat.zero_add]
    rw [e]
    omega
theorem mt_Asm {xs ys : Nat → Int32} {n : Nat} (hB : ∀ k, k < n → mt_B (mt_p xs ys k)) (hn : n ≤ 32) : mt_sm (mt_A xs ys n n) := by
  have := mt_Ab hB n (Nat.le_refl _)
  unfold mt_sm
  omega
theorem mt_Acy (xs ys : Nat → Int32) {n : Nat} (h : 1 ≤ n) : mt_A xs ys n n = gm_cy gm_ar (mt_p xs ys) 0 (n - 1) := by
  unfold mt_A gm_cy
  rw [show n - 1 + 1 - 0 = n by omega]
