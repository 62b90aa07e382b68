/-! the component's triangulating: kinds, ring, ears, cuts -/
def mt_sgn (xs ys : Nat → Int32) (n : Nat) : Int32 := if mt_c (mt_A xs ys n n) ≤ 0 then -1 else 1
def mt_cv (xs ys : Nat → Int32) (n k : Nat) : Int32 := mt_sgn xs ys n * mt_c (gm_O (mt_p xs ys (gm_pv 0 (n - 1) k)) (mt_p xs ys k) (mt_p xs ys (gm_nx 0 (n - 1) k)))
def mt_kind (xs ys : Nat → Int32) (n k : Nat) : Int32 :=
  if (ys (gm_pv 0 (n - 1) k) < ys k ∨ (ys (gm_pv 0 (n - 1) k) = ys k ∧ ¬ xs (gm_pv 0 (n - 1) k) ≤ xs k)) ∧ (ys (gm_nx 0 (n - 1) k) < ys k ∨ (ys (gm_nx 0 (n - 1) k) = ys k ∧ ¬ xs (gm_nx 0 (n - 1) k) ≤ xs k)) then (if mt_cv xs ys n k ≤ 0 then 2 else 1)
  else if (ys k < ys (gm_pv 0 (n - 1) k) ∨ (ys k = ys (gm_pv 0 (n - 1) k) ∧ ¬ xs k ≤ xs (gm_pv 0 (n - 1) k))) ∧ (ys k < ys (gm_nx 0 (n - 1) k) ∨ (ys k = ys (gm_nx 0 (n - 1) k) ∧ ¬ xs k ≤ xs (gm_nx 0 (n - 1) k))) then (if mt_cv xs ys n k ≤ 0 then 4 else 3)
  else 5
theorem mt_subn {a b : Nat} (h : b ≤ a) : nI a - nI b = nI (a - b) := by
  obtain ⟨c, rfl⟩ : ∃ c, a = c + b := ⟨a - b, by omega⟩
  rw [← nI_add, Int32.add_sub_cancel, Nat.add_sub_cancel]
theorem mt_m1n (k : Nat) : nI (k + 1) + (-1) = nI k := by
  rw [← nI_1, Int32.add_assoc, show (1 : Int32) + (-1) = 0 from rfl, Int32.add_zero]
section
variable {cp st tr : Int32} {xs ys kd fc mc lc rg : Nat → Int32} {n : Nat} {post : Int32 → Prop} {pst : SX → Prop}
theorem x_k106 {J : Int32 → (Nat → Int32) → (Nat → Int32) → (Nat → Int32) → (Nat → Int32) → (Nat → Int32) → (Nat → Int32) → (Nat → Int32) → Prop} {k : Nat} {x1 z : Int32} (hk : k < n) (hn : n ≤ 32) (hz : (z = 0 ∧ mt_cv xs ys n k ≤ 0) ∨ (z = 1 ∧ ¬ mt_cv xs ys n k ≤ 0)) (hb : ¬ ((ys (gm_pv 0 (n - 1) k) < ys k ∨ (ys (gm_pv 0 (n - 1) k) = ys k ∧ ¬ xs (gm_pv 0 (n - 1) k) ≤ xs k)) ∧ (ys (gm_nx 0 (n - 1) k) < ys k ∨ (ys (gm_nx 0 (n - 1) k) = ys k ∧ ¬ xs (gm_nx 0 (n - 1) k) ≤ xs k)))) (h : J (nI (k + 1)) xs ys (upd kd k (mt_kind xs ys n k)) fc mc lc rg) : wX_fixKinds_106 pst J x1 (nI k) (nI (gm_pv 0 (n - 1) k)) (nI (gm_nx 0 (n - 1) k)) z cp st (nI n) tr xs ys kd fc mc lc rg := by
  have hp := mt_pl hk
  have hq := mt_nl hk
  have vk : vp_in (nI k) 32 := vp_in_nI (by omega) (by omega)
  have ck := nI_clamp (show k < 2 ^ 31 by omega)
  have n10 : ¬ (1 : Int32) = 0 := by decide
  have e5 : ¬ ((ys k < ys (gm_pv 0 (n - 1) k) ∨ (ys k = ys (gm_pv 0 (n - 1) k) ∧ ¬ xs k ≤ xs (gm_pv 0 (n - 1) k))) ∧ (ys k < ys (gm_nx 0 (n - 1) k) ∨ (ys k = ys (gm_nx 0 (n - 1) k) ∧ ¬ xs k ≤ xs (gm_nx 0 (n - 1) k)))) → upd kd (nI k).toNatClampNeg 5 = upd kd k (mt_kind xs ys n k) := by
    intro q
    rw [ck]
    unfold mt_kind
    rw [if_neg hb, if_neg q]
  unfold wX_fixKinds_106
  refine x_below hk hp hn (fun b1 => br_f n10 (x_below hk hq hn (fun b2 => br_f n10 ?_) (fun b2 => br_t rfl ⟨vk, nm_r (e5 (fun z => b2 z.2)) (nm_r (nI_1 k) h)⟩))) (fun b1 => br_t rfl ⟨vk, nm_r (e5 (fun z => b1 z.1)) (nm_r (nI_1 k) h)⟩)
  have kv : mt_kind xs ys n k = if mt_cv xs ys n k ≤ 0 then 4 else 3 := by
    unfold mt_kind
    rw [if_neg hb, if_pos ⟨b1, b2⟩]
  rcases hz with ⟨rfl, hz⟩ | ⟨rfl, hz⟩
  · refine br_t rfl ⟨vk, nm_r ?_ (nm_r (nI_1 k) h)⟩
    rw [ck, kv, if_pos hz]
  · refine br_f n10 ⟨vk, nm_r ?_ (nm_r (nI_1 k) h)⟩
    rw [ck, kv, if_neg hz]
theorem x_k66 {J : Int32 → (Nat → Int32) → (Nat → Int32) → (Nat → Int32) → (Nat → Int32) → (Nat → Int32) → (Nat → Int32) → (Nat → Int32) → Prop} {k : Nat} {x1 z : Int32} (hk : k < n) (hn : n ≤ 32) (hz : (z = 0 ∧ mt_cv xs ys n k ≤ 0) ∨ (z = 1 ∧ ¬ mt_cv xs ys n k ≤ 0)) (h : J (nI (k + 1)) xs ys (upd kd k (mt_kind xs ys n k)) fc mc lc rg) : wX_fixKinds_66 pst J x1 (nI k) (nI (gm_pv 0 (n - 1) k)) (nI (gm_nx 0 (n - 1) k)) z cp st (nI n) tr xs ys kd fc mc lc rg := by
  have hp := mt_pl hk
  have hq := mt_nl hk
  have vk : vp_in (nI k) 32 := vp_in_nI (by omega) (by omega)
  have ck := nI_clamp (show k < 2 ^ 31 by omega)
  have n10 : ¬ (1 : Int32) = 0 := by decide
  unfold wX_fixKinds_66
  refine x_below hp hk hn (fun b1 => br_f n10 (x_below hq hk hn (fun b2 => br_f n10 ?_) (fun b2 => br_t rfl (x_k106 hk hn hz (fun z => b2 z.2) h)))) (fun b1 => br_t rfl (x_k106 hk hn hz (fun z => b1 z.1) h))
  have kv : mt_kind xs ys n k = if mt_cv xs ys n k ≤ 0 then 2 else 1 := by
    unfold mt_kind
    rw [if_pos ⟨b1, b2⟩]
  rcases hz with ⟨rfl, hz⟩ | ⟨rfl, hz⟩
  · refine br_t rfl ⟨vk, nm_r ?_ (nm_r (nI_1 k) h)⟩
    rw [ck, kv, if_pos hz]
  · refine br_f n10 ⟨vk, nm_r ?_ (nm_r (nI_1 k) h)⟩
    rw [ck, kv, if_neg hz]
theorem x_kinds_l (hn : n ≤ 32) (h : ∀ kd', (∀ j, j < n → kd' j = mt_kind xs ys n j) → pst (cp, st, nI n, tr, xs, ys, kd', fc, mc, lc, rg)) : ∀ d k kd, k + d = n → (∀ j, j < k → kd j = mt_kind xs ys n j) → wX_fixKinds_15 pst (mt_sgn xs ys n) cp st (nI n) tr (d + 1) (nI k) xs ys kd fc mc lc rg := by
  intro d
  induction d with
  | zero =>
    intro k kd hk hi
    have e : k = n := by omega
    subst e
    exact br_t (nI_le (Nat.le_refl _) (by omega)) (h kd hi)
  | succ d ih =>
    intro k kd hk hi
    have hkn : k < n := by omega
    have hj := mt_nl hkn
    have hp := mt_pl hkn
    have vj : vp_in (nI (gm_nx 0 (n - 1) k)) 32 := vp_in_nI (by omega) (by omega)
    have nxt : wX_fixKinds_15 pst (mt_sgn xs ys n) cp st (nI n) tr (d + 1) (nI (k + 1)) xs ys (upd kd k (mt_kind xs ys n k)) fc mc lc rg := by
      refine ih (k + 1) _ (by omega) (fun j hj => ?_)
      by_cases e : j = k
      · rw [e]; exact mt_us
      · rw [mt_un e]; exact hi j (by omega)
    refine br_f (nI_ge (by omega) (by omega)) (x_prev hkn hn (x_next hkn hn ⟨vj, vj, x_cross hp hkn hn ?_⟩))
    rw [nI_clamp (show gm_nx 0 (n - 1) k < 2 ^ 31 by omega)]
    exact br_c (fun c => x_k66 hkn hn (Or.inl ⟨rfl, c⟩) nxt) (fun c => x_k66 hkn hn (Or.inr ⟨rfl, c⟩) nxt)
theorem x_kinds (hn : n ≤ 32) (h : ∀ kd', (∀ j, j < n → kd' j = mt_kind xs ys n j) → pst (cp, st, nI n, tr, xs, ys, kd', fc, mc, lc, rg)) : wpX_fixKinds pst (cp, st, nI n, tr, xs, ys, kd, fc, mc, lc, rg) := by
  have k := x_kinds_l (cp := cp) (st := st) (tr := tr) (fc := fc) (mc := mc) (lc := lc) (rg := rg) hn h n 0 kd (by omega) (fun j hj => by omega)
  unfold wpX_fixKinds
  dsimp only
  refine x_area hn (br_c (fun a => ?_) (fun a => ?_))
  · unfold mt_sgn at k
    rw [if_pos a] at k
    exact ⟨n + 1, k⟩
  · unfold mt_sgn at k
    rw [if_neg a] at k
    exact ⟨n + 1, k⟩
theorem x_ring_l {x1 : Int32} (R : Nat → Nat) (hn : n ≤ 32) (hx : (x1 = 0 ∧ ∀ k, k < n → R k = n - 1 - k) ∨ (¬ x1 = 0 ∧ ∀ k, k < n → R k = k)) (h : ∀ rg', (∀ j, j < n → rg' j = nI (R j)) → pst (cp, st, nI n, tr, xs, ys, kd, fc, mc, lc, rg')) : ∀ d k rg, k + d = n → (∀ j, j < k → rg j = nI (R j)) → wX_fillRing_15 pst x1 cp st (nI n) tr (d + 1) (nI k) xs ys kd fc mc lc rg := by
  intro d
  induction d with
  | zero =>
    intro k rg hk hi
    have e : k = n := by omega
    subst e
    exact br_t (nI_le (Nat.le_refl _) (by omega)) (h rg hi)
  | succ d ih =>
    intro k rg hk hi
    have hkn : k < n := by omega
    have vk : vp_in (nI k) 32 := vp_in_nI (by omega) (by omega)
    have ck := nI_clamp (show k < 2 ^ 31 by omega)
    have nxt : wX_fillRing_15 pst x1 cp st (nI n) tr (d + 1) (nI (k + 1)) xs ys kd fc mc lc (upd rg k (nI (R k))) := by
      refine ih (k + 1) _ (by omega) (fun j hj => ?_)
      by_cases e : j = k
      · rw [e]; exact mt_us
      · rw [mt_un e]; exact hi j (by omega)
    refine br_f (nI_ge (by omega) (by omega)) ?_
    rcases hx with ⟨z, r⟩ | ⟨z, r⟩
    · refine br_t z ⟨vk, nm_r ?_ (nm_r (nI_1 k) nxt)⟩
      rw [ck, r k hkn, mt_dec (by omega), mt_subn (by omega)]
    · refine br_f z ⟨vk, nm_r ?_ (nm_r (nI_1 k) nxt)⟩
      rw [ck, r k hkn]
theorem x_ring (hn : n ≤ 32) (h1 : ¬ mt_c (mt_A xs ys n n) ≤ 0 → ∀ rg', (∀ j, j < n → rg' j = nI j) → pst (cp, st, nI n, tr, xs, ys, kd, fc, mc, lc, rg')) (h0 : mt_c (mt_A xs ys n n) ≤ 0 → ∀ rg', (∀ j, j < n → rg' j = nI (n - 1 - j)) → pst (cp, st, nI n, tr, xs, ys, kd, fc, mc, lc, rg')) : wpX_fillRing pst (cp, st, nI n, tr, xs, ys, kd, fc, mc, lc, rg) := by
  unfold wpX_fillRing
  dsimp only
  refine x_area hn (br_c (fun a => ⟨n + 1, ?_⟩) (fun a => ⟨n + 1, ?_⟩))
  · exact x_ring_l (fun k => n - 1 - k) hn (Or.inl ⟨rfl, fun _ _ => rfl⟩) (h0 a) n 0 rg (by omega) (fun j hj => by omega)
  · exact x_ring_l (fun k => k) hn (Or.inr ⟨by decide, fun _ _ => rfl⟩) (h1 a) n 0 rg (by omega) (fun j hj => by omega)
/-! ears -/
theorem x_ear_l {R : Nat → Nat} {left a t c : Nat} (hn : n ≤ 32) (hB : ∀ k, k < n → mt_B (mt_p xs ys k)) (hl : left ≤ 32) (hr : ∀ k, k < left → rg k = nI (R k) ∧ R k < n) (inj : ∀ p q, p < left → q < left → R p = R q → p = q) (ha : a < left) (ht : t < left) (hc : c < left) : ∀ d k, k + d = left → ((∀ x, k ≤ x → x < left → x ≠ a → x ≠ t → x ≠ c → ¬ gm_in (mt_p xs ys (R a)) (mt_p xs ys (R t)) (mt_p xs ys (R c)) (mt_p xs ys (R x))) → post 1) → ((¬ ∀ x, k ≤ x → x < left → x ≠ a → x ≠ t → x ≠ c → ¬ gm_in (mt_p xs ys (R a)) (mt_p xs ys (R t)) (mt_p xs ys (R c)) (mt_p xs ys (R x))) → post 0) → wX_isEar_77 post (nI left) (nI (R a)) (nI (R t)) (nI (R c)) cp st (nI n) tr xs ys kd fc mc lc rg (d + 1) (nI k) := by
  intro d
  induction d with
  | zero =>
    intro k hk h1 h0
    have e : k = left := by omega
    subst e
    exact br_t (nI_le (Nat.le_refl _) (by omega)) (h1 (fun x p q => by omega))
  | succ d ih =>
    intro k hk h1 h0
    have hkl : k < left := by omega
    obtain ⟨rk, rn⟩ := hr k hkl
    have ra := (hr a ha).2
    have rt := (hr t ht).2
    have rc := (hr c hc).2
    have vk : vp_in (nI k) 32 := vp_in_nI (by omega) (by omega)
    have ck := nI_clamp (show k < 2 ^ 31 by omega)
    have n10 : ¬ (1 : Int32) = 0 := by decide
    have go : (k ≠ a → k ≠ t → k ≠ c → ¬ gm_in (mt_p xs ys (R a)) (mt_p xs ys (R t)) (mt_p xs ys (R c)) (mt_p xs ys (R k))) → wX_isEar_77 post (nI left) (nI (R a)) (nI (R t)) (nI (R c)) cp st (nI n) tr xs ys kd fc mc lc rg (d + 1) (nI (k + 1)) := by
      intro nr
      refine ih (k + 1) (by omega) (fun z => h1 (fun x p q r s t' => ?_)) (fun z => h0 (fun w => z (fun x p q => w x (by omega) q)))
      by_cases e : x = k
      · rw [e] at r s t' ⊢
        exact nr r s t'
      · exact z x (by omega) q r s t'
    have q1 := nI_eq (a := R k) (b := R a) (by omega) (by omega)
    have q2 := nI_eq (a := R k) (b := R t) (by omega) (by omega)
    have q3 := nI_eq (a := R k) (b := R c) (by omega) (by omega)
    refine br_f (nI_ge (by omega) (by omega)) ⟨vk, nm_r (show rg (nI k).toNatClampNeg = nI (R k) by rw [ck]; exact rk) ?_⟩
    refine br_c (fun e => nm_r (nI_1 k) (go (fun z => absurd (inj _ _ hkl ha (q1.mp e)) z))) (fun e1 => br_c (fun e => nm_r (nI_1 k) (go (fun _ z => absurd (inj _ _ hkl ht (q2.mp e)) z))) (fun e2 => br_c (fun e => nm_r (nI_1 k) (go (fun _ _ z => absurd (inj _ _ hkl hc (q3.mp e)) z))) (fun e3 => ?_)))
    refine x_tri ra rt rc rn hn hB (fun m => br_f n10 (h0 (fun z => ?_))) (fun m => br_t rfl (nm_r (nI_1 k) (go (fun _ _ _ => m))))
    exact z k (Nat.le_refl _) hkl (fun w => e1 (q1.mpr (by rw [w]))) (fun w => e2 (q2.mpr (by rw [w]))) (fun w => e3 (q3.mpr (by rw [w]))) m
theorem x_ear {R : Nat → Nat} {left t : Nat} (hn : n ≤ 32) (hB : ∀ k, k < n → mt_B (mt_p xs ys k)) (h3 : 3 ≤ left) (hl : left ≤ 32) (hr : ∀ k, k < left → rg k = nI (R k) ∧ R k < n) (inj : ∀ p q, p < left → q < left → R p = R q → p = q) (ht : t < left) (h1 : gm_er (fun k => mt_p xs ys (R k)) (left - 1) t → post 1) (h0 : ¬ gm_er (fun k => mt_p xs ys (R k)) (left - 1) t → post 0) : wpX_isEar post (cp, st, nI n, tr, xs, ys, kd, fc, mc, lc, rg) (nI t) (nI left) := by
  have hp := mt_pl ht
  have hq := mt_nl ht
  obtain ⟨gp, rp⟩ := hr _ hp
  obtain ⟨gt, rt⟩ := hr _ ht
  obtain ⟨gq, rq⟩ := hr _ hq
  have vt : vp_in (nI t) 32 := vp_in_nI (by omega) (by omega)
  have vp : vp_in (nI (gm_pv 0 (left - 1) t)) 32 := vp_in_nI (by omega) (by omega)
  have vq : vp_in (nI (gm_nx 0 (left - 1) t)) 32 := vp_in_nI (by omega) (by omega)
  have vr : vp_in (nI (R (gm_nx 0 (left - 1) t))) 32 := vp_in_nI (by omega) (by omega)
  have e45 : wX_isEar_45 post (nI left) (nI (R (gm_pv 0 (left - 1) t))) (nI (R t)) (nI (gm_nx 0 (left - 1) t)) cp st (nI n) tr xs ys kd fc mc lc rg := by
    unfold wX_isEar_45
    refine ⟨vq, nm_r (show rg (nI (gm_nx 0 (left - 1) t)).toNatClampNeg = nI (R (gm_nx 0 (left - 1) t)) by rw [nI_clamp (by omega)]; exact gq) ⟨vr, vr, x_cross rp rt hn ?_⟩⟩
    rw [nI_clamp (show R (gm_nx 0 (left - 1) t) < 2 ^ 31 by omega)]
    have s := mt_0lt (mt_Os (hB _ rp) (hB _ rt) (hB _ rq))
    refine br_c (fun z => ⟨left + 1, x_ear_l hn hB hl hr inj hp ht hq left 0 (by omega) (fun w => h1 ⟨s.mp z, fun x x1 a b c => w x (by omega) (by omega) a b c⟩) (fun w => h0 (fun er => w (fun x _ x1 a b c => er.2 x (by omega) a b c)))⟩) (fun z => h0 (fun er => z (s.mpr er.1)))
  have e17 : wX_isEar_17 post (nI t) (nI left) (nI (gm_pv 0 (left - 1) t)) cp st (nI n) tr xs ys kd fc mc lc rg := by
    unfold wX_isEar_17
    refine ⟨vp, nm_r (show rg (nI (gm_pv 0 (left - 1) t)).toNatClampNeg = nI (R (gm_pv 0 (left - 1) t)) by rw [nI_clamp (by omega)]; exact gp) ⟨vt, nm_r (show rg (nI t).toNatClampNeg = nI (R t) by rw [nI_clamp (by omega)]; exact gt) ?_⟩⟩
    rw [nI_1, nI_leI (by omega) (by omega)]
    refine br_c (fun z => ?_) (fun z => ?_)
    · have e : gm_nx 0 (left - 1) t = 0 := by unfold gm_nx; rw [if_pos (by omega)]
      rw [e, nI_0] at e45
      exact e45
    · have e : gm_nx 0 (left - 1) t = t + 1 := by unfold gm_nx; rw [if_neg (by omega)]
      rw [e] at e45
      exact e45
  unfold wpX_isEar
  dsimp only
  rw [← nI_0, nI_leI (by omega) (by omega)]
  refine br_c (fun z => ?_) (fun z => ?_)
  · have e : gm_pv 0 (left - 1) t = left - 1 := by unfold gm_pv; rw [if_pos (by omega)]
    rw [mt_dec (by omega), ← e]
    exact e17
  · have e : gm_pv 0 (left - 1) t = t - 1 := by unfold gm_pv; rw [if_neg (by omega)]
    rw [mt_dec (by omega), ← e]
    exact e17
end
