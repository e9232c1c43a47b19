/-! the other methods -/
theorem i_vc_kind {k : Nat} {u : SX} {v : SY} (I : i_Rel k u v) (hk : k + 5 ≤ 2563) (v1 : Int32) : wpX_kind (fun r => wpY_kind (fun r' => r' = r ∧ i_Rel (k + 5) u v) v v1) u v1 := by
  have same := i_up I
  obtain ⟨C, M, A, K, L, R, D, op, rx, ix, ry, iy, kd, lf, rg, ls, tok, st, ta, sp, re, rfl, rfl, G, hM, hA, GD, hV, hO⟩ := I
  have hC := G.1
  unfold wpX_kind wpY_kind
  dsimp only
  rcases pk_ix2 v1 (n := C) (by omega) with h1 | ⟨c, hc, rfl⟩
  · exact xq_no h1 (br_t rfl (yq_no h1 (br_f (by decide) ⟨rfl, same⟩)))
  · have hi : vp_in (nI c) 16 := vp_in_nI (by omega) (by omega)
    exact xq_yes hC hc (br_f (by decide) ⟨hi, yq_yes hC hc (br_t rfl ⟨hi, rfl, same⟩)⟩)
theorem i_vc_left {k : Nat} {u : SX} {v : SY} (I : i_Rel k u v) (hk : k + 5 ≤ 2563) (v1 : Int32) : wpX_left (fun r => wpY_left (fun r' => r' = r ∧ i_Rel (k + 5) u v) v v1) u v1 := by
  have same := i_up I
  obtain ⟨C, M, A, K, L, R, D, op, rx, ix, ry, iy, kd, lf, rg, ls, tok, st, ta, sp, re, rfl, rfl, G, hM, hA, GD, hV, hO⟩ := I
  have hC := G.1
  unfold wpX_left wpY_left
  dsimp only
  rcases pk_ix2 v1 (n := C) (by omega) with h1 | ⟨c, hc, rfl⟩
  · exact xq_no h1 (br_t rfl (yq_no h1 (br_f (by decide) ⟨rfl, same⟩)))
  · have hi : vp_in (nI c) 16 := vp_in_nI (by omega) (by omega)
    exact xq_yes hC hc (br_f (by decide) ⟨hi, yq_yes hC hc (br_t rfl ⟨hi, rfl, same⟩)⟩)
theorem i_vc_right {k : Nat} {u : SX} {v : SY} (I : i_Rel k u v) (hk : k + 5 ≤ 2563) (v1 : Int32) : wpX_right (fun r => wpY_right (fun r' => r' = r ∧ i_Rel (k + 5) u v) v v1) u v1 := by
  have same := i_up I
  obtain ⟨C, M, A, K, L, R, D, op, rx, ix, ry, iy, kd, lf, rg, ls, tok, st, ta, sp, re, rfl, rfl, G, hM, hA, GD, hV, hO⟩ := I
  have hC := G.1
  unfold wpX_right wpY_right
  dsimp only
  rcases pk_ix2 v1 (n := C) (by omega) with h1 | ⟨c, hc, rfl⟩
  · exact xq_no h1 (br_t rfl (yq_no h1 (br_f (by decide) ⟨rfl, same⟩)))
  · have hi : vp_in (nI c) 16 := vp_in_nI (by omega) (by omega)
    exact xq_yes hC hc (br_f (by decide) ⟨hi, yq_yes hC hc (br_t rfl ⟨hi, rfl, same⟩)⟩)
theorem i_vc_least {k : Nat} {u : SX} {v : SY} (I : i_Rel k u v) (hk : k + 5 ≤ 2563) (v1 : Int32) : wpX_least (fun r => wpY_least (fun r' v' => r' = r ∧ i_Rel (k + 5) u v') v v1) u v1 := by
  have same := i_up I
  obtain ⟨C, M, A, K, L, R, D, op, rx, ix, ry, iy, kd, lf, rg, ls, tok, st, ta, sp, re, rfl, rfl, G, hM, hA, GD, hV, hO⟩ := I
  have hC := G.1
  unfold wpX_least wpY_least
  dsimp only
  rcases pk_ix2 v1 (n := C) (by omega) with h1 | ⟨c, hc, rfl⟩
  · exact xq_no h1 (br_t rfl (yq_no h1 (br_f (by decide) ⟨rfl, same⟩)))
  · have hi : vp_in (nI c) 16 := vp_in_nI (by omega) (by omega)
    rw [show (nI c).toNatClampNeg = c from nI_clamp (by omega), (hV c hc).1]
    refine xq_yes hC hc (br_f (by decide) ⟨hi, xv_len (hV c hc).2 (yq_yes hC hc (br_t rfl (ye_ans G (nn := 0) (by omega) hc _ (fun sp re Dr GR => ⟨?_, ?_⟩))))⟩)
    · rw [rl_0 hC (gx_wf G) GD GR hc]
    · exact rl_mk (k + 5) G hM hA GD hV hO
theorem i_vc_open {k : Nat} {u : SX} {v : SY} (I : i_Rel k u v) (hk : k + 5 ≤ 2563) (v1 : Int32) : wpX_open (fun r u' => wpY_open (fun r' v' => r' = r ∧ i_Rel (k + 5) u' v') v v1) u v1 := by
  have same := i_up I
  obtain ⟨C, M, A, K, L, R, D, op, rx, ix, ry, iy, kd, lf, rg, ls, tok, st, ta, sp, re, rfl, rfl, G, hM, hA, GD, hV, hO⟩ := I
  have hC := G.1
  unfold wpX_open wpY_open
  dsimp only
  by_cases ho : op = 0
  · refine br_t ho ?_
    rcases pk_ix2 v1 (n := C) (by omega) with h1 | ⟨c, hc, rfl⟩
    · exact xq_no h1 (br_t rfl (br_t ho (yq_no h1 (br_f (by decide) ⟨rfl, same⟩))))
    · have hi : vp_in (nI c) 16 := vp_in_nI (by omega) (by omega)
      refine xq_yes hC hc (br_f (by decide) (xm_upto G GD hV (t := 0) (by omega) (fun c i j _ _ h => absurd h (by omega)) _ (fun st' hS => ⟨hi, ?_⟩)))
      dsimp only
      rw [show (nI c).toNatClampNeg = c from nI_clamp (by omega), (hV c hc).1]
      refine xv_for (hV c hc).2 (br_t ho (yq_yes hC hc (br_t rfl (ye_ver G (nn := 0) (by omega) hc (by decide) _ (fun sp re Dr GR => ⟨?_, ?_⟩)))))
      · rw [rl_0 hC (gx_wf G) GD GR hc]
      · exact rl_mk (k + 5) G hM hA GD hV (fun _ => ⟨c, 0, hc, by omega, rfl, rfl, rfl, rfl, hS⟩)
  · exact br_f ho (br_f ho ⟨rfl, same⟩)
theorem i_vc_close {k : Nat} {u : SX} {v : SY} (I : i_Rel k u v) (hk : k + 5 ≤ 2563) : wpX_close (fun r u' => wpY_close (fun r' v' => r' = r ∧ i_Rel (k + 5) u' v') v) u := by
  have same := i_up I
  obtain ⟨C, M, A, K, L, R, D, op, rx, ix, ry, iy, kd, lf, rg, ls, tok, st, ta, sp, re, rfl, rfl, G, hM, hA, GD, hV, hO⟩ := I
  by_cases ho : op = 0
  · exact br_t ho (br_t ho ⟨rfl, same⟩)
  · exact br_f ho (br_f ho ⟨rfl, rl_mk (k + 5) G hM hA GD hV (fun h => absurd rfl h)⟩)
theorem i_vc_root {k : Nat} {u : SX} {v : SY} (I : i_Rel k u v) (hk : k + 5 ≤ 2563) : wpX_root (fun r => wpY_root (fun r' => r' = r ∧ i_Rel (k + 5) u v) v) u := by
  have same := i_up I
  obtain ⟨C, M, A, K, L, R, D, op, rx, ix, ry, iy, kd, lf, rg, ls, tok, st, ta, sp, re, rfl, rfl, G, hM, hA, GD, hV, hO⟩ := I
  by_cases ho : op = 0
  · exact br_t ho (br_t ho ⟨rfl, same⟩)
  · obtain ⟨ro, n, hro, hn, e1, e2, e3, e4, hS⟩ := hO ho
    exact br_f ho (br_f ho ⟨e2.trans e1.symm, same⟩)
theorem i_vc_size {k : Nat} {u : SX} {v : SY} (I : i_Rel k u v) (hk : k + 5 ≤ 2563) : wpX_size (fun r => wpY_size (fun r' => r' = r ∧ i_Rel (k + 5) u v) v) u := by
  have same := i_up I
  obtain ⟨C, M, A, K, L, R, D, op, rx, ix, ry, iy, kd, lf, rg, ls, tok, st, ta, sp, re, rfl, rfl, G, hM, hA, GD, hV, hO⟩ := I
  by_cases ho : op = 0
  · exact br_t ho (br_t ho ⟨rfl, same⟩)
  · obtain ⟨ro, n, hro, hn, e1, e2, e3, e4, hS⟩ := hO ho
    exact br_f ho (br_f ho ⟨e4.trans e3.symm, same⟩)
theorem i_vc_tokenAt {k : Nat} {u : SX} {v : SY} (I : i_Rel k u v) (hk : k + 5 ≤ 2563) (v1 : Int32) : wpX_tokenAt (fun r => wpY_tokenAt (fun r' => r' = r ∧ i_Rel (k + 5) u v) v v1) u v1 := by
  have same := i_up I
  obtain ⟨C, M, A, K, L, R, D, op, rx, ix, ry, iy, kd, lf, rg, ls, tok, st, ta, sp, re, rfl, rfl, G, hM, hA, GD, hV, hO⟩ := I
  by_cases ho : op = 0
  · exact br_t ho (br_t ho ⟨rfl, same⟩)
  · obtain ⟨ro, n, hro, hn, e1, e2, e3, e4, hS⟩ := hO ho
    subst e1 e2 e3 e4
    refine br_f ho ?_
    rcases pk_ix2 v1 (n := n) (by omega) with h1 | ⟨c, hc, rfl⟩
    · exact br_c (fun z => br_f ho (br_t z ⟨rfl, same⟩)) (fun z => br_f (Int32.not_lt.mpr (h1.resolve_left z)) (br_f ho (br_f z (br_f (Int32.not_lt.mpr (h1.resolve_left z)) ⟨rfl, same⟩))))
    · have hi : vp_in (nI c) 13 := vp_in_nI (by omega) (by omega)
      have p := nI_pos (n := c) (by omega)
      have q := nI_lt hc (by omega)
      exact br_f p (br_t q ⟨hi, br_f ho (br_f p (br_t q ⟨hi, rfl, same⟩))⟩)
theorem i_vc_feed {k : Nat} {u : SX} {v : SY} (I : i_Rel k u v) (hk : k + 5 ≤ 2563) (v1 : Int32) : wpX_feed (fun r u' => wpY_feed (fun r' v' => r' = r ∧ i_Rel (k + 5) u' v') v v1) u v1 := by
  have same := i_up I
  obtain ⟨C, M, A, K, L, R, D, op, rx, ix, ry, iy, kd, lf, rg, ls, tok, st, ta, sp, re, rfl, rfl, G, hM, hA, GD, hV, hO⟩ := I
  have hC := G.1
  unfold wpX_feed wpY_feed
  dsimp only
  by_cases ho : op = 0
  · exact br_t ho (br_t ho ⟨rfl, same⟩)
  · obtain ⟨ro, n, hro, hn, e1, e2, e3, e4, hS⟩ := hO ho
    subst e1 e2 e3 e4
    refine br_f ho ?_
    rcases pk_ix2 v1 (n := A) (by omega) with h1 | ⟨c, hc, rfl⟩
    · exact xk_no h1 (br_t rfl (br_f ho (br_c (fun z => ⟨rfl, same⟩) (fun z => br_f (Int32.not_lt.mpr (h1.resolve_left z)) ⟨rfl, same⟩))))
    · refine xk_yes hA hc (br_f (by decide) ?_)
      have p := nI_pos (n := c) (by omega)
      have q := nI_lt hc (by omega)
      have hi : vp_in (nI n) 13 := vp_in_nI (by omega) (by omega)
      rw [show (nI n).toNatClampNeg = n from nI_clamp (by omega)]
      refine pk_lt n M (fun hlt => ⟨hi, nm_e (nm_r (nI_1 n) ?_)⟩) (fun hge => br_f ho (br_f p (br_t q (br_f (nI_nlt hge (by omega)) ⟨rfl, same⟩))))
      refine xm_upto G GD hV (by omega) (gx_S_tok hS) _ (fun st' hS' => ?_)
      refine xt_missing G (by omega) hro (gx_S_le hS' (by omega)) hV _ (fun ta' T h0 hT hB => ?_)
      refine xv_for hB (br_f ho (br_f p (br_t q (br_t (nI_lt hlt (by omega)) ⟨hi, nm_e (nm_r (nI_1 n) (ye_ver G (by omega) hro ho _ (fun sp re Dr GR => ⟨?_, ?_⟩)))⟩))))
      · rw [rl_n (by omega) hC (gx_wf G) GD h0 hT GR hro]
      · exact rl_mk (k + 5) G hM hA GD hV (fun _ => ⟨ro, n + 1, hro, by omega, rfl, rfl, rfl, rfl, hS'⟩)
theorem i_vc_keep {k : Nat} {u : SX} {v : SY} (I : i_Rel k u v) (hk : k + 5 ≤ 2563) (v1 : Int32) : wpX_keep (fun r u' => wpY_keep (fun r' v' => r' = r ∧ i_Rel (k + 5) u' v') v v1) u v1 := by
  have same := i_up I
  obtain ⟨C, M, A, K, L, R, D, op, rx, ix, ry, iy, kd, lf, rg, ls, tok, st, ta, sp, re, rfl, rfl, G, hM, hA, GD, hV, hO⟩ := I
  have hC := G.1
  unfold wpX_keep wpY_keep
  dsimp only
  by_cases ho : op = 0
  · exact br_t ho (br_t ho ⟨rfl, same⟩)
  · obtain ⟨ro, n, hro, hn, e1, e2, e3, e4, hS⟩ := hO ho
    subst e1 e2 e3 e4
    refine br_f ho ?_
    by_cases h1 : v1 < 0
    · exact br_t h1 (br_f ho (br_t h1 ⟨rfl, same⟩))
    · refine br_f h1 ?_
      by_cases h2 : v1 ≤ nI n
      · obtain ⟨m, hm, rfl⟩ := nI_of2 (nI_toInt (by omega)) h1 h2
        refine br_t h2 (xt_missing G (by omega) hro (gx_S_le hS (by omega)) hV _ (fun ta' T h0 hT hB => ?_))
        refine xv_for hB (br_f ho (br_f h1 (br_t h2 (ye_ver G (by omega) hro ho _ (fun sp re Dr GR => ⟨?_, ?_⟩)))))
        · rw [rl_n (by omega) hC (gx_wf G) GD h0 hT GR hro]
        · exact rl_mk (k + 5) G hM hA GD hV (fun _ => ⟨ro, m, hro, by omega, rfl, rfl, rfl, rfl, gx_S_le hS (by omega)⟩)
      · exact br_f h2 (br_f ho (br_f h1 (br_f h2 ⟨rfl, same⟩)))
theorem i_vc_verdict {k : Nat} {u : SX} {v : SY} (I : i_Rel k u v) (hk : k + 5 ≤ 2563) : wpX_verdict (fun r u' => wpY_verdict (fun r' v' => r' = r ∧ i_Rel (k + 5) u' v') v) u := by
  have same := i_up I
  obtain ⟨C, M, A, K, L, R, D, op, rx, ix, ry, iy, kd, lf, rg, ls, tok, st, ta, sp, re, rfl, rfl, G, hM, hA, GD, hV, hO⟩ := I
  have hC := G.1
  unfold wpX_verdict
  dsimp only
  by_cases ho : op = 0
  · exact br_t ho (br_t ho ⟨rfl, same⟩)
  · obtain ⟨ro, n, hro, hn, e1, e2, e3, e4, hS⟩ := hO ho
    subst e1 e2 e3 e4
    refine br_f ho (xt_missing G (by omega) hro (gx_S_le hS (by omega)) hV _ (fun ta' T h0 hT hB => ?_))
    refine xv_for hB (ye_ver G (by omega) hro ho _ (fun sp re Dr GR => ⟨?_, ?_⟩))
    · rw [rl_n (by omega) hC (gx_wf G) GD h0 hT GR hro]
    · exact rl_mk (k + 5) G hM hA GD hV (fun _ => ⟨ro, n, hro, by omega, rfl, rfl, rfl, rfl, hS⟩)
theorem i_vc_shortest {k : Nat} {u : SX} {v : SY} (I : i_Rel k u v) (hk : k + 5 ≤ 2563) : wpX_shortest (fun r u' => wpY_shortest (fun r' v' => r' = r ∧ i_Rel (k + 5) u' v') v) u := by
  have same := i_up I
  obtain ⟨C, M, A, K, L, R, D, op, rx, ix, ry, iy, kd, lf, rg, ls, tok, st, ta, sp, re, rfl, rfl, G, hM, hA, GD, hV, hO⟩ := I
  have hC := G.1
  unfold wpX_shortest wpY_shortest
  dsimp only
  by_cases ho : op = 0
  · exact br_t ho (br_t ho ⟨rfl, same⟩)
  · obtain ⟨ro, n, hro, hn, e1, e2, e3, e4, hS⟩ := hO ho
    subst e1 e2 e3 e4
    refine br_f ho (xt_missing G (by omega) hro (gx_S_le hS (by omega)) hV _ (fun ta' T h0 hT hB => ?_))
    refine xv_len hB (br_f ho (ye_ans G (by omega) hro _ (fun sp re Dr GR => ⟨?_, ?_⟩)))
    · rw [rl_n (by omega) hC (gx_wf G) GD h0 hT GR hro]
    · exact rl_mk (k + 5) G hM hA GD hV (fun _ => ⟨ro, n, hro, by omega, rfl, rfl, rfl, rfl, hS⟩)
theorem i_vc_ahead {k : Nat} {u : SX} {v : SY} (I : i_Rel k u v) (hk : k + 5 ≤ 2563) (v1 : Int32) : wpX_ahead (fun r u' => wpY_ahead (fun r' v' => r' = r ∧ i_Rel (k + 5) u' v') v v1) u v1 := by
  have same := i_up I
  obtain ⟨C, M, A, K, L, R, D, op, rx, ix, ry, iy, kd, lf, rg, ls, tok, st, ta, sp, re, rfl, rfl, G, hM, hA, GD, hV, hO⟩ := I
  have hC := G.1
  unfold wpX_ahead wpY_ahead
  dsimp only
  by_cases ho : op = 0
  · exact br_t ho (br_t ho ⟨rfl, same⟩)
  · obtain ⟨ro, n, hro, hn, e1, e2, e3, e4, hS⟩ := hO ho
    subst e1 e2 e3 e4
    refine br_f ho ?_
    rcases pk_ix2 v1 (n := A) (by omega) with h1 | ⟨c, hc, rfl⟩
    · exact xk_no h1 (br_t rfl (br_f ho (br_c (fun z => ⟨rfl, same⟩) (fun z => br_f (Int32.not_lt.mpr (h1.resolve_left z)) ⟨rfl, same⟩))))
    · refine xk_yes hA hc (br_f (by decide) ?_)
      have p := nI_pos (n := c) (by omega)
      have q := nI_lt hc (by omega)
      have hi : vp_in (nI n) 13 := vp_in_nI (by omega) (by omega)
      rw [show (nI n).toNatClampNeg = n from nI_clamp (by omega), nI_1 n]
      refine ⟨hi, nm_e (xt_missing G (by omega) hro (gx_S_tok hS) hV _ (fun ta' T h0 hT hB => ?_))⟩
      refine xv_len hB (br_f ho (br_f p (br_t q ⟨hi, nm_e (ye_ans G (by omega) hro _ (fun sp re Dr GR => ⟨?_, ?_⟩))⟩)))
      · rw [rl_n (by omega) hC (gx_wf G) GD h0 hT GR hro]
      · exact rl_mk (k + 5) G hM hA GD hV (fun _ => ⟨ro, n, hro, by omega, rfl, rfl, rfl, rfl, gx_S_tok hS⟩)
/-- r is the greatest place up to n with P, or -1 -/
def lq_is (P : Nat → Prop) (n : Nat) (r : Int32) : Prop := (∃ k, k ≤ n ∧ P k ∧ (∀ m, k < m → m ≤ n → ¬ P m) ∧ r = nI k) ∨ ((∀ m, m ≤ n → ¬ P m) ∧ r = -1)
theorem lq_u {P : Nat → Prop} {n : Nat} {r s : Int32} (h : lq_is P n r) (g : lq_is P n s) : s = r := by
  rcases h with ⟨k, h1, h2, h3, h4⟩ | ⟨h1, h2⟩
  · rcases g with ⟨j, g1, g2, g3, g4⟩ | ⟨g1, g2⟩
    · have a : ¬ k < j := fun z => h3 j z g1 g2
      have b : ¬ j < k := fun z => g3 k z h1 h2
      rw [h4, g4, show j = k from by omega]
    · exact absurd h2 (g1 k h1)
  · rcases g with ⟨j, g1, g2, g3, g4⟩ | ⟨g1, g2⟩
    · exact absurd g2 (h1 j g1)
    · rw [h2, g2]
section
variable {C : Nat} {fl ft fo fi ml al sz op : Int32} {kd lf rg ls tok st ta wd sp re : Nat → Int32}
theorem lq_x {P : Nat → Prop} {n ro : Nat} (hn : n ≤ 12) (hro : ro < 16) (hP : ∀ k, k ≤ n → (bt (st (0 * 13 + k)) ro = true ↔ P k)) (post : Int32 → Prop) (h : ∀ r, lq_is P n r → post r) :
    ∀ f k, k ≤ n + 1 → k < f → (∀ m, k ≤ m → m ≤ n → ¬ P m) → wX_longest_15 post (nI C) fl ft fo (nI ro) fi kd lf rg ls tok st ta f (nI k + (-1)) := by
  intro f
  induction f with
  | zero => intro k _ h; omega
  | succ f ih =>
    intro k hk hf hm
    cases k with
    | zero => exact br_t (by decide) (h _ (Or.inr ⟨fun m a => hm m (Nat.zero_le _) a, rfl⟩))
    | succ j =>
      rw [pk_m1]
      refine br_f (nI_pos (by omega)) (xm_at (f := 0) hro (by omega) (fun b1 => br_f (by decide) (h _ (Or.inl ⟨j, by omega, (hP j (by omega)).1 b1, fun m a b => hm m (by omega) b, rfl⟩))) (fun b0 => br_t rfl (nm_e (ih j (by omega) (by omega) (fun m a b => ?_)))))
      by_cases e : m = j
      · rw [e]
        exact fun z => bm_nt b0 ((hP j (by omega)).2 z)
      · exact hm m (by omega) b
theorem lq_y {P : Nat → Prop} {n ro : Nat} (hn : n ≤ 13) (hro : ro < 16) (hP : ∀ k, k ≤ n → (¬ sp ((ro * 14 + 0) * 14 + k) = 0 ↔ P k)) (post : Int32 → SY → Prop) (h : ∀ r, lq_is P n r → post r (nI C, ml, al, nI ro, sz, op, kd, lf, rg, wd, sp, re)) :
    ∀ f k, k ≤ n + 1 → k < f → (∀ m, k ≤ m → m ≤ n → ¬ P m) → wY_longest_23 post (nI C) ml al (nI ro) sz op kd lf rg wd sp re f (nI k + (-1)) := by
  intro f
  induction f with
  | zero => intro k _ h; omega
  | succ f ih =>
    intro k hk hf hm
    cases k with
    | zero => exact br_t (by decide) (h _ (Or.inr ⟨fun m a => hm m (Nat.zero_le _) a, rfl⟩))
    | succ j =>
      rw [pk_m1]
      refine br_f (nI_pos (by omega)) ?_
      rw [show nI ro * 196 + nI j = nI ((ro * 14 + 0) * 14 + j) from by
        rw [show nI ro * 196 = nI (ro * 196) from pk_mul ro 196, nI_add]
        exact congrArg nI (by omega), show (nI ((ro * 14 + 0) * 14 + j)).toNatClampNeg = (ro * 14 + 0) * 14 + j from nI_clamp (by omega)]
      refine ⟨vp_in_nI (by omega) (by omega), br_c (fun b0 => nm_e (ih j (by omega) (by omega) (fun m a b => ?_))) (fun b1 => h _ (Or.inl ⟨j, by omega, (hP j (by omega)).1 b1, fun m a b => hm m (by omega) b, rfl⟩))⟩
      by_cases e : m = j
      · rw [e]
        exact fun z => (hP j (by omega)).2 z b0
      · exact hm m (by omega) b
theorem lq_x2 {P : Nat → Prop} {n ro : Nat} (hn : n ≤ 12) (hro : ro < 16) (hP : ∀ k, k ≤ n → (bt (st (0 * 13 + k)) ro = true ↔ P k)) (post : Int32 → Prop) (h : ∀ r, lq_is P n r → post r) :
    wX_longest_15 post (nI C) fl ft fo (nI ro) fi kd lf rg ls tok st ta (n + 2) (nI n) := by
  have := lq_x (C := C) (fl := fl) (ft := ft) (fo := fo) (fi := fi) (kd := kd) (lf := lf) (rg := rg) (ls := ls) (tok := tok) (ta := ta) hn hro hP post h (n + 2) (n + 1) (by omega) (by omega) (fun m a b => absurd a (by omega))
  rw [pk_m1] at this
  exact this
theorem lq_y2 {P : Nat → Prop} {n ro : Nat} (hn : n ≤ 13) (hro : ro < 16) (hP : ∀ k, k ≤ n → (¬ sp ((ro * 14 + 0) * 14 + k) = 0 ↔ P k)) (post : Int32 → SY → Prop) (h : ∀ r, lq_is P n r → post r (nI C, ml, al, nI ro, sz, op, kd, lf, rg, wd, sp, re)) :
    wY_longest_23 post (nI C) ml al (nI ro) sz op kd lf rg wd sp re (n + 2) (nI n) := by
  have := lq_y hn hro hP post h (n + 2) (n + 1) (by omega) (by omega) (fun m a b => absurd a (by omega))
  rw [pk_m1] at this
  exact this
end
theorem i_vc_longest {k : Nat} {u : SX} {v : SY} (I : i_Rel k u v) (hk : k + 5 ≤ 2563) : wpX_longest (fun r => wpY_longest (fun r' v' => r' = r ∧ i_Rel (k + 5) u v') v) u := by
  have same := i_up I
  obtain ⟨C, M, A, K, L, R, D, op, rx, ix, ry, iy, kd, lf, rg, ls, tok, st, ta, sp, re, rfl, rfl, G, hM, hA, GD, hV, hO⟩ := I
  have hC := G.1
  unfold wpX_longest wpY_longest
  dsimp only
  by_cases ho : op = 0
  · exact br_t ho (br_t ho ⟨rfl, same⟩)
  · obtain ⟨ro, n, hro, hn, e1, e2, e3, e4, hS⟩ := hO ho
    subst e1 e2 e3 e4
    refine br_f ho ⟨n + 2, lq_x2 (P := fun k => gr_Sp C K L R (fun i c => tok i = lf c) ro 0 k) (by omega) (by omega) (fun k hk => hS ro 0 k hro (Nat.zero_le _) (by omega)) _ (fun r hr => ?_)⟩
    refine br_f ho (ye_all G (by omega) _ (fun sp re Dr hsp GR hVr => ⟨n + 2, lq_y2 (by omega) (by omega) (fun k hk => hsp ro 0 k hro (Nat.zero_le _) hk) _ (fun r' hr' => ⟨lq_u hr hr', ?_⟩)⟩))
    exact rl_mk (k + 5) G hM hA GD hV (fun _ => ⟨ro, n, hro, by omega, rfl, rfl, rfl, rfl, hS⟩)
