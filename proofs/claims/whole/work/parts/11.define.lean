/-! the constructors, define -/
theorem i_vc0 (k0 : Int32) (k1 : Int32) (k2 : Int32) : wpX_init (fun u => wpY_init (fun v => i_Rel 3 u v) k0 k1 k2) k0 k1 k2 := by
  obtain ⟨C, hC1, hC2, hX1, hY1⟩ := xi_clamp k0 (lo := 4) (hi := 16) (by omega) (by omega)
  obtain ⟨M, hM1, hM2, hX2, hY2⟩ := xi_clamp k1 (lo := 4) (hi := 12) (by omega) (by omega)
  obtain ⟨A, hA1, hA2, hX3, hY3⟩ := xi_clamp k2 (lo := 2) (hi := 8) (by omega) (by omega)
  have G : gx_ok C (fun _ => 0) (fun _ => 0) (fun _ => 0) (fun _ => 0) (fun _ => 0) (fun _ => 0) :=
    ⟨hC2, fun c _ => ⟨rfl, Nat.zero_le _, fun h => absurd (show (0 : Nat) = 3 ∨ (0 : Nat) = 4 from h) (by decide)⟩⟩
  unfold wpX_init
  refine hX1 _ (hX2 _ (hX3 _ (xc_all G _ (fun ls D GD hV => ?_))))
  unfold wpY_init
  refine hY1 _ _ _ _ _ _ _ _ _ _ _ _ _ (hY2 _ _ _ _ _ _ _ _ _ _ _ _ _ (hY3 _ _ _ _ _ _ _ _ _ _ _ _ _ ?_))
  exact rl_mk 3 G hM2 hA2 GD hV (fun h => absurd rfl h)
theorem gx_ok_upd {C : Nat} {K L R : Nat → Nat} {kd lf rg : Nat → Int32} (G : gx_ok C K L R kd lf rg) (c : Nat) {kk l0 r0 : Nat} {l r : Int32} (hk : kk ≤ 4)
    (h : (kk = 3 ∨ kk = 4) → l = nI l0 ∧ r = nI r0 ∧ l0 < C ∧ r0 < C) :
    gx_ok C (fun i => if i = c then kk else K i) (fun i => if i = c then l0 else L i) (fun i => if i = c then r0 else R i) (upd kd c (nI kk)) (upd lf c l) (upd rg c r) := by
  refine ⟨G.1, fun i hi => ?_⟩
  dsimp only
  by_cases e : i = c
  · rw [e, pk_us, pk_us, pk_us, if_pos rfl, if_pos rfl, if_pos rfl]
    exact ⟨rfl, hk, h⟩
  · rw [pk_un e, pk_un e, pk_un e, if_neg e, if_neg e, if_neg e]
    exact G.2 i hi
section
variable {C : Nat} {K L R : Nat → Nat} {fl ft fo fr fi ml al ro sz op : Int32} {kd lf rg ls tok st ta wd sp re : Nat → Int32}
theorem xd_51 {c : Nat} {x2 x3 x4 x6 z0 l r : Int32} (hc : c < C) (G : gx_ok C K L R (upd kd c x2) (upd lf c l) (upd rg c r))
    (hl : z0 = 0 → l = 0) (hl' : ¬ z0 = 0 → l = x3) (hr : x6 = 0 → r = 0) (hr' : ¬ x6 = 0 → r = x4) (post : Int32 → SX → Prop)
    (hp : ∀ ls D, fx_Good C 16777216 (of_L K L R) D → gx_V C ls D → post 0 (nI C, fl, ft, fo, fr, fi, upd kd c x2, upd lf c l, upd rg c r, ls, tok, st, ta)) :
    wX_define_51 post (nI c) x2 x3 x4 x6 z0 (nI C) fl ft fo fr fi kd lf rg ls tok st ta := by
  have hC := G.1
  have hi : vp_in (nI c) 16 := vp_in_nI (by omega) (by omega)
  have cc : (nI c).toNatClampNeg = c := nI_clamp (by omega)
  have h92 : ∀ z, z = r → wX_define_92 post z (nI c) (nI C) fl ft fo fr fi (upd kd c x2) (upd lf c l) rg ls tok st ta := by
    intro z ez
    unfold wX_define_92
    rw [cc, ez]
    exact ⟨hi, nm_e (xc_all G _ (fun ls D GD hV => hp ls D GD hV))⟩
  have h75 : ∀ z, z = l → wX_define_75 post (nI c) x4 x6 z (nI c) (nI C) fl ft fo fr fi (upd kd c x2) lf rg ls tok st ta := by
    intro z ez
    unfold wX_define_75
    rw [cc, ez]
    exact ⟨hi, nm_e (br_c (fun w => h92 0 (hr w).symm) (fun w => h92 x4 (hr' w).symm))⟩
  unfold wX_define_51
  rw [cc]
  exact ⟨hi, nm_e (br_c (fun w => h75 0 (hl w).symm) (fun w => h75 x3 (hl' w).symm))⟩
theorem yd_103 {c : Nat} {x2 x3 x4 x5 l r : Int32} (hC : C ≤ 16) (hc : c < C) (hl : x5 = 0 → ¬ x2 = 2 → l = 0) (hl2 : x5 = 0 → x2 = 2 → l = x3) (hl' : ¬ x5 = 0 → l = x3) (hr : x5 = 0 → r = 0) (hr' : ¬ x5 = 0 → r = x4)
    (post : Int32 → SY → Prop) (hp : post 0 (nI C, ml, al, ro, sz, op, upd kd c x2, upd lf c l, upd rg c r, wd, sp, re)) :
    wY_define_103 post (nI c) x2 x3 x4 x5 (nI C) ml al ro sz op kd lf rg wd sp re := by
  have hi : vp_in (nI c) 16 := vp_in_nI (by omega) (by omega)
  have cc : (nI c).toNatClampNeg = c := nI_clamp (by omega)
  have h130 : ∀ z, z = l → wY_define_130 post (nI c) x4 x5 z (nI c) (nI C) ml al ro sz op (upd kd c x2) lf rg wd sp re := by
    intro z ez
    unfold wY_define_130
    rw [cc, ez]
    refine ⟨hi, nm_e (br_c (fun w => ⟨hi, nm_r ?_ hp⟩) (fun w => ⟨hi, nm_r ?_ hp⟩))⟩
    · rw [hr w]
    · rw [hr' w]
  unfold wY_define_103
  rw [cc]
  refine ⟨hi, nm_e (br_c (fun w => br_c (fun y => ?_) (fun y => h130 0 (hl w y).symm)) (fun w => ?_))⟩
  · unfold wY_define_125
    exact h130 x3 (hl2 w y).symm
  · unfold wY_define_125
    exact h130 x3 (hl' w).symm
/-- faultOf of the component: what it answers -/
theorem xf_plain {x2 x3 x4 : Int32} {post : Int32 → Prop} (h3 : ¬ x2 = 3) (h4 : ¬ x2 = 4) (h : post 0) : wX_faultOf_49 post x2 x3 x4 (nI C) fl ft fo fr fi kd lf rg ls tok st ta := by
  unfold wX_faultOf_49
  refine br_f h3 (br_f h4 ?_)
  unfold wX_faultOf_64
  refine br_t rfl ?_
  unfold wX_faultOf_82
  exact br_t rfl h
theorem xf_pair {x2 x3 x4 : Int32} {post : Int32 → Prop} (h34 : x2 = 3 ∨ x2 = 4) (h : wX_faultOf_64 post x3 x4 1 (nI C) fl ft fo fr fi kd lf rg ls tok st ta) : wX_faultOf_49 post x2 x3 x4 (nI C) fl ft fo fr fi kd lf rg ls tok st ta := by
  unfold wX_faultOf_49
  rcases h34 with e | e
  · exact br_t e h
  · exact br_f (by rw [e]; decide) (br_t e h)
theorem xf_p6 {x2 x3 x4 : Int32} {post : Int32 → Prop} (h34 : x2 = 3 ∨ x2 = 4) (hb : x3 < 0 ∨ nI C ≤ x3) (h : post (-6)) : wX_faultOf_49 post x2 x3 x4 (nI C) fl ft fo fr fi kd lf rg ls tok st ta := by
  refine xf_pair h34 ?_
  unfold wX_faultOf_64
  exact br_f (by decide) (xq_no hb (br_t rfl h))
theorem xf_p7 {x2 x4 : Int32} {l : Nat} {post : Int32 → Prop} (hC : C ≤ 16) (h34 : x2 = 3 ∨ x2 = 4) (hl : l < C) (hb : x4 < 0 ∨ nI C ≤ x4) (h : post (-7)) : wX_faultOf_49 post x2 (nI l) x4 (nI C) fl ft fo fr fi kd lf rg ls tok st ta := by
  refine xf_pair h34 ?_
  unfold wX_faultOf_64
  refine br_f (by decide) (xq_yes hC hl (br_f (by decide) ?_))
  unfold wX_faultOf_82
  exact br_f (by decide) (xq_no hb (br_t rfl h))
theorem xf_p0 {x2 : Int32} {l r : Nat} {post : Int32 → Prop} (hC : C ≤ 16) (h34 : x2 = 3 ∨ x2 = 4) (hl : l < C) (hr : r < C) (h : post 0) : wX_faultOf_49 post x2 (nI l) (nI r) (nI C) fl ft fo fr fi kd lf rg ls tok st ta := by
  refine xf_pair h34 ?_
  unfold wX_faultOf_64
  refine br_f (by decide) (xq_yes hC hl (br_f (by decide) ?_))
  unfold wX_faultOf_82
  exact br_f (by decide) (xq_yes hC hr (br_f (by decide) h))
theorem yf_plain {x1 x2 x3 x4 : Int32} {post : Int32 → SY → Prop} (h3 : ¬ x2 = 3) (h4 : ¬ x2 = 4) (h : wY_define_103 post x1 x2 x3 x4 0 (nI C) ml al ro sz op kd lf rg wd sp re) : wY_define_53 post x1 x2 x3 x4 (nI C) ml al ro sz op kd lf rg wd sp re := by
  unfold wY_define_53
  refine br_f h3 (br_f h4 ?_)
  unfold wY_define_68
  refine br_t rfl ?_
  unfold wY_define_86
  exact br_t rfl h
theorem yf_pair {x1 x2 x3 x4 : Int32} {post : Int32 → SY → Prop} (h34 : x2 = 3 ∨ x2 = 4) (h : wY_define_68 post x1 x2 x3 x4 1 (nI C) ml al ro sz op kd lf rg wd sp re) : wY_define_53 post x1 x2 x3 x4 (nI C) ml al ro sz op kd lf rg wd sp re := by
  unfold wY_define_53
  rcases h34 with e | e
  · exact br_t e h
  · exact br_f (by rw [e]; decide) (br_t e h)
theorem yf_p6 {x1 x2 x3 x4 : Int32} {post : Int32 → SY → Prop} (h34 : x2 = 3 ∨ x2 = 4) (hb : x3 < 0 ∨ nI C ≤ x3) (h : post (-6) (nI C, ml, al, ro, sz, op, kd, lf, rg, wd, sp, re)) : wY_define_53 post x1 x2 x3 x4 (nI C) ml al ro sz op kd lf rg wd sp re := by
  refine yf_pair h34 ?_
  unfold wY_define_68
  exact br_f (by decide) (yq_no hb (br_f (by decide) h))
theorem yf_p7 {x1 x2 x4 : Int32} {l : Nat} {post : Int32 → SY → Prop} (hC : C ≤ 16) (h34 : x2 = 3 ∨ x2 = 4) (hl : l < C) (hb : x4 < 0 ∨ nI C ≤ x4) (h : post (-7) (nI C, ml, al, ro, sz, op, kd, lf, rg, wd, sp, re)) : wY_define_53 post x1 x2 (nI l) x4 (nI C) ml al ro sz op kd lf rg wd sp re := by
  refine yf_pair h34 ?_
  unfold wY_define_68
  refine br_f (by decide) (yq_yes hC hl (br_t rfl ?_))
  unfold wY_define_86
  exact br_f (by decide) (yq_no hb (br_f (by decide) h))
theorem yf_p0 {x1 x2 : Int32} {l r : Nat} {post : Int32 → SY → Prop} (hC : C ≤ 16) (h34 : x2 = 3 ∨ x2 = 4) (hl : l < C) (hr : r < C) (h : wY_define_103 post x1 x2 (nI l) (nI r) 1 (nI C) ml al ro sz op kd lf rg wd sp re) : wY_define_53 post x1 x2 (nI l) (nI r) (nI C) ml al ro sz op kd lf rg wd sp re := by
  refine yf_pair h34 ?_
  unfold wY_define_68
  refine br_f (by decide) (yq_yes hC hl (br_t rfl ?_))
  unfold wY_define_86
  exact br_f (by decide) (yq_yes hC hr (br_t rfl h))
theorem xd_34a {x1 x2 x3 x4 : Int32} {post : Int32 → SX → Prop} (h : ¬ x2 = 2) (hp : wX_define_51 post x1 x2 x3 x4 0 0 (nI C) fl ft fo fr fi kd lf rg ls tok st ta) : wX_define_34 post x1 x2 x3 x4 0 (nI C) fl ft fo fr fi kd lf rg ls tok st ta := by
  unfold wX_define_34
  exact br_t rfl (br_f h hp)
theorem xd_34b {x1 x2 x3 x4 : Int32} {post : Int32 → SX → Prop} (h : x2 = 2) (hp : wX_define_51 post x1 x2 x3 x4 0 1 (nI C) fl ft fo fr fi kd lf rg ls tok st ta) : wX_define_34 post x1 x2 x3 x4 0 (nI C) fl ft fo fr fi kd lf rg ls tok st ta := by
  unfold wX_define_34
  exact br_t rfl (br_t h hp)
theorem xd_29 {x1 x2 x3 x4 : Int32} {post : Int32 → SX → Prop} (hp : wX_define_51 post x1 x2 x3 x4 1 1 (nI C) fl ft fo fr fi kd lf rg ls tok st ta) : wX_define_29 post x1 x2 x3 x4 (nI C) fl ft fo fr fi kd lf rg ls tok st ta := by
  unfold wX_define_29 wX_define_34
  exact br_f (by decide) hp
end
theorem i_vc_define {k : Nat} {u : SX} {v : SY} (I : i_Rel k u v) (hk : k + 5 ≤ 2563) (v1 : Int32) (v2 : Int32) (v3 : Int32) (v4 : Int32) : wpX_define (fun r u' => wpY_define (fun r' v' => r' = r ∧ i_Rel (k + 5) u' v') v v1 v2 v3 v4) u v1 v2 v3 v4 := by
  have I0 := I
  obtain ⟨C, M, A, K, L, R, D, op, rx, ix, ry, iy, kd, lf, rg, ls, tok, st, ta, sp, re, rfl, rfl, G, hM, hA, GD, hV, hO⟩ := I
  have hC := G.1
  have same := i_up I0
  unfold wpX_define
  dsimp only
  unfold wpX_faultOf wpY_define
  dsimp only
  by_cases ho : op = 0
  · refine br_t ho ?_
    rcases pk_ix2 v1 (n := C) (by omega) with h1 | ⟨c, hc, rfl⟩
    · exact xq_no h1 (br_t rfl (br_f (by decide) (br_t ho (yq_no h1 (br_f (by decide) ⟨rfl, same⟩)))))
    · refine xq_yes hC hc (br_f (by decide) ?_)
      by_cases h2 : v2 < 0
      · exact br_t h2 (br_f (by decide) (br_t ho (yq_yes hC hc (br_t rfl (br_t h2 ⟨rfl, same⟩)))))
      · refine br_f h2 ?_
        by_cases h3 : v2 ≤ 4
        · refine br_t h3 ?_
          obtain ⟨kk, hkk, rfl⟩ := nI_of2 (n := 4) (by decide) h2 h3
          have n01 : ¬ (1 : Int32) = 0 := by decide
          rcases gx_K4 hkk with rfl | rfl | rfl | rfl | rfl
          · refine br_f (by decide) (xf_plain (by decide) (by decide) (br_t rfl (br_f (by decide) (br_f (by decide) (xd_34a (by decide) (xd_51 hc (gx_ok_upd G c (kk := 0) (l0 := 0) (r0 := 0) (l := 0) (r := 0) (by omega) (fun h => absurd h (by decide))) (fun _ => rfl) (fun h => absurd rfl h) (fun _ => rfl) (fun h => absurd rfl h) _ (fun ls D GD hV => ?_)))))))
            exact br_t ho (yq_yes hC hc (br_t rfl (br_f h2 (br_t h3 (br_f (by decide) (yf_plain (by decide) (by decide) (yd_103 hC hc (l := 0) (r := 0) (fun _ _ => rfl) (fun _ h => absurd h (by decide)) (fun h => absurd rfl h) (fun _ => rfl) (fun h => absurd rfl h) _ ⟨rfl, rl_mk (k + 5) (gx_ok_upd G c (kk := 0) (l0 := 0) (r0 := 0) (l := 0) (r := 0) (by omega) (fun h => absurd h (by decide))) hM hA GD hV (fun h => absurd ho h)⟩)))))))
          · refine br_f (by decide) (xf_plain (by decide) (by decide) (br_t rfl (br_f (by decide) (br_f (by decide) (xd_34a (by decide) (xd_51 hc (gx_ok_upd G c (kk := 1) (l0 := 0) (r0 := 0) (l := 0) (r := 0) (by omega) (fun h => absurd h (by decide))) (fun _ => rfl) (fun h => absurd rfl h) (fun _ => rfl) (fun h => absurd rfl h) _ (fun ls D GD hV => ?_)))))))
            exact br_t ho (yq_yes hC hc (br_t rfl (br_f h2 (br_t h3 (br_f (by decide) (yf_plain (by decide) (by decide) (yd_103 hC hc (l := 0) (r := 0) (fun _ _ => rfl) (fun _ h => absurd h (by decide)) (fun h => absurd rfl h) (fun _ => rfl) (fun h => absurd rfl h) _ ⟨rfl, rl_mk (k + 5) (gx_ok_upd G c (kk := 1) (l0 := 0) (r0 := 0) (l := 0) (r := 0) (by omega) (fun h => absurd h (by decide))) hM hA GD hV (fun h => absurd ho h)⟩)))))))
          · refine br_t (by decide) ?_
            rcases pk_ix2 v3 (n := A) (by omega) with h5 | ⟨l, hl, rfl⟩
            · refine xk_no h5 (br_t rfl (br_f (by decide) (br_t ho (yq_yes hC hc (br_t rfl (br_f h2 (br_t h3 (br_t (by decide) (br_c (fun _ => ⟨rfl, same⟩) (fun z => br_f (Int32.not_lt.mpr (h5.resolve_left z)) ⟨rfl, same⟩))))))))))
            · refine xk_yes hA hl (br_f (by decide) (xf_plain (by decide) (by decide) (br_t rfl (br_f (by decide) (br_f (by decide) (xd_34b (by decide) (xd_51 hc (gx_ok_upd G c (kk := 2) (l0 := 0) (r0 := 0) (l := nI l) (r := 0) (by omega) (fun h => absurd h (by decide))) (fun h => absurd h n01) (fun _ => rfl) (fun _ => rfl) (fun h => absurd rfl h) _ (fun ls D GD hV => ?_))))))))
              exact br_t ho (yq_yes hC hc (br_t rfl (br_f h2 (br_t h3 (br_t (by decide) (br_f (nI_pos (by omega)) (br_t (nI_lt hl (by omega)) (yf_plain (by decide) (by decide) (yd_103 hC hc (l := nI l) (r := 0) (fun _ h => absurd (by decide) h) (fun _ _ => rfl) (fun h => absurd rfl h) (fun _ => rfl) (fun h => absurd rfl h) _ ⟨rfl, rl_mk (k + 5) (gx_ok_upd G c (kk := 2) (l0 := 0) (r0 := 0) (l := nI l) (r := 0) (by omega) (fun h => absurd h (by decide))) hM hA GD hV (fun h => absurd ho h)⟩)))))))))
          · refine br_f (by decide) ?_
            rcases pk_ix2 v3 (n := C) (by omega) with h5 | ⟨l, hl, rfl⟩
            · exact xf_p6 (Or.inl rfl) h5 (br_f (by decide) (br_t ho (yq_yes hC hc (br_t rfl (br_f h2 (br_t h3 (br_f (by decide) (yf_p6 (Or.inl rfl) h5 ⟨rfl, same⟩))))))))
            · rcases pk_ix2 v4 (n := C) (by omega) with h6 | ⟨r, hr, rfl⟩
              · exact xf_p7 hC (Or.inl rfl) hl h6 (br_f (by decide) (br_t ho (yq_yes hC hc (br_t rfl (br_f h2 (br_t h3 (br_f (by decide) (yf_p7 hC (Or.inl rfl) hl h6 ⟨rfl, same⟩))))))))
              · refine xf_p0 hC (Or.inl rfl) hl hr (br_t rfl (br_t rfl (xd_29 (xd_51 hc (gx_ok_upd G c (kk := 3) (l0 := l) (r0 := r) (l := nI l) (r := nI r) (by omega) (fun _ => ⟨rfl, rfl, hl, hr⟩)) (fun h => absurd h n01) (fun _ => rfl) (fun h => absurd h n01) (fun _ => rfl) _ (fun ls D GD hV => ?_)))))
                exact br_t ho (yq_yes hC hc (br_t rfl (br_f h2 (br_t h3 (br_f (by decide) (yf_p0 hC (Or.inl rfl) hl hr (yd_103 hC hc (l := nI l) (r := nI r) (fun h => absurd h n01) (fun _ _ => rfl) (fun _ => rfl) (fun h => absurd h n01) (fun _ => rfl) _ ⟨rfl, rl_mk (k + 5) (gx_ok_upd G c (kk := 3) (l0 := l) (r0 := r) (l := nI l) (r := nI r) (by omega) (fun _ => ⟨rfl, rfl, hl, hr⟩)) hM hA GD hV (fun h => absurd ho h)⟩)))))))
          · refine br_f (by decide) ?_
            rcases pk_ix2 v3 (n := C) (by omega) with h5 | ⟨l, hl, rfl⟩
            · exact xf_p6 (Or.inr rfl) h5 (br_f (by decide) (br_t ho (yq_yes hC hc (br_t rfl (br_f h2 (br_t h3 (br_f (by decide) (yf_p6 (Or.inr rfl) h5 ⟨rfl, same⟩))))))))
            · rcases pk_ix2 v4 (n := C) (by omega) with h6 | ⟨r, hr, rfl⟩
              · exact xf_p7 hC (Or.inr rfl) hl h6 (br_f (by decide) (br_t ho (yq_yes hC hc (br_t rfl (br_f h2 (br_t h3 (br_f (by decide) (yf_p7 hC (Or.inr rfl) hl h6 ⟨rfl, same⟩))))))))
              · refine xf_p0 hC (Or.inr rfl) hl hr (br_t rfl (br_f (by decide) (br_t rfl (xd_29 (xd_51 hc (gx_ok_upd G c (kk := 4) (l0 := l) (r0 := r) (l := nI l) (r := nI r) (by omega) (fun _ => ⟨rfl, rfl, hl, hr⟩)) (fun h => absurd h n01) (fun _ => rfl) (fun h => absurd h n01) (fun _ => rfl) _ (fun ls D GD hV => ?_))))))
                exact br_t ho (yq_yes hC hc (br_t rfl (br_f h2 (br_t h3 (br_f (by decide) (yf_p0 hC (Or.inr rfl) hl hr (yd_103 hC hc (l := nI l) (r := nI r) (fun h => absurd h n01) (fun _ _ => rfl) (fun _ => rfl) (fun h => absurd h n01) (fun _ => rfl) _ ⟨rfl, rl_mk (k + 5) (gx_ok_upd G c (kk := 4) (l0 := l) (r0 := r) (l := nI l) (r := nI r) (by omega) (fun _ => ⟨rfl, rfl, hl, hr⟩)) hM hA GD hV (fun h => absurd ho h)⟩)))))))
        · exact br_f h3 (br_f (by decide) (br_t ho (yq_yes hC hc (br_t rfl (br_f h2 (br_f h3 ⟨rfl, same⟩))))))
  · exact br_f ho (br_f (by decide) (br_f ho ⟨rfl, same⟩))
