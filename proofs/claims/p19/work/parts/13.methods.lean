/-! the class's methods, as the law calls them -/
section
variable {C M A : Nat} {K L R D : Nat → Nat} {op rx ix ry iy : Int32} {kd lf rg ls tok st ta sp re : Nat → Int32}
theorem gx_S_le {tk : Nat → Nat → Prop} {m n : Nat} (h : gx_S C K L R tk st n) (hm : m ≤ n) : gx_S C K L R tk st m := fun c i j hc hij hj => h c i j hc hij (by omega)
theorem gx_S_tok {n : Nat} {x : Int32} (h : gx_S C K L R (fun i c => tok i = lf c) st (n + 1)) : gx_S C K L R (fun i c => upd tok n x i = lf c) st (n + 1) := by
  intro c i j hc hij hj
  rw [h c i j hc hij hj]
  refine gr_sp_iff (fun t a b c => ?_)
  rw [pk_un (by omega)]
def rl_v (x : Nat) : Int32 := if x = 0 then 3 else if x < 16777216 then 2 else 1
def rl_a (x : Nat) : Int32 := if x < 16777216 then nI x else -1
theorem xv_for {x : Nat} (hx : x ≤ 16777216) {post : Int32 → Prop} (h : post (rl_v x)) : wpX_verdictFor post () (nI x) := by
  refine pk_eq x 0 (fun e => ?_) (fun e => pk_le 16777216 x (fun z => ?_) (fun z => ?_))
  · rw [rl_v, if_pos e] at h; exact h
  · rw [rl_v, if_neg e, if_neg (by omega)] at h; exact h
  · rw [rl_v, if_neg e, if_pos z] at h; exact h
theorem xv_len {x : Nat} (hx : x ≤ 16777216) {post : Int32 → Prop} (h : post (rl_a x)) : wpX_lengthOrNone post () (nI x) := by
  refine pk_le 16777216 x (fun z => ?_) (fun z => ?_)
  · rw [rl_a, if_neg (by omega)] at h; exact h
  · rw [rl_a, if_pos z] at h; exact h
end
section
variable {C : Nat} {fl ft fo fr fi ml al ro sz op : Int32} {kd lf rg ls tok st ta wd sp re : Nat → Int32}
theorem xq_yes (hC : C ≤ 16) {c : Nat} (hc : c < C) {post : Int32 → Prop} (h : post 1) : wpX_isCell post (nI C, fl, ft, fo, fr, fi, kd, lf, rg, ls, tok, st, ta) (nI c) :=
  br_f (nI_pos (by omega)) (br_f (nI_ge hc (by omega)) h)
theorem xk_yes {A : Nat} (hA : A ≤ 8) {c : Nat} (hc : c < A) {post : Int32 → Prop} (h : post 1) : wpX_isToken post (nI C, fl, nI A, fo, fr, fi, kd, lf, rg, ls, tok, st, ta) (nI c) :=
  br_f (nI_pos (by omega)) (br_f (nI_ge hc (by omega)) h)
theorem gx_ok_upd {C : Nat} {K L R : Nat → Nat} {kd lf rg : Nat → Int32} (G : gx_ok C K L R kd lf rg) (c : Nat) {kk l0 r0 : Nat} {l r : Int32} (hk : kk ≤ 4)
    (h : (kk = 3 ∨ kk = 4) → l = nI l0 ∧ r = nI r0 ∧ l0 < C ∧ r0 < C) :
    gx_ok C (fun i => if i = c then kk else K i) (fun i => if i = c then l0 else L i) (fun i => if i = c then r0 else R i) (upd kd c (nI kk)) (upd lf c l) (upd rg c r) := by
  refine ⟨G.1, fun i hi => ?_⟩
  dsimp only
  by_cases e : i = c
  · rw [e, pk_us, pk_us, pk_us, if_pos rfl, if_pos rfl, if_pos rfl]
    exact ⟨rfl, hk, h⟩
  · rw [pk_un e, pk_un e, pk_un e, if_neg e, if_neg e, if_neg e]
    exact G.2 i hi
end
section
variable {C : Nat} {K L R : Nat → Nat} {fl ft fo fr fi : Int32} {kd lf rg ls tok st ta : Nat → Int32}
theorem xd_51 {c : Nat} {x2 x3 x4 x6 z0 l r : Int32} (hc : c < C) (G : gx_ok C K L R (upd kd c x2) (upd lf c l) (upd rg c r))
    (hl : z0 = 0 → l = 0) (hl' : ¬ z0 = 0 → l = x3) (hr : x6 = 0 → r = 0) (hr' : ¬ x6 = 0 → r = x4) (post : Int32 → St2 → Prop)
    (hp : ∀ ls D, fx_Good C 16777216 (of_L K L R) D → gx_V C ls D → post 0 (nI C, fl, ft, fo, fr, fi, upd kd c x2, upd lf c l, upd rg c r, ls, tok, st, ta)) :
    wX_define_51 post (nI c) x2 x3 x4 x6 z0 (nI C) fl ft fo fr fi kd lf rg ls tok st ta := by
  have hC := G.1
  have hi : vp_in (nI c) 16 := vp_in_nI (by omega) (by omega)
  have cc : (nI c).toNatClampNeg = c := nI_clamp (by omega)
  have h92 : ∀ z, z = r → wX_define_92 post z (nI c) (nI C) fl ft fo fr fi (upd kd c x2) (upd lf c l) rg ls tok st ta := by
    intro z ez
    unfold wX_define_92
    rw [cc, ez]
    exact ⟨hi, nm_e (xc_all G _ (fun ls D GD hV => hp ls D GD hV))⟩
  have h75 : ∀ z, z = l → wX_define_75 post (nI c) x4 x6 z (nI c) (nI C) fl ft fo fr fi (upd kd c x2) lf rg ls tok st ta := by
    intro z ez
    unfold wX_define_75
    rw [cc, ez]
    exact ⟨hi, nm_e (br_c (fun w => h92 0 (hr w).symm) (fun w => h92 x4 (hr' w).symm))⟩
  unfold wX_define_51
  rw [cc]
  exact ⟨hi, nm_e (br_c (fun w => h75 0 (hl w).symm) (fun w => h75 x3 (hl' w).symm))⟩
theorem xf_plain {x2 x3 x4 : Int32} {post : Int32 → Prop} (h3 : ¬ x2 = 3) (h4 : ¬ x2 = 4) (h : post 0) : wX_faultOf_49 post x2 x3 x4 (nI C) fl ft fo fr fi kd lf rg ls tok st ta := by
  unfold wX_faultOf_49
  refine br_f h3 (br_f h4 ?_)
  unfold wX_faultOf_64
  refine br_t rfl ?_
  unfold wX_faultOf_82
  exact br_t rfl h
theorem xf_pair {x2 x3 x4 : Int32} {post : Int32 → Prop} (h34 : x2 = 3 ∨ x2 = 4) (h : wX_faultOf_64 post x3 x4 1 (nI C) fl ft fo fr fi kd lf rg ls tok st ta) : wX_faultOf_49 post x2 x3 x4 (nI C) fl ft fo fr fi kd lf rg ls tok st ta := by
  unfold wX_faultOf_49
  rcases h34 with e | e
  · exact br_t e h
  · exact br_f (by rw [e]; decide) (br_t e h)
theorem xf_p0 {x2 : Int32} {l r : Nat} {post : Int32 → Prop} (hC : C ≤ 16) (h34 : x2 = 3 ∨ x2 = 4) (hl : l < C) (hr : r < C) (h : post 0) : wX_faultOf_49 post x2 (nI l) (nI r) (nI C) fl ft fo fr fi kd lf rg ls tok st ta := by
  refine xf_pair h34 ?_
  unfold wX_faultOf_64
  refine br_f (by decide) (xq_yes hC hl (br_f (by decide) ?_))
  unfold wX_faultOf_82
  exact br_f (by decide) (xq_yes hC hr (br_f (by decide) h))
theorem xd_34a {x1 x2 x3 x4 : Int32} {post : Int32 → St2 → Prop} (h : ¬ x2 = 2) (hp : wX_define_51 post x1 x2 x3 x4 0 0 (nI C) fl ft fo fr fi kd lf rg ls tok st ta) : wX_define_34 post x1 x2 x3 x4 0 (nI C) fl ft fo fr fi kd lf rg ls tok st ta := by
  unfold wX_define_34
  exact br_t rfl (br_f h hp)
theorem xd_34b {x1 x2 x3 x4 : Int32} {post : Int32 → St2 → Prop} (h : x2 = 2) (hp : wX_define_51 post x1 x2 x3 x4 0 1 (nI C) fl ft fo fr fi kd lf rg ls tok st ta) : wX_define_34 post x1 x2 x3 x4 0 (nI C) fl ft fo fr fi kd lf rg ls tok st ta := by
  unfold wX_define_34
  exact br_t rfl (br_t h hp)
theorem xd_29 {x1 x2 x3 x4 : Int32} {post : Int32 → St2 → Prop} (hp : wX_define_51 post x1 x2 x3 x4 1 1 (nI C) fl ft fo fr fi kd lf rg ls tok st ta) : wX_define_29 post x1 x2 x3 x4 (nI C) fl ft fo fr fi kd lf rg ls tok st ta := by
  unfold wX_define_29 wX_define_34
  exact br_f (by decide) hp
end
section
variable {M A n ro : Nat} {K L R D : Nat → Nat} {kd lf rg ls tok st ta : Nat → Int32}
theorem pm_miss (G : gx_ok 8 K L R kd lf rg) (GD : fx_Good 8 16777216 (of_L K L R) D) (hV : gx_V 8 ls D) (hro : ro < 8) {e : Nat} (he : e ≤ 13) (hS : gx_S 8 K L R (fun i c => tok i = lf c) st e) {fl ft fo fi : Int32} (post : Int32 → St2 → Prop)
    (hp : ∀ ta x, la_V 8 K L R lf tok e ro x → post (nI x) (nI 8, fl, ft, fo, nI ro, fi, kd, lf, rg, ls, tok, st, ta)) :
    wpX_tokensMissing post (nI 8, fl, ft, fo, nI ro, fi, kd, lf, rg, ls, tok, st, ta) (nI e) :=
  xt_missing G he hro hS hV post (fun ta T h0 hT _ => hp ta _ (la_val rfl he (gx_wf G) GD h0 hT hro))
theorem pm_shortest (G : gx_ok 8 K L R kd lf rg) (GD : fx_Good 8 16777216 (of_L K L R) D) (hV : gx_V 8 ls D) (hro : ro < 8) (hn : n ≤ 12) (hS : gx_S 8 K L R (fun i c => tok i = lf c) st (n + 1)) (post : Int32 → St2 → Prop)
    (hp : ∀ ta x, la_V 8 K L R lf tok n ro x → post (rl_a x) (nI 8, nI M, nI A, 1, nI ro, nI n, kd, lf, rg, ls, tok, st, ta)) :
    wpX_shortest post (nI 8, nI M, nI A, 1, nI ro, nI n, kd, lf, rg, ls, tok, st, ta) := by
  unfold wpX_shortest
  dsimp only
  exact br_f (by decide) (pm_miss G GD hV hro (by omega) (gx_S_le hS (by omega)) _ (fun ta x hx => xv_len hx.1 (hp ta x hx)))
theorem pm_verdict (G : gx_ok 8 K L R kd lf rg) (GD : fx_Good 8 16777216 (of_L K L R) D) (hV : gx_V 8 ls D) (hro : ro < 8) (hn : n ≤ 12) (hS : gx_S 8 K L R (fun i c => tok i = lf c) st (n + 1)) (post : Int32 → St2 → Prop)
    (hp : ∀ ta x, la_V 8 K L R lf tok n ro x → post (rl_v x) (nI 8, nI M, nI A, 1, nI ro, nI n, kd, lf, rg, ls, tok, st, ta)) :
    wpX_verdict post (nI 8, nI M, nI A, 1, nI ro, nI n, kd, lf, rg, ls, tok, st, ta) := by
  unfold wpX_verdict
  dsimp only
  exact br_f (by decide) (pm_miss G GD hV hro (by omega) (gx_S_le hS (by omega)) _ (fun ta x hx => xv_for hx.1 (hp ta x hx)))
theorem pm_keep (G : gx_ok 8 K L R kd lf rg) (GD : fx_Good 8 16777216 (of_L K L R) D) (hV : gx_V 8 ls D) (hro : ro < 8) (hn : n ≤ 12) (hS : gx_S 8 K L R (fun i c => tok i = lf c) st (n + 1)) {m : Nat} (hm : m ≤ n) (post : Int32 → St2 → Prop)
    (hp : ∀ ta x, la_V 8 K L R lf tok m ro x → post (rl_v x) (nI 8, nI M, nI A, 1, nI ro, nI m, kd, lf, rg, ls, tok, st, ta)) :
    wpX_keep post (nI 8, nI M, nI A, 1, nI ro, nI n, kd, lf, rg, ls, tok, st, ta) (nI m) := by
  unfold wpX_keep
  dsimp only
  exact br_f (by decide) (br_f (nI_pos (by omega)) (br_t (nI_le hm (by omega)) (pm_miss G GD hV hro (by omega) (gx_S_le hS (by omega)) _ (fun ta x hx => xv_for hx.1 (hp ta x hx)))))
theorem pm_ahead (G : gx_ok 8 K L R kd lf rg) (GD : fx_Good 8 16777216 (of_L K L R) D) (hV : gx_V 8 ls D) (hro : ro < 8) (hn : n ≤ 12) (hA8 : A ≤ 8) (hS : gx_S 8 K L R (fun i c => tok i = lf c) st (n + 1)) {a : Nat} (ha : a < A) (post : Int32 → St2 → Prop)
    (hp : ∀ ta x, la_V 8 K L R lf (upd tok n (nI a)) (n + 1) ro x → post (rl_a x) (nI 8, nI M, nI A, 1, nI ro, nI n, kd, lf, rg, ls, upd tok n (nI a), st, ta)) :
    wpX_ahead post (nI 8, nI M, nI A, 1, nI ro, nI n, kd, lf, rg, ls, tok, st, ta) (nI a) := by
  unfold wpX_ahead
  dsimp only
  rw [show (nI n).toNatClampNeg = n from nI_clamp (by omega), nI_1 n]
  exact br_f (by decide) (xk_yes hA8 ha (br_f (by decide) ⟨vp_in_nI (by omega) (by omega), nm_e (pm_miss G GD hV hro (by omega) (gx_S_tok hS) _ (fun ta x hx => xv_len hx.1 (hp ta x hx)))⟩))
theorem pm_feed (G : gx_ok 8 K L R kd lf rg) (GD : fx_Good 8 16777216 (of_L K L R) D) (hV : gx_V 8 ls D) (hro : ro < 8) (hnM : n < M) (hM : M ≤ 12) (hA8 : A ≤ 8) (hS : gx_S 8 K L R (fun i c => tok i = lf c) st (n + 1)) {a : Nat} (ha : a < A) (post : Int32 → St2 → Prop)
    (hp : ∀ st ta x, gx_S 8 K L R (fun i c => upd tok n (nI a) i = lf c) st (n + 2) → la_V 8 K L R lf (upd tok n (nI a)) (n + 1) ro x → post (rl_v x) (nI 8, nI M, nI A, 1, nI ro, nI (n + 1), kd, lf, rg, ls, upd tok n (nI a), st, ta)) :
    wpX_feed post (nI 8, nI M, nI A, 1, nI ro, nI n, kd, lf, rg, ls, tok, st, ta) (nI a) := by
  unfold wpX_feed
  dsimp only
  rw [show (nI n).toNatClampNeg = n from nI_clamp (by omega)]
  refine br_f (by decide) (xk_yes hA8 ha (br_f (by decide) (br_t (nI_lt hnM (by omega)) ⟨vp_in_nI (by omega) (by omega), nm_e (nm_r (nI_1 n) ?_)⟩)))
  refine xm_upto G GD hV (by omega) (gx_S_tok hS) _ (fun st' hS' => ?_)
  exact pm_miss G GD hV hro (by omega) (gx_S_le hS' (by omega)) _ (fun ta x hx => xv_for hx.1 (hp st' ta x hS' hx))
theorem pm_open (G : gx_ok 8 K L R kd lf rg) (GD : fx_Good 8 16777216 (of_L K L R) D) (hV : gx_V 8 ls D) (hro : ro < 8) {fr fi : Int32} (post : Int32 → St2 → Prop)
    (hp : ∀ st x, gx_S 8 K L R (fun i c => tok i = lf c) st (0 + 1) → la_V 8 K L R lf tok 0 ro x → post (rl_v x) (nI 8, nI M, nI A, 1, nI ro, nI 0, kd, lf, rg, ls, tok, st, ta)) :
    wpX_open post (nI 8, nI M, nI A, 0, fr, fi, kd, lf, rg, ls, tok, st, ta) (nI ro) := by
  unfold wpX_open
  dsimp only
  refine br_t rfl (xq_yes (by omega) hro (br_f (by decide) (xm_upto G GD hV (t := 0) (by omega) (fun c i j _ _ h => absurd h (by omega)) _ (fun st' hS => ⟨vp_in_nI (by omega) (by omega), ?_⟩))))
  dsimp only
  rw [show (nI ro).toNatClampNeg = ro from nI_clamp (by omega), (hV ro hro).1]
  exact xv_for (hV ro hro).2 (hp st' (D ro) hS (la_val (T := fun _ => D) (n := 0) rfl (by omega) (gx_wf G) GD (fun _ _ => rfl) (fun i hi => absurd hi (by omega)) hro))
/-- a cell's new content: kind kk, left l (kept from kind 2 on), right r (from kind 3 on) -/
theorem pm_define (G : gx_ok 8 K L R kd lf rg) {fr fi : Int32} {c kk l r : Nat} (hc : c < 8) (hk : kk ≤ 4) (hA8 : A ≤ 8) (hl : l < 8) (hr : r < 8) (h2 : kk = 2 → l < A) (post : Int32 → St2 → Prop)
    (hp : ∀ K' L' R' kd' lf' rg' ls' D, gx_ok 8 K' L' R' kd' lf' rg' → fx_Good 8 16777216 (of_L K' L' R') D → gx_V 8 ls' D →
      (∀ d, d < 8 → d ≠ c → K' d = K d ∧ L' d = L d ∧ R' d = R d ∧ lf' d = lf d) → K' c = kk → (2 ≤ kk → lf' c = nI l) → (3 ≤ kk → L' c = l ∧ R' c = r ∧ rg' c = nI r) → kd' c = nI kk →
      post 0 (nI 8, nI M, nI A, 0, fr, fi, kd', lf', rg', ls', tok, st, ta)) :
    wpX_define post (nI 8, nI M, nI A, 0, fr, fi, kd, lf, rg, ls, tok, st, ta) (nI c) (nI kk) (nI l) (nI r) := by
  have n01 : ¬ (1 : Int32) = 0 := by decide
  have go : ∀ (l' r' : Int32), (2 ≤ kk → l' = nI l) → (3 ≤ kk → r' = nI r) → ∀ ls' D, fx_Good 8 16777216 (of_L (fun i => if i = c then kk else K i) (fun i => if i = c then l else L i) (fun i => if i = c then r else R i)) D → gx_V 8 ls' D →
      gx_ok 8 (fun i => if i = c then kk else K i) (fun i => if i = c then l else L i) (fun i => if i = c then r else R i) (upd kd c (nI kk)) (upd lf c l') (upd rg c r') →
      post 0 (nI 8, nI M, nI A, 0, fr, fi, upd kd c (nI kk), upd lf c l', upd rg c r', ls', tok, st, ta) := by
    intro l' r' e1 e2 ls' D GD hV G'
    refine hp _ _ _ _ _ _ ls' D G' GD hV (fun d _ hn => ⟨if_neg hn, if_neg hn, if_neg hn, pk_un hn⟩) (if_pos rfl) (fun h => ?_) (fun h => ⟨if_pos rfl, if_pos rfl, ?_⟩) pk_us
    · rw [pk_us, e1 h]
    · rw [pk_us, e2 h]
  unfold wpX_define
  dsimp only
  unfold wpX_faultOf
  dsimp only
  refine br_t rfl (xq_yes (by omega) hc (br_f (by decide) (br_f (nI_pos (by omega)) (br_t (nI_le (b := 4) hk (by omega)) ?_))))
  rcases gx_K4 hk with rfl | rfl | rfl | rfl | rfl
  · have G' := gx_ok_upd G c (kk := 0) (l0 := l) (r0 := r) (l := 0) (r := 0) (by omega) (fun h => absurd h (by decide))
    exact br_f (by decide) (xf_plain (by decide) (by decide) (br_t rfl (br_f (by decide) (br_f (by decide) (xd_34a (by decide) (xd_51 hc G' (fun _ => rfl) (fun h => absurd rfl h) (fun _ => rfl) (fun h => absurd rfl h) _ (fun ls D GD hV => go 0 0 (fun h => absurd h (by omega)) (fun h => absurd h (by omega)) ls D GD hV G')))))))
  · have G' := gx_ok_upd G c (kk := 1) (l0 := l) (r0 := r) (l := 0) (r := 0) (by omega) (fun h => absurd h (by decide))
    exact br_f (by decide) (xf_plain (by decide) (by decide) (br_t rfl (br_f (by decide) (br_f (by decide) (xd_34a (by decide) (xd_51 hc G' (fun _ => rfl) (fun h => absurd rfl h) (fun _ => rfl) (fun h => absurd rfl h) _ (fun ls D GD hV => go 0 0 (fun h => absurd h (by omega)) (fun h => absurd h (by omega)) ls D GD hV G')))))))
  · have G' := gx_ok_upd G c (kk := 2) (l0 := l) (r0 := r) (l := nI l) (r := 0) (by omega) (fun h => absurd h (by decide))
    exact br_t (by decide) (xk_yes hA8 (h2 rfl) (br_f (by decide) (xf_plain (by decide) (by decide) (br_t rfl (br_f (by decide) (br_f (by decide) (xd_34b (by decide) (xd_51 hc G' (fun h => absurd h n01) (fun _ => rfl) (fun _ => rfl) (fun h => absurd rfl h) _ (fun ls D GD hV => go (nI l) 0 (fun _ => rfl) (fun h => absurd h (by omega)) ls D GD hV G')))))))))
  · have G' := gx_ok_upd G c (kk := 3) (l0 := l) (r0 := r) (l := nI l) (r := nI r) (by omega) (fun _ => ⟨rfl, rfl, hl, hr⟩)
    exact br_f (by decide) (xf_p0 (by omega) (Or.inl rfl) hl hr (br_t rfl (br_t rfl (xd_29 (xd_51 hc G' (fun h => absurd h n01) (fun _ => rfl) (fun h => absurd h n01) (fun _ => rfl) _ (fun ls D GD hV => go (nI l) (nI r) (fun _ => rfl) (fun _ => rfl) ls D GD hV G'))))))
  · have G' := gx_ok_upd G c (kk := 4) (l0 := l) (r0 := r) (l := nI l) (r := nI r) (by omega) (fun _ => ⟨rfl, rfl, hl, hr⟩)
    exact br_f (by decide) (xf_p0 (by omega) (Or.inr rfl) hl hr (br_t rfl (br_f (by decide) (br_t rfl (xd_29 (xd_51 hc G' (fun h => absurd h n01) (fun _ => rfl) (fun h => absurd h n01) (fun _ => rfl) _ (fun ls D GD hV => go (nI l) (nI r) (fun _ => rfl) (fun _ => rfl) ls D GD hV G')))))))
end
/-! what the law makes of the answers -/
theorem rl_nb {x : Nat} (hx : x ≤ 16777216) : (-1) ≤ rl_a x := by
  unfold rl_a
  by_cases h : x < 16777216
  · rw [if_pos h, Int32.le_iff_toInt_le, nI_toInt (by omega)]
    have : (-1 : Int32).toInt = -1 := by decide
    omega
  · rw [if_neg h]; decide
theorem rl_ver {x : Nat} (hx : x ≤ 16777216) {post : Int32 → Prop} (h : post (rl_v x)) : wpL_verdictOf post () (rl_a x) := by
  unfold wpL_verdictOf
  unfold rl_a
  by_cases z : x < 16777216
  · rw [if_pos z]
    refine pk_eq x 0 (fun e => ?_) (fun e => pk_le x 0 (fun y => absurd y (by omega)) (fun y => ?_))
    · rw [rl_v, if_pos e] at h; exact h
    · rw [rl_v, if_neg e, if_pos z] at h; exact h
  · rw [if_neg z]
    rw [rl_v, if_neg (by omega), if_neg z] at h
    exact br_f (by decide) (br_t (by decide) h)
theorem rl_neg {x : Nat} (hx : x ≤ 16777216) : rl_a x < 0 ↔ ¬ x < 16777216 := by
  unfold rl_a
  by_cases h : x < 16777216
  · rw [if_pos h]
    exact ⟨fun z => absurd z (nI_pos (by omega)), fun z => absurd h z⟩
  · rw [if_neg h]
    exact ⟨fun _ => h, fun _ => by decide⟩
theorem lr_fits3 {K L R : Nat → Nat} {lf w : Nat → Int32} {m ro x : Nat} {z : Int64} (hm : m ≤ 7) (hz : ∀ j, j < 8 → (bL z j = true ↔ au_bit K L R lf w m ro j)) (hV : la_V 8 K L R lf w m ro x) (post : Int32 → Prop) (hp : post 1) :
    ∀ f j, m ≤ j → j ≤ 7 → 7 - j < f → (∀ i, m ≤ i → i < j → ¬ au_bit K L R lf w m ro i) → wL_fits_3 post z (nI m) (rl_a x) f (nI j) := by
  have hx := hV.1
  have mine : x < 16777216 → au_bit K L R lf w m ro (if m + x < 7 then m + x else 7) := by
    intro h
    obtain ⟨q, e, o⟩ := hV.2.1 h
    have := au_bk hm o
    rw [e] at this
    exact this
  intro f
  induction f with
  | zero => intro j _ _ h; omega
  | succ f ih =>
    intro j hmj hj hf hno
    refine pk_le 7 j (fun e => ?_) (fun e => ?_)
    · have e7 : j = 7 := by omega
      refine ek_if (mx_bit1 z (j := 7) (by omega)) (fun b => ?_) (fun b => ?_)
      · obtain ⟨q, o, hq⟩ := au_b7 hm ((hz 7 (by omega)).1 b)
        have h1 := hV.2.2 q o
        have h2 := mine h1.2
        have h3 : ¬ m + x < 7 := fun y => by
          rw [if_pos y] at h2
          exact hno _ (by omega) (by omega) h2
        rw [show (7 : Int32) - nI m = nI (7 - m) from pk_sub (a := 7) hm]
        refine br_f ?_ hp
        rw [rl_a, if_pos h1.2]
        exact nI_nlt (by omega) (by omega)
      · have h1 : ¬ x < 16777216 := fun y => by
          have h2 := mine y
          by_cases h3 : m + x < 7
          · rw [if_pos h3] at h2
            exact hno _ (by omega) (by omega) h2
          · rw [if_neg h3] at h2
            exact b ((hz 7 (by omega)).2 h2)
        rw [rl_a, if_neg h1]
        exact br_t rfl hp
    · refine ek_if (mx_bit1 z (j := j) (by omega)) (fun b => ?_) (fun b => nm_r (nI_1 j) (ih (j + 1) (by omega) (by omega) (by omega) (fun i a c => ?_)))
      · obtain ⟨q, o, hq⟩ := au_b1 hm e hmj ((hz j (by omega)).1 b)
        have h1 := hV.2.2 q o
        have h2 := mine h1.2
        have h3 : ¬ m + x < j := fun y => by
          rw [if_pos (by omega)] at h2
          exact hno _ (by omega) (by omega) h2
        rw [show nI j - nI m = nI (j - m) from pk_sub hmj, rl_a, if_pos h1.2, show x = j - m from by omega]
        exact br_t rfl hp
      · by_cases e2 : i = j
        · rw [e2]
          exact fun y => b ((hz j (by omega)).2 y)
        · exact hno i a (by omega)
theorem lr_fits {K L R : Nat → Nat} {lf w : Nat → Int32} {m ro x : Nat} {z : Int64} (hm : m ≤ 7) (hz : ∀ j, j < 8 → (bL z j = true ↔ au_bit K L R lf w m ro j)) (hV : la_V 8 K L R lf w m ro x) (post : Int32 → Prop) (hp : post 1) :
    wpL_fits post () z (nI m) (rl_a x) :=
  ⟨8, lr_fits3 hm hz hV post hp 8 m (Nat.le_refl _) hm (by omega) (fun i a b => absurd b (by omega))⟩
theorem lc_any {L : Nat} (hL : L ≤ 260) (xs : Nat → Int32) {q : Nat} (hq : q < 100000) {post : Int32 → Prop} (h : ∀ x, post x) : wpL_cell post L xs () (nI q) :=
  pk_le L q (fun _ => h 0) (fun z => ⟨vp_in_nI z (by omega), h _⟩)
theorem lc_mod (x : Int32) {d : Nat} (hd : 0 < d) (hd2 : d < 100) {post : Int32 → Prop} (h : ∀ j, j < d → post (nI j)) : wpL_mod post () x (nI d) := by
  obtain ⟨j, hj, e⟩ := pk_andE x (m := 2147483647) 31 (by decide)
  refine ⟨nI_ne0 hd (by omega), ?_⟩
  rw [e, pk_rem (by omega) hd (by omega)]
  exact h _ (Nat.mod_lt _ hd)
