/-! the component's stretches: a bit mask each -/
def gx_S (C : Nat) (K L R : Nat → Nat) (tk : Nat → Nat → Prop) (st : Nat → Int32) (n : Nat) : Prop :=
  ∀ c i j, c < C → i ≤ j → j < n → (bt (st (i * 13 + j)) c = true ↔ gr_Sp C K L R tk c i j)
theorem nx_13 (f t : Nat) : nI f * 13 + nI t = nI (f * 13 + t) := by
  show nI f * nI 13 + nI t = _
  rw [pk_mul, nI_add]
theorem bm_nf {b : Bool} (h : ¬ b = false) : b = true := by
  cases b with
  | true => rfl
  | false => exact absurd rfl h
theorem bm_nt {b : Bool} (h : b = false) : ¬ b = true := by
  rw [h]
  exact Bool.false_ne_true
section
variable {C : Nat} {K L R : Nat → Nat} {cc fl ft fo fr fi : Int32} {kd lf rg ls tok st ta : Nat → Int32}
theorem xm_at {c f t : Nat} (hc : c < 16) (ht : f * 13 + t < 169) {post : Int32 → Prop} (h1 : bt (st (f * 13 + t)) c = true → post 1) (h0 : bt (st (f * 13 + t)) c = false → post 0) :
    wpX_matches post (cc, fl, ft, fo, fr, fi, kd, lf, rg, ls, tok, st, ta) (nI c) (nI f) (nI t) := by
  unfold wpX_matches
  dsimp only
  rw [nx_13, show (nI (f * 13 + t)).toNatClampNeg = f * 13 + t from nI_clamp (by omega)]
  exact ⟨vp_in_nI ht (by omega), ek_if (bm_get _ (by omega)) h0 (fun h => h1 (bm_nf h))⟩
theorem xm_two3 {l r f t : Nat} (hl : l < 16) (hr : r < 16) (ht : t ≤ 12) (post : Int32 → Prop)
    (h1 : ∀ k, f ≤ k → k ≤ t → bt (st (f * 13 + k)) l = true → bt (st (k * 13 + t)) r = true → post 1)
    (h0 : (∀ k, f ≤ k → k ≤ t → ¬ (bt (st (f * 13 + k)) l = true ∧ bt (st (k * 13 + t)) r = true)) → post 0) :
    ∀ n k, f ≤ k → k ≤ t + 1 → t + 1 - k < n → (∀ m, f ≤ m → m < k → ¬ (bt (st (f * 13 + m)) l = true ∧ bt (st (m * 13 + t)) r = true)) →
      wX_matchesInTwo_3 post (nI l) (nI r) (nI f) (nI t) cc fl ft fo fr fi kd lf rg ls tok st ta n (nI k) := by
  intro n
  induction n with
  | zero => intro k _ _ h; omega
  | succ n ih =>
    intro k hfk hkt hn hm
    have next : k ≤ t → ¬ (bt (st (f * 13 + k)) l = true ∧ bt (st (k * 13 + t)) r = true) → wX_matchesInTwo_3 post (nI l) (nI r) (nI f) (nI t) cc fl ft fo fr fi kd lf rg ls tok st ta n (nI (k + 1)) := fun hk z =>
      ih (k + 1) (by omega) (by omega) (by omega) (fun m a b => by
        by_cases e : m = k
        · rw [e]; exact z
        · exact hm m a (by omega))
    refine pk_lt t k (fun h => h0 (fun m a b => hm m a (by omega))) (fun h => xm_at hl (by omega) (fun b1 => ?_) (fun b0 => ?_))
    · refine br_f (by decide) (xm_at hr (by omega) (fun c1 => br_f (by decide) (h1 k hfk h b1 c1)) (fun c0 => br_t rfl (nm_r (nI_1 k) (next h (fun z => bm_nt c0 z.2)))))
    · exact br_t rfl (nm_r (nI_1 k) (next h (fun z => bm_nt b0 z.1)))
theorem xm_two {l r f t : Nat} (hl : l < 16) (hr : r < 16) (hft : f ≤ t) (ht : t ≤ 12) (post : Int32 → Prop)
    (h1 : ∀ k, f ≤ k → k ≤ t → bt (st (f * 13 + k)) l = true → bt (st (k * 13 + t)) r = true → post 1)
    (h0 : (∀ k, f ≤ k → k ≤ t → ¬ (bt (st (f * 13 + k)) l = true ∧ bt (st (k * 13 + t)) r = true)) → post 0) :
    wpX_matchesInTwo post (cc, fl, ft, fo, fr, fi, kd, lf, rg, ls, tok, st, ta) (nI l) (nI r) (nI f) (nI t) :=
  ⟨t + 2, xm_two3 hl hr ht post h1 h0 (t + 2) f (Nat.le_refl _) (by omega) (by omega) (fun m a b => absurd a (by omega))⟩
theorem xm_rule (G : gx_ok C K L R kd lf rg) {c f t : Nat} (hc : c < C) (hft : f < t) (ht : t ≤ 12) {s : Nat → Nat} {Mt : Nat → Nat → Nat → Prop}
    (hs : ∀ l, l < C → (bt (st (f * 13 + t)) l = true ↔ s l = 0))
    (hm1 : ∀ l k, l < C → f ≤ k → k < t → (bt (st (f * 13 + k)) l = true ↔ Mt l f k)) (hm2 : ∀ r k, r < C → f < k → k ≤ t → (bt (st (k * 13 + t)) r = true ↔ Mt r k t))
    (post : Int32 → Prop) (h1 : of_M K L R (fun i c => tok i = lf c) Mt f t s c 0 → post 1) (h0 : (∀ x, ¬ of_M K L R (fun i c => tok i = lf c) Mt f t s c x) → post 0) :
    wpX_matchesByRule post (nI C, fl, ft, fo, fr, fi, kd, lf, rg, ls, tok, st, ta) (nI c) (nI f) (nI t) := by
  have hC := G.1
  obtain ⟨hk, h4, hlr⟩ := G.2 c hc
  have hi : vp_in (nI c) 16 := vp_in_nI (by omega) (by omega)
  unfold wpX_matchesByRule
  dsimp only
  rw [show (nI c).toNatClampNeg = c from nI_clamp (by omega), show (nI f).toNatClampNeg = f from nI_clamp (by omega)]
  refine ⟨hi, nm_r hk ?_⟩
  rcases gx_K4 h4 with e | e | e | e | e
  · rw [e]
    refine br_t (by decide) (h0 (fun x hx => ?_))
    obtain ⟨_, hx⟩ := hx
    rcases hx with ⟨k, _⟩ | ⟨k, _⟩ | ⟨k, _⟩ <;> omega
  · rw [e]
    refine br_t (by decide) (h0 (fun x hx => ?_))
    obtain ⟨_, hx⟩ := hx
    rcases hx with ⟨k, _⟩ | ⟨k, _⟩ | ⟨k, _⟩ <;> omega
  · rw [e]
    refine br_f (by decide) (br_f (by decide) (br_t rfl (pk_eq (f + 1) t (fun e2 => ⟨vp_in_nI (by omega) (by omega), hi, br_c (fun w => h1 ⟨rfl, Or.inl ⟨e, e2, w⟩⟩) (fun w => h0 (fun x hx => ?_))⟩) (fun e2 => h0 (fun x hx => ?_)) (nI_1 f))))
    · obtain ⟨_, hx⟩ := hx
      rcases hx with ⟨k, _, h⟩ | ⟨k, _⟩ | ⟨k, _⟩
      · exact w h
      · omega
      · omega
    · obtain ⟨_, hx⟩ := hx
      rcases hx with ⟨k, h, _⟩ | ⟨k, _⟩ | ⟨k, _⟩ <;> omega
  · obtain ⟨el, er, hl, hr⟩ := hlr (Or.inl e)
    rw [e, el, er]
    refine br_f (by decide) (br_f (by decide) (br_f (by decide) (br_t rfl ⟨hi, xm_at (by omega) (by omega) (fun b1 => ?_) (fun b0 => ?_)⟩)))
    · exact br_f (by decide) (h1 ⟨rfl, Or.inr (Or.inl ⟨e, Or.inl ((hs _ hl).1 b1)⟩)⟩)
    · refine br_t rfl ⟨hi, xm_at (by omega) (by omega) (fun c1 => ?_) (fun c0 => ?_)⟩
      · exact br_f (by decide) (h1 ⟨rfl, Or.inr (Or.inl ⟨e, Or.inr ((hs _ hr).1 c1)⟩)⟩)
      · refine br_t rfl (h0 (fun x hx => ?_))
        obtain ⟨_, hx⟩ := hx
        rcases hx with ⟨k, _⟩ | ⟨k, h | h⟩ | ⟨k, _⟩
        · omega
        · exact bm_nt b0 ((hs _ hl).2 h)
        · exact bm_nt c0 ((hs _ hr).2 h)
        · omega
  · obtain ⟨el, er, hl, hr⟩ := hlr (Or.inr e)
    rw [e, el, er]
    refine br_f (by decide) (br_f (by decide) (br_f (by decide) (br_f (by decide) (br_t rfl ⟨hi, hi, xm_two (by omega) (by omega) (by omega) ht _ (fun k a b b1 b2 => ⟨rfl, h1 ⟨rfl, Or.inr (Or.inr ⟨e, k, a, b, ?_, ?_⟩)⟩⟩) (fun hn => ⟨rfl, h0 (fun x hx => ?_)⟩)⟩))))
    · by_cases e2 : k = t
      · rw [e2] at b1
        exact Or.inl ⟨e2, (hs _ hl).1 b1⟩
      · exact Or.inr ⟨e2, (hm1 _ k hl a (by omega)).1 b1⟩
    · by_cases e2 : k = f
      · rw [e2] at b2
        exact Or.inl ⟨e2, (hs _ hr).1 b2⟩
      · exact Or.inr ⟨e2, (hm2 _ k hr (by omega) b).1 b2⟩
    · obtain ⟨_, hx⟩ := hx
      rcases hx with ⟨k, _⟩ | ⟨k, _⟩ | ⟨k, m, a, b, p, q⟩
      · omega
      · omega
      · refine hn m a b ⟨?_, ?_⟩
        · rcases p with ⟨e2, p⟩ | ⟨e2, p⟩
          · rw [e2]; exact (hs _ hl).2 p
          · exact (hm1 _ m hl a (by omega)).2 p
        · rcases q with ⟨e2, q⟩ | ⟨e2, q⟩
          · rw [e2]; exact (hs _ hr).2 q
          · exact (hm2 _ m hr (by omega) b).2 q
/-- the mask at place p of st against the values t (0: set); elsewhere st is st0 -/
def xm_rel (C p : Nat) (st0 st : Nat → Int32) (t : Nat → Nat) : Prop := (∀ i, i ≠ p → st i = st0 i) ∧ ∀ l, l < C → (bt (st p) l = true ↔ t l = 0) ∧ t l ≤ 1
theorem xm_45 (G : gx_ok C K L R kd lf rg) {f t : Nat} (hft : f < t) (ht : t ≤ 12) {st0 : Nat → Int32} {D s : Nat → Nat}
    (GD : fx_Good C 1 (of_M K L R (fun i c => tok i = lf c) (fun l i j => bt (st0 (i * 13 + j)) l = true) f t) D) (post : St2 → Prop)
    (J20 : Int32 → Int32 → (Nat → Int32) → (Nat → Int32) → (Nat → Int32) → (Nat → Int32) → (Nat → Int32) → (Nat → Int32) → (Nat → Int32) → Prop) (x5 x6 : Int32)
    (hJ : ∀ x4 st w, xm_rel C (f * 13 + t) st0 st w → fx_In C (of_M K L R (fun i c => tok i = lf c) (fun l i j => bt (st0 (i * 13 + j)) l = true) f t) D s C w →
      (x4 = 0 → st (f * 13 + t) = x6) → J20 x4 (x5 + 1) kd lf rg ls tok st ta) :
    ∀ n c st w, c ≤ C → C - c < n → xm_rel C (f * 13 + t) st0 st w → fx_In C (of_M K L R (fun i c => tok i = lf c) (fun l i j => bt (st0 (i * 13 + j)) l = true) f t) D s c w →
      wX_matchStretch_45 post J20 (nI f) (nI t) (nI (f * 13 + t)) x5 x6 (nI C) fl ft fo fr fi n (nI c) kd lf rg ls tok st ta := by
  have hC := G.1
  have hat : (nI (f * 13 + t)).toNatClampNeg = f * 13 + t := nI_clamp (by omega)
  have hin : vp_in (nI (f * 13 + t)) 169 := vp_in_nI (by omega) (by omega)
  intro n
  induction n with
  | zero => intro c st w _ h; omega
  | succ n ih =>
    intro c st w hc hn hr hI
    by_cases z : c < C
    · refine br_f (nI_ge z (by omega)) (xm_rule G z hft ht (s := w) (Mt := fun l i j => bt (st0 (i * 13 + j)) l = true) (fun l hl => (hr.2 l hl).1) (fun l k _ _ h => ?_) (fun r k _ h _ => ?_) _ (fun ho => ?_) (fun hno => ?_))
      · rw [hr.1 (f * 13 + k) (by omega)]
      · rw [hr.1 (k * 13 + t) (by omega)]
      · refine br_f (by decide) ⟨hin, hin, ?_⟩
        rw [hat]
        refine nm_e (nm_r (nI_1 c) (ih (c + 1) _ (fun u => if u = c then 0 else w u) z (by omega) ⟨fun i hi => by rw [pk_un hi]; exact hr.1 i hi, fun l hl => ?_⟩ ?_))
        · rw [pk_us, bm_set _ (by omega) (by omega)]
          dsimp only
          by_cases e : l = c
          · rw [if_pos e, decide_eq_true e, Bool.or_true]
            exact ⟨⟨fun _ => rfl, fun _ => rfl⟩, Nat.zero_le _⟩
          · rw [if_neg e, decide_eq_false e, Bool.or_false]
            exact hr.2 l hl
        · by_cases e : w c = 0
          · refine fx_in_ext (fx_in_skip (of_M_m _ f t (gx_wf G)) hI (fun y _ => by omega)) (fun u _ => ?_)
            by_cases e2 : u = c
            · rw [if_pos e2, e2, e]
            · rw [if_neg e2]
          · exact fx_in_set GD (of_M_m _ f t (gx_wf G)) hI z (by omega) ho (fun y _ => Nat.zero_le _)
      · exact br_t rfl (nm_r (nI_1 c) (ih (c + 1) st w z (by omega) hr (fx_in_skip (of_M_m _ f t (gx_wf G)) hI (fun y hy => absurd hy (hno y)))))
    · have e : c = C := by omega
      subst e
      refine br_t (nI_le (Nat.le_refl _) (by omega)) ⟨hin, ?_⟩
      rw [hat]
      exact br_c (fun e => nm_e (hJ 0 st w hr hI (fun _ => e))) (fun e => nm_e (hJ 1 st w hr hI (fun z => absurd z (by decide))))
theorem xm_20 (G : gx_ok C K L R kd lf rg) {f t : Nat} (hft : f < t) (ht : t ≤ 12) {st0 : Nat → Int32} {D : Nat → Nat}
    (GD : fx_Good C 1 (of_M K L R (fun i c => tok i = lf c) (fun l i j => bt (st0 (i * 13 + j)) l = true) f t) D) (post : St2 → Prop)
    (hp : ∀ st, xm_rel C (f * 13 + t) st0 st D → post (nI C, fl, ft, fo, fr, fi, kd, lf, rg, ls, tok, st, ta)) :
    ∀ n k x4 st s, k ≤ C → C - k < n → xm_rel C (f * 13 + t) st0 st s → fx_R C 1 (fun _ => true) D k s → (x4 = 0 → ∀ u, u < C → s u = D u) →
      wX_matchStretch_20 post (nI f) (nI t) (nI (f * 13 + t)) (nI C) fl ft fo fr fi n x4 (nI k) kd lf rg ls tok st ta := by
  have hC := G.1
  have hat : (nI (f * 13 + t)).toNatClampNeg = f * 13 + t := nI_clamp (by omega)
  have hin : vp_in (nI (f * 13 + t)) 169 := vp_in_nI (by omega) (by omega)
  have fin : ∀ st s, xm_rel C (f * 13 + t) st0 st s → (∀ u, u < C → s u = D u) → post (nI C, fl, ft, fo, fr, fi, kd, lf, rg, ls, tok, st, ta) :=
    fun st s hr e => hp st ⟨hr.1, fun l hl => by rw [← e l hl]; exact hr.2 l hl⟩
  intro n
  induction n with
  | zero => intro k x4 st s _ h; omega
  | succ n ih =>
    intro k x4 st s hk hn hr hR hx
    by_cases z : x4 = 0
    · exact br_t z (fin st s hr (hx z))
    · refine br_f z (pk_le C k (fun h => fin st s hr (fx_fin GD (fun _ _ _ _ _ => rfl) hR (by rw [fx_cnt_all]; exact h))) (fun h => ⟨hin, ?_⟩))
      rw [hat]
      refine nm_e ⟨C + 1, xm_45 G hft ht GD post _ (nI k) _ (fun y st' w hr' hI hy => ?_) (C + 1) 0 st s (by omega) (by omega) hr (fx_in0 hR)⟩
      rw [nI_1]
      refine ih (k + 1) y st' w (by omega) (by omega) hr' (fx_in_end GD (fun _ _ _ _ _ => rfl) hR hI) (fun e => fx_in_stop GD hR hI (fun u hu => ?_))
      have a := hr.2 u hu
      have b := hr'.2 u hu
      rw [hy e] at b
      have q : s u = 0 ↔ w u = 0 := a.1.symm.trans b.1
      omega
theorem xm_stretch (G : gx_ok C K L R kd lf rg) {f t : Nat} (hft : f < t) (ht : t ≤ 12)
    (hl : ∀ l k, l < C → f ≤ k → k < t → (bt (st (f * 13 + k)) l = true ↔ gr_Sp C K L R (fun i c => tok i = lf c) l f k))
    (hr : ∀ r k, r < C → f < k → k ≤ t → (bt (st (k * 13 + t)) r = true ↔ gr_Sp C K L R (fun i c => tok i = lf c) r k t)) (post : St2 → Prop)
    (hp : ∀ st', (∀ i, i ≠ f * 13 + t → st' i = st i) → (∀ c, c < C → (bt (st' (f * 13 + t)) c = true ↔ gr_Sp C K L R (fun i c => tok i = lf c) c f t)) →
      post (nI C, fl, ft, fo, fr, fi, kd, lf, rg, ls, tok, st', ta)) :
    wpX_matchStretch post (nI C, fl, ft, fo, fr, fi, kd, lf, rg, ls, tok, st, ta) (nI f) (nI t) := by
  have hC := G.1
  obtain ⟨D, GD⟩ := fx_good (B := 1) (of_M_m (tk := fun i c => tok i = lf c) (fun l i j => bt (st (i * 13 + j)) l = true) f t (gx_wf G)) (of_M_w _ _ f t (gx_wf G))
  unfold wpX_matchStretch
  dsimp only
  refine nm_r (nx_13 f t) ⟨vp_in_nI (by omega) (by omega), ?_⟩
  rw [show (nI (f * 13 + t)).toNatClampNeg = f * 13 + t from nI_clamp (by omega)]
  refine nm_e ⟨C + 1, xm_20 G hft ht GD post (fun st' h => hp st' h.1 (fun c hc => (h.2 c hc).1.trans (gr_mask (gx_wf G) GD hft hl hr hc))) (C + 1) 0 1 _ (fun _ => 1) (by omega) (by omega)
    ⟨fun i hi => pk_un hi, fun l hl => ?_⟩ (fx_R0 GD (fun _ _ => rfl)) (fun z => absurd z (by decide))⟩
  rw [pk_us, b_0]
  exact ⟨⟨fun z => absurd z (by decide), fun z => absurd (show (1 : Nat) = 0 from z) (by decide)⟩, Nat.le_refl _⟩
theorem xm_49 (G : gx_ok C K L R kd lf rg) {t : Nat} (ht : t ≤ 12) (post : St2 → Prop)
    (hp : ∀ st, gx_S C K L R (fun i c => tok i = lf c) st (t + 1) → post (nI C, fl, ft, fo, fr, fi, kd, lf, rg, ls, tok, st, ta)) :
    ∀ n k st, k ≤ t → k < n → gx_S C K L R (fun i c => tok i = lf c) st t → (∀ c i, c < C → k ≤ i → i ≤ t → (bt (st (i * 13 + t)) c = true ↔ gr_Sp C K L R (fun i c => tok i = lf c) c i t)) →
      wX_matchUpTo_49 post (nI t) n (nI k + (-1)) (nI C) fl ft fo fr fi kd lf rg ls tok st ta := by
  intro n
  induction n with
  | zero => intro k st _ h; omega
  | succ n ih =>
    intro k st hk hn hS hT
    cases k with
    | zero =>
      refine br_t (by decide) (hp st (fun c i j hc hij hj => ?_))
      by_cases e : j = t
      · rw [e]
        exact hT c i hc (Nat.zero_le _) (by omega)
      · exact hS c i j hc hij (by omega)
    | succ j =>
      rw [pk_m1]
      refine br_f (nI_pos (by omega)) (xm_stretch G (by omega) ht (fun l k hl a b => hS l j k hl a b) (fun r k hr a b => hT r k hr (by omega) b) _ (fun st' h1 h2 => ?_))
      refine nm_e (ih j st' (by omega) (by omega) (fun c i j2 hc hij hj => ?_) (fun c i hc hi hit => ?_))
      · rw [h1 _ (by omega)]
        exact hS c i j2 hc hij hj
      · by_cases e : i = j
        · rw [e]
          exact h2 c hc
        · rw [h1 _ (by omega)]
          exact hT c i hc (by omega) hit
theorem xm_4 (G : gx_ok C K L R kd lf rg) {D : Nat → Nat} (GD : fx_Good C 16777216 (of_L K L R) D) (hV : gx_V C ls D) {t : Nat} (ht : t ≤ 12)
    (hS : gx_S C K L R (fun i c => tok i = lf c) st t) (post : St2 → Prop)
    (hp : ∀ st, gx_S C K L R (fun i c => tok i = lf c) st (t + 1) → post (nI C, fl, ft, fo, fr, fi, kd, lf, rg, ls, tok, st, ta)) :
    ∀ n c x2, c ≤ C → C - c < n → (∀ l, l < C → (bt x2 l = true ↔ l < c ∧ D l = 0)) → wX_matchUpTo_4 post (nI t) (nI C) fl ft fo fr fi kd lf rg ls tok st ta n x2 (nI c) := by
  have hC := G.1
  intro n
  induction n with
  | zero => intro c x2 _ h; omega
  | succ n ih =>
    intro c x2 hc hn hx
    refine pk_le C c (fun h => ?_) (fun h => ⟨vp_in_nI (by omega) (by omega), ?_⟩)
    · rw [nx_13, show (nI (t * 13 + t)).toNatClampNeg = t * 13 + t from nI_clamp (by omega)]
      refine ⟨vp_in_nI (by omega) (by omega), nm_e (nm_r (Int32.sub_eq_add_neg _ _) ⟨t + 1, xm_49 G ht post hp (t + 1) t _ (Nat.le_refl _) (by omega) (fun l i j hl hij hj => ?_) (fun l i hl hi hit => ?_)⟩)⟩
      · rw [pk_un (by omega)]
        exact hS l i j hl hij hj
      · have e : i = t := by omega
        rw [e, pk_us, hx l hl, ← gr_null (by omega) (gx_wf G) GD hl t]
        exact ⟨fun z => z.2, fun z => ⟨by omega, z⟩⟩
    · rw [show (nI c).toNatClampNeg = c from nI_clamp (by omega), (hV c h).1]
      have hB := (hV c h).2
      refine pk_eq (D c) 0 (fun e => nm_e (nm_r (nI_1 c) (ih (c + 1) _ (by omega) (by omega) (fun l hl => ?_)))) (fun e => nm_r (nI_1 c) (ih (c + 1) x2 (by omega) (by omega) (fun l hl => ?_)))
      · rw [bm_set _ (by omega) (by omega), Bool.or_eq_true, hx l hl, decide_eq_true_eq]
        constructor
        · intro q
          rcases q with q | q
          · exact ⟨by omega, q.2⟩
          · rw [q]; exact ⟨by omega, e⟩
        · intro q
          by_cases e2 : l = c
          · exact Or.inr e2
          · exact Or.inl ⟨by omega, q.2⟩
      · rw [hx l hl]
        constructor
        · intro q
          exact ⟨by omega, q.2⟩
        · intro q
          refine ⟨?_, q.2⟩
          by_cases e2 : l = c
          · rw [e2] at q
            exact absurd q.2 e
          · omega
theorem xm_upto (G : gx_ok C K L R kd lf rg) {D : Nat → Nat} (GD : fx_Good C 16777216 (of_L K L R) D) (hV : gx_V C ls D) {t : Nat} (ht : t ≤ 12)
    (hS : gx_S C K L R (fun i c => tok i = lf c) st t) (post : St2 → Prop)
    (hp : ∀ st, gx_S C K L R (fun i c => tok i = lf c) st (t + 1) → post (nI C, fl, ft, fo, fr, fi, kd, lf, rg, ls, tok, st, ta)) :
    wpX_matchUpTo post (nI C, fl, ft, fo, fr, fi, kd, lf, rg, ls, tok, st, ta) (nI t) :=
  ⟨C + 1, xm_4 G GD hV ht hS post hp (C + 1) 0 0 (by omega) (by omega) (fun l _ => by
    rw [b_0]
    exact ⟨fun z => absurd z (by decide), fun z => absurd z.1 (by omega)⟩)⟩
end
