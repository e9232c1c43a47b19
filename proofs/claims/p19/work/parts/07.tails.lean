/-! the component's tails, row by row from the input's end -/
theorem nx_16m (f : Nat) : nI f * 16 = nI (f * 16) := pk_mul f 16
theorem nx_16 (f t : Nat) : nI f * 16 + nI t = nI (f * 16 + t) := by rw [nx_16m, nI_add]
theorem of_T_ext {K L R : Nat → Nat} {tk : Nat → Nat → Prop} {Mt : Nat → Nat → Nat → Prop} {Ls : Nat → Nat} {T U : Nat → Nat → Nat} {f e : Nat} (h : ∀ k, f < k → T k = U k) :
    of_T K L R tk Mt Ls T f e = of_T K L R tk Mt Ls U f e := by
  funext s c x
  apply propext
  constructor
  · intro o
    rcases o with o | o | ⟨k, o | o | ⟨m, h1, h2, h3, h4⟩⟩
    · exact Or.inl o
    · exact Or.inr (Or.inl o)
    · exact Or.inr (Or.inr ⟨k, Or.inl o⟩)
    · exact Or.inr (Or.inr ⟨k, Or.inr (Or.inl o)⟩)
    · exact Or.inr (Or.inr ⟨k, Or.inr (Or.inr ⟨m, h1, h2, h3, by rw [← h m h1]; exact h4⟩)⟩)
  · intro o
    rcases o with o | o | ⟨k, o | o | ⟨m, h1, h2, h3, h4⟩⟩
    · exact Or.inl o
    · exact Or.inr (Or.inl o)
    · exact Or.inr (Or.inr ⟨k, Or.inl o⟩)
    · exact Or.inr (Or.inr ⟨k, Or.inr (Or.inl o)⟩)
    · exact Or.inr (Or.inr ⟨k, Or.inr (Or.inr ⟨m, h1, h2, h3, by rw [h m h1]; exact h4⟩)⟩)
section
variable {C : Nat} {K L R : Nat → Nat} {cc fl ft fo fr fi : Int32} {kd lf rg ls tok st : Nat → Int32}
theorem xt_25 {ta : Nat → Int32} {l r f e b0 : Nat} (hl : l < 16) (hr : r < 16) (he : e ≤ 13) {P : Nat → Prop} {tv : Nat → Nat}
    (hS : ∀ k, f ≤ k → k < e → (bt (st (f * 13 + k)) l = true ↔ P k)) (hta : ∀ k, f ≤ k → k < e → ta (k * 16 + r) = nI (tv k) ∧ tv k ≤ 16777216) (post : Int32 → Prop)
    (h : ∀ x, x ≤ 16777216 → x ≤ b0 → (∀ k, f ≤ k → k < e → P k → x ≤ tv k) → (x = b0 ∨ ∃ k, f ≤ k ∧ k < e ∧ P k ∧ x = tv k) → post (nI x)) :
    ∀ n k b, f ≤ k → k ≤ e → e - k < n → b ≤ 16777216 → b ≤ b0 → (∀ m, f ≤ m → m < k → P m → b ≤ tv m) → (b = b0 ∨ ∃ m, f ≤ m ∧ m < k ∧ P m ∧ b = tv m) →
      wX_tailInTwo_25 post (nI l) (nI r) (nI f) (nI e) cc fl ft fo fr fi kd lf rg ls tok st ta n (nI b) (nI k) := by
  intro n
  induction n with
  | zero => intro k b _ _ h; omega
  | succ n ih =>
    intro k b hfk hke hn hb hb0 hm hw
    refine pk_le e k (fun z => h b hb hb0 (fun m a c => hm m a (by omega)) ?_) (fun z => xm_at hl (by omega) (fun b1 => ?_) (fun b1 => ?_))
    · rcases hw with hw | ⟨m, a, c, d⟩
      · exact Or.inl hw
      · exact Or.inr ⟨m, a, by omega, d⟩
    · have hv := hta k hfk z
      refine br_f (by decide) ?_
      rw [nx_16, show (nI (k * 16 + r)).toNatClampNeg = k * 16 + r from nI_clamp (by omega), hv.1]
      refine ⟨vp_in_nI (by omega) (by omega), xs_smaller hb hv.2 (fun w => nm_r (nI_1 k) (ih (k + 1) (tv k) (by omega) (by omega) (by omega) hv.2 (by omega) (fun m a c d => ?_) (Or.inr ⟨k, hfk, by omega, (hS k hfk z).1 b1, rfl⟩)))
        (fun w => nm_r (nI_1 k) (ih (k + 1) b (by omega) (by omega) (by omega) hb hb0 (fun m a c d => ?_) ?_))⟩
      · by_cases e2 : m = k
        · rw [e2]; exact Nat.le_refl _
        · exact Nat.le_trans w (hm m a (by omega) d)
      · by_cases e2 : m = k
        · rw [e2]; omega
        · exact hm m a (by omega) d
      · rcases hw with hw | ⟨m, a, c, d⟩
        · exact Or.inl hw
        · exact Or.inr ⟨m, a, by omega, d⟩
    · refine br_t rfl (nm_r (nI_1 k) (ih (k + 1) b (by omega) (by omega) (by omega) hb hb0 (fun m a c d => ?_) ?_))
      · by_cases e2 : m = k
        · rw [e2] at d
          exact absurd ((hS k hfk z).2 d) (bm_nt b1)
        · exact hm m a (by omega) d
      · rcases hw with hw | ⟨m, a, c, d⟩
        · exact Or.inl hw
        · exact Or.inr ⟨m, a, by omega, d⟩
theorem xt_two {ta : Nat → Int32} {D s : Nat → Nat} {T : Nat → Nat → Nat} {l r f e : Nat} (hC : C ≤ 16) (hl : l < C) (hr : r < C) (hfe : f < e) (he : e ≤ 13) {P : Nat → Prop}
    (hS : ∀ k, f ≤ k → k < e → (bt (st (f * 13 + k)) l = true ↔ P k)) (hV : gx_V C ls D) (hs : ∀ c, c < C → ta (f * 16 + c) = nI (s c) ∧ s c ≤ 16777216)
    (hT : ∀ k c, f < k → k < e → c < C → ta (k * 16 + c) = nI (T k c) ∧ T k c ≤ 16777216) (post : Int32 → Prop)
    (h : ∀ x, x ≤ 16777216 → x ≤ s l + D r → (P f → x ≤ s r) → (∀ k, f < k → k < e → P k → x ≤ T k r) → (x < 16777216 → x = s l + D r ∨ (P f ∧ x = s r) ∨ ∃ k, f < k ∧ k < e ∧ P k ∧ x = T k r) → post (nI x)) :
    wpX_tailInTwo post (cc, fl, ft, fo, fr, fi, kd, lf, rg, ls, tok, st, ta) (nI l) (nI r) (nI f) (nI e) := by
  have hsl := hs l hl
  have hsr := hs r hr
  have hD := hV r hr
  have key : ∀ b0, b0 ≤ 16777216 → b0 ≤ s l + D r → (b0 < 16777216 → b0 = s l + D r) → ∃ n, wX_tailInTwo_25 post (nI l) (nI r) (nI f) (nI e) cc fl ft fo fr fi kd lf rg ls tok st ta n (nI b0) (nI f) := by
    intro b0 hb hb1 hb2
    refine ⟨e + 1, xt_25 (P := P) (tv := fun k => if k = f then s r else T k r) (by omega) (by omega) he hS (fun k a b => ?_) post (fun x hx h1 h2 h3 => ?_) (e + 1) f b0 (Nat.le_refl _) (by omega) (by omega) hb (Nat.le_refl _) (fun m a b => absurd a (by omega)) (Or.inl rfl)⟩
    · try dsimp only
      by_cases e2 : k = f
      · rw [if_pos e2, e2]; exact hsr
      · rw [if_neg e2]; exact hT k r (by omega) b hr
    · refine h x hx (by omega) (fun p => ?_) (fun k a b p => ?_) (fun hlt => ?_)
      · have := h2 f (Nat.le_refl _) hfe p
        try dsimp only at this
        rw [if_pos rfl] at this
        exact this
      · have := h2 k (by omega) b p
        try dsimp only at this
        rw [if_neg (by omega)] at this
        exact this
      · rcases h3 with h3 | ⟨k, a, b, p, q⟩
        · exact Or.inl (by omega)
        · try dsimp only at q
          by_cases e2 : k = f
          · rw [if_pos e2] at q
            rw [e2] at p
            exact Or.inr (Or.inl ⟨p, q⟩)
          · rw [if_neg e2] at q
            exact Or.inr (Or.inr ⟨k, by omega, b, p, q⟩)
  unfold wpX_tailInTwo
  try dsimp only
  rw [nx_16, show (nI (f * 16 + l)).toNatClampNeg = f * 16 + l from nI_clamp (by omega), show (nI r).toNatClampNeg = r from nI_clamp (by omega), hsl.1, hD.1]
  exact ⟨vp_in_nI (by omega) (by omega), vp_in_nI (by omega) (by omega), xs_joined hsl.2 hD.2 (fun z => key _ (Nat.le_refl _) z (fun w => absurd w (by omega))) (fun z => key _ (by omega) (Nat.le_refl _) (fun _ => rfl))⟩
theorem xt_rule (G : gx_ok C K L R kd lf rg) {ta : Nat → Int32} {D s : Nat → Nat} {T : Nat → Nat → Nat} {c f e : Nat} (hc : c < C) (hfe : f < e) (he : e ≤ 13)
    (hS : gx_S C K L R (fun i c => tok i = lf c) st e) (hV : gx_V C ls D) (hs : ∀ c, c < C → ta (f * 16 + c) = nI (s c) ∧ s c ≤ 16777216)
    (hT : ∀ k c, f < k → k < e → c < C → ta (k * 16 + c) = nI (T k c) ∧ T k c ≤ 16777216) (post : Int32 → Prop)
    (h : ∀ x, x ≤ 16777216 → (∀ y, of_T K L R (fun i c => tok i = lf c) (gr_Sp C K L R (fun i c => tok i = lf c)) D T f e s c y → x ≤ y) →
      (x < 16777216 → of_T K L R (fun i c => tok i = lf c) (gr_Sp C K L R (fun i c => tok i = lf c)) D T f e s c x) → post (nI x)) :
    wpX_tailByRule post (nI C, fl, ft, fo, fr, fi, kd, lf, rg, ls, tok, st, ta) (nI c) (nI f) (nI e) := by
  have hC := G.1
  obtain ⟨hk, h4, hlr⟩ := G.2 c hc
  have hi : vp_in (nI c) 16 := vp_in_nI (by omega) (by omega)
  unfold wpX_tailByRule
  try dsimp only
  rw [show (nI c).toNatClampNeg = c from nI_clamp (by omega), show (nI f).toNatClampNeg = f from nI_clamp (by omega)]
  refine nm_r (nx_16m f) ⟨hi, nm_r hk ?_⟩
  rcases gx_K4 h4 with e0 | e0 | e0 | e0 | e0
  · rw [e0]
    refine br_t (by decide) (h 16777216 (Nat.le_refl _) (fun y hy => ?_) (fun z => absurd z (by omega)))
    rcases hy with ⟨k, hy⟩ | ⟨k, hy⟩ | ⟨k, hy⟩ <;> omega
  · rw [e0]
    refine br_t (by decide) (h 16777216 (Nat.le_refl _) (fun y hy => ?_) (fun z => absurd z (by omega)))
    rcases hy with ⟨k, hy⟩ | ⟨k, hy⟩ | ⟨k, hy⟩ <;> omega
  · rw [e0]
    refine br_f (by decide) (br_f (by decide) (br_t rfl (pk_eq (f + 1) e (fun e2 => ⟨vp_in_nI (by omega) (by omega), hi, br_c (fun w => h 0 (by omega) (fun y _ => by omega) (fun _ => Or.inl ⟨e0, e2, w, rfl⟩)) (fun w => h 16777216 (Nat.le_refl _) (fun y hy => ?_) (fun z => absurd z (by omega)))⟩)
      (fun e2 => h 16777216 (Nat.le_refl _) (fun y hy => ?_) (fun z => absurd z (by omega))) (nI_1 f))))
    · rcases hy with ⟨k, _, q, _⟩ | ⟨k, hy⟩ | ⟨k, hy⟩
      · exact absurd q w
      · omega
      · omega
    · rcases hy with ⟨k, q, _⟩ | ⟨k, hy⟩ | ⟨k, hy⟩ <;> omega
  · obtain ⟨el, er, hl, hr⟩ := hlr (Or.inl e0)
    have vl := hs _ hl
    have vr := hs _ hr
    rw [e0, el, er, nI_add, nI_add, show (nI (f * 16 + L c)).toNatClampNeg = f * 16 + L c from nI_clamp (by omega), show (nI (f * 16 + R c)).toNatClampNeg = f * 16 + R c from nI_clamp (by omega), vl.1, vr.1]
    refine br_f (by decide) (br_f (by decide) (br_f (by decide) (br_t rfl ⟨hi, vp_in_nI (by omega) (by omega), hi, vp_in_nI (by omega) (by omega), ?_⟩)))
    refine xs_smaller vl.2 vr.2 (fun z => h _ vr.2 (fun y hy => ?_) (fun _ => Or.inr (Or.inl ⟨e0, Or.inr rfl⟩))) (fun z => h _ vl.2 (fun y hy => ?_) (fun _ => Or.inr (Or.inl ⟨e0, Or.inl rfl⟩)))
    · rcases hy with ⟨k, hy⟩ | ⟨k, hy | hy⟩ | ⟨k, hy⟩ <;> omega
    · rcases hy with ⟨k, hy⟩ | ⟨k, hy | hy⟩ | ⟨k, hy⟩ <;> omega
  · obtain ⟨el, er, hl, hr⟩ := hlr (Or.inr e0)
    rw [e0, el, er]
    refine br_f (by decide) (br_f (by decide) (br_f (by decide) (br_f (by decide) (br_t rfl ⟨hi, hi, ?_⟩))))
    refine xt_two hC hl hr hfe he (P := fun k => gr_Sp C K L R (fun i c => tok i = lf c) (L c) f k) (fun k a b => hS _ f k hl a b) hV hs hT _ (fun x hx h1 h2 h3 h5 => h x hx (fun y hy => ?_) (fun w => ?_))
    · rcases hy with ⟨k, hy⟩ | ⟨k, hy⟩ | ⟨k, hy | ⟨p, hy⟩ | ⟨m, a, b, p, hy⟩⟩
      · omega
      · omega
      · rw [hy]; exact h1
      · rw [hy]; exact h2 p
      · rw [hy]; exact h3 m a b p
    · exact Or.inr (Or.inr ⟨e0, h5 w⟩)
/-- row f of the tails against the values t; the other rows are ta0's -/
def xt_rel (C f : Nat) (ta0 ta : Nat → Int32) (t : Nat → Nat) : Prop := (∀ k c, c < 16 → k ≠ f → ta (k * 16 + c) = ta0 (k * 16 + c)) ∧ ∀ c, c < C → ta (f * 16 + c) = nI (t c) ∧ t c ≤ 16777216
theorem xt_60 (G : gx_ok C K L R kd lf rg) {ta0 : Nat → Int32} {D E s : Nat → Nat} {T : Nat → Nat → Nat} {f e : Nat} (hfe : f < e) (he : e ≤ 13)
    (hS : gx_S C K L R (fun i c => tok i = lf c) st e) (hV : gx_V C ls D)
    (hT : ∀ k c, f < k → k < e → c < C → ta0 (k * 16 + c) = nI (T k c) ∧ T k c ≤ 16777216)
    (GE : fx_Good C 16777216 (of_T K L R (fun i c => tok i = lf c) (gr_Sp C K L R (fun i c => tok i = lf c)) D T f e) E) (post : St2 → Prop)
    (J40 : Int32 → Int32 → (Nat → Int32) → (Nat → Int32) → (Nat → Int32) → (Nat → Int32) → (Nat → Int32) → (Nat → Int32) → (Nat → Int32) → Prop) (x5 : Int32)
    (hJ : ∀ x4 ta t, xt_rel C f ta0 ta t → fx_In C (of_T K L R (fun i c => tok i = lf c) (gr_Sp C K L R (fun i c => tok i = lf c)) D T f e) E s C t → (x4 = 0 → ∀ u, u < C → t u = s u) →
      J40 x4 (x5 + 1) kd lf rg ls tok st ta) :
    ∀ n c x4 ta t, c ≤ C → C - c < n → xt_rel C f ta0 ta t → fx_In C (of_T K L R (fun i c => tok i = lf c) (gr_Sp C K L R (fun i c => tok i = lf c)) D T f e) E s c t → (x4 = 0 → ∀ u, u < C → t u = s u) →
      wX_measureTails_60 post J40 (nI f) (nI e) (nI (f * 16)) x5 (nI C) fl ft fo fr fi n x4 (nI c) kd lf rg ls tok st ta := by
  have hC := G.1
  intro n
  induction n with
  | zero => intro c x4 ta t _ h; omega
  | succ n ih =>
    intro c x4 ta t hc hn hr hI hx
    by_cases z : c < C
    · refine br_f (nI_ge z (by omega)) (xt_rule G z hfe he hS hV hr.2 (T := T) (fun k c a b d => by rw [hr.1 k c (by omega) (by omega)]; exact hT k c a b d) _ (fun x hxB hl ho => ?_))
      rw [nI_add, show (nI (f * 16 + c)).toNatClampNeg = f * 16 + c from nI_clamp (by omega), (hr.2 c z).1]
      have hin : vp_in (nI (f * 16 + c)) 224 := vp_in_nI (by omega) (by omega)
      have hB := (hr.2 c z).2
      refine ⟨hin, pk_le (t c) x (fun hle => nm_r (nI_1 c) (ih (c + 1) x4 ta t z (by omega) hr (fx_in_skip (of_T_m _ _ _ f e (gx_wf G)) hI (fun y hy => Nat.le_trans hle (hl y hy))) hx))
        (fun hlt => ⟨hin, nm_e (nm_r (nI_1 c) (ih (c + 1) 1 _ (fun u => if u = c then x else t u) z (by omega) ⟨fun k c' a b => ?_, fun c' hc' => ?_⟩
          (fx_in_set GE (of_T_m _ _ _ f e (gx_wf G)) hI z hlt (ho (by omega)) hl) (fun h => absurd h (by decide))))⟩)⟩
      · rw [pk_un (by omega)]
        exact hr.1 k c' a b
      · try dsimp only
        by_cases e2 : c' = c
        · rw [if_pos e2, e2, pk_us]; exact ⟨rfl, hxB⟩
        · rw [if_neg e2, pk_un (by omega)]; exact hr.2 c' hc'
    · have e2 : c = C := by omega
      subst e2
      exact br_t (nI_le (Nat.le_refl _) (by omega)) (nm_e (hJ x4 ta t hr hI hx))
theorem xt_40 (G : gx_ok C K L R kd lf rg) {ta0 : Nat → Int32} {D E : Nat → Nat} {T : Nat → Nat → Nat} {f e : Nat} (hfe : f < e) (he : e ≤ 13)
    (hS : gx_S C K L R (fun i c => tok i = lf c) st e) (hV : gx_V C ls D)
    (hT : ∀ k c, f < k → k < e → c < C → ta0 (k * 16 + c) = nI (T k c) ∧ T k c ≤ 16777216)
    (GE : fx_Good C 16777216 (of_T K L R (fun i c => tok i = lf c) (gr_Sp C K L R (fun i c => tok i = lf c)) D T f e) E) (post : St2 → Prop)
    (hp : ∀ ta, xt_rel C f ta0 ta E → post (nI C, fl, ft, fo, fr, fi, kd, lf, rg, ls, tok, st, ta)) :
    ∀ n k x4 ta s, k ≤ C → C - k < n → xt_rel C f ta0 ta s → fx_R C 16777216 (fun _ => true) E k s → (x4 = 0 → ∀ u, u < C → s u = E u) →
      wX_measureTails_40 post (nI f) (nI e) (nI (f * 16)) (nI C) fl ft fo fr fi n x4 (nI k) kd lf rg ls tok st ta := by
  have hC := G.1
  have fin : ∀ ta s, xt_rel C f ta0 ta s → (∀ u, u < C → s u = E u) → post (nI C, fl, ft, fo, fr, fi, kd, lf, rg, ls, tok, st, ta) :=
    fun ta s hr e => hp ta ⟨hr.1, fun l hl => by rw [← e l hl]; exact hr.2 l hl⟩
  intro n
  induction n with
  | zero => intro k x4 ta s _ h; omega
  | succ n ih =>
    intro k x4 ta s hk hn hr hR hx
    by_cases z : x4 = 0
    · exact br_t z (fin ta s hr (hx z))
    · refine br_f z (pk_le C k (fun h => fin ta s hr (fx_fin GE (fun _ _ _ _ _ => rfl) hR (by rw [fx_cnt_all]; exact h))) (fun h => ⟨C + 1, ?_⟩))
      refine xt_60 G hfe he hS hV hT GE post _ (nI k) (fun y ta' t hr' hI hy => ?_) (C + 1) 0 0 ta s (by omega) (by omega) hr (fx_in0 hR) (fun _ u _ => rfl)
      rw [nI_1]
      exact ih (k + 1) y ta' t (by omega) (by omega) hr' (fx_in_end GE (fun _ _ _ _ _ => rfl) hR hI) (fun e => fx_in_stop GE hR hI (hy e))
theorem xt_8 (G : gx_ok C K L R kd lf rg) {ta0 : Nat → Int32} {D E : Nat → Nat} {T : Nat → Nat → Nat} {f e : Nat} (hfe : f < e) (he : e ≤ 13)
    (hS : gx_S C K L R (fun i c => tok i = lf c) st e) (hV : gx_V C ls D)
    (hT : ∀ k c, f < k → k < e → c < C → ta0 (k * 16 + c) = nI (T k c) ∧ T k c ≤ 16777216)
    (GE : fx_Good C 16777216 (of_T K L R (fun i c => tok i = lf c) (gr_Sp C K L R (fun i c => tok i = lf c)) D T f e) E) (post : St2 → Prop)
    (hp : ∀ ta, xt_rel C f ta0 ta E → post (nI C, fl, ft, fo, fr, fi, kd, lf, rg, ls, tok, st, ta)) :
    ∀ n c ta, c ≤ C → C - c < n → (∀ k c, c < 16 → k ≠ f → ta (k * 16 + c) = ta0 (k * 16 + c)) → (∀ u, u < c → ta (f * 16 + u) = nI 16777216) →
      wX_measureTails_8 post (nI f) (nI e) (nI (f * 16)) (nI C) fl ft fo fr fi n (nI c) kd lf rg ls tok st ta := by
  have hC := G.1
  intro n
  induction n with
  | zero => intro c ta _ h; omega
  | succ n ih =>
    intro c ta hc hn h0 hu
    refine pk_le C c (fun h => ⟨C + 1, ?_⟩) (fun h => ?_)
    · have e2 : c = C := by omega
      subst e2
      exact xt_40 G hfe he hS hV hT GE post hp (c + 1) 0 1 ta (fun _ => 16777216) (by omega) (by omega) ⟨h0, fun v hv => ⟨hu v hv, Nat.le_refl _⟩⟩ (fx_R0 GE (fun _ _ => rfl)) (fun h => absurd h (by decide))
    · rw [nI_add, show (nI (f * 16 + c)).toNatClampNeg = f * 16 + c from nI_clamp (by omega)]
      refine ⟨vp_in_nI (by omega) (by omega), nm_e (nm_r (nI_1 c) (ih (c + 1) _ (by omega) (by omega) (fun k c' a b => ?_) (fun u hu' => ?_)))⟩
      · rw [pk_un (by omega)]
        exact h0 k c' a b
      · by_cases e2 : u = c
        · rw [e2, pk_us]; rfl
        · rw [pk_un (by omega)]; exact hu u (by omega)
theorem xt_row (G : gx_ok C K L R kd lf rg) {ta : Nat → Int32} {D : Nat → Nat} {T : Nat → Nat → Nat} {f e : Nat} (hfe : f < e) (he : e ≤ 13)
    (hS : gx_S C K L R (fun i c => tok i = lf c) st e) (hV : gx_V C ls D)
    (hT : ∀ k c, f < k → k < e → c < C → ta (k * 16 + c) = nI (T k c) ∧ T k c ≤ 16777216) (post : St2 → Prop)
    (hp : ∀ ta' E, fx_Good C 16777216 (of_T K L R (fun i c => tok i = lf c) (gr_Sp C K L R (fun i c => tok i = lf c)) D T f e) E → xt_rel C f ta ta' E →
      post (nI C, fl, ft, fo, fr, fi, kd, lf, rg, ls, tok, st, ta')) :
    wpX_measureTails post (nI C, fl, ft, fo, fr, fi, kd, lf, rg, ls, tok, st, ta) (nI f) (nI e) := by
  obtain ⟨E, GE⟩ := fx_good (B := 16777216) (of_T_m (tk := fun i c => tok i = lf c) (gr_Sp C K L R (fun i c => tok i = lf c)) D T f e (gx_wf G)) (of_T_w _ _ _ _ f e (gx_wf G))
  exact nm_r (nx_16m f) ⟨C + 1, xt_8 G hfe he hS hV hT GE post (fun ta' h => hp ta' E GE h) (C + 1) 0 ta (by omega) (by omega) (fun _ _ _ _ => rfl) (fun u hu => absurd hu (by omega))⟩
theorem xt_37 (G : gx_ok C K L R kd lf rg) {D : Nat → Nat} {e ro : Nat} (he : e ≤ 13) (hro : ro < C)
    (hS : gx_S C K L R (fun i c => tok i = lf c) st e) (hV : gx_V C ls D) (post : Int32 → St2 → Prop)
    (hp : ∀ ta T, (∀ c, c < C → T e c = D c) → (∀ i, i < e → fx_Good C 16777216 (of_T K L R (fun i c => tok i = lf c) (gr_Sp C K L R (fun i c => tok i = lf c)) D T i e) (T i)) →
      T 0 ro ≤ 16777216 → post (nI (T 0 ro)) (nI C, fl, ft, fo, nI ro, fi, kd, lf, rg, ls, tok, st, ta)) :
    ∀ n k ta T, k ≤ e → k < n → (∀ i c, k ≤ i → i ≤ e → c < C → ta (i * 16 + c) = nI (T i c) ∧ T i c ≤ 16777216) → (∀ c, c < C → T e c = D c) →
      (∀ i, k ≤ i → i < e → fx_Good C 16777216 (of_T K L R (fun i c => tok i = lf c) (gr_Sp C K L R (fun i c => tok i = lf c)) D T i e) (T i)) →
      wX_tokensMissing_37 post (nI e) n (nI k + (-1)) (nI C) fl ft fo (nI ro) fi kd lf rg ls tok st ta := by
  have hC := G.1
  intro n
  induction n with
  | zero => intro k ta T _ h; omega
  | succ n ih =>
    intro k ta T hk hn hv hD hG
    cases k with
    | zero =>
      have h0 := hv 0 ro (Nat.le_refl _) (by omega) hro
      rw [show 0 * 16 + ro = ro from by omega] at h0
      refine br_t (by decide) ⟨vp_in_nI (by omega) (by omega), ?_⟩
      rw [show (nI ro).toNatClampNeg = ro from nI_clamp (by omega), h0.1]
      exact hp ta T hD (fun i hi => hG i (Nat.zero_le _) hi) h0.2
    | succ j =>
      rw [pk_m1]
      refine br_f (nI_pos (by omega)) (xt_row G (by omega) he hS hV (T := T) (fun k c a b d => hv k c (by omega) (by omega) d) _ (fun ta' E GE hr => ?_))
      have up : ∀ k, j < k → (fun i => if i = j then E else T i) k = T k := fun k h => if_neg (by omega)
      refine nm_e (ih j ta' (fun i => if i = j then E else T i) (by omega) (by omega) (fun i c a b d => ?_) (fun c d => ?_) (fun i a b => ?_))
      · try dsimp only
        by_cases e2 : i = j
        · rw [if_pos e2, e2]; exact hr.2 c d
        · rw [if_neg e2, hr.1 i c (by omega) e2]; exact hv i c (by omega) b d
      · try dsimp only
        rw [if_neg (by omega)]
        exact hD c d
      · rw [of_T_ext (U := T) (fun k h => up k (by omega))]
        try dsimp only
        by_cases e2 : i = j
        · rw [if_pos e2, e2]; exact GE
        · rw [if_neg e2]; exact hG i (by omega) b
theorem xt_2 (G : gx_ok C K L R kd lf rg) {D : Nat → Nat} {e ro : Nat} (he : e ≤ 13) (hro : ro < C)
    (hS : gx_S C K L R (fun i c => tok i = lf c) st e) (hV : gx_V C ls D) (post : Int32 → St2 → Prop)
    (hp : ∀ ta T, (∀ c, c < C → T e c = D c) → (∀ i, i < e → fx_Good C 16777216 (of_T K L R (fun i c => tok i = lf c) (gr_Sp C K L R (fun i c => tok i = lf c)) D T i e) (T i)) →
      T 0 ro ≤ 16777216 → post (nI (T 0 ro)) (nI C, fl, ft, fo, nI ro, fi, kd, lf, rg, ls, tok, st, ta)) :
    ∀ n c ta, c ≤ C → C - c < n → (∀ u, u < c → ta (e * 16 + u) = nI (D u)) → wX_tokensMissing_2 post (nI e) (nI C) fl ft fo (nI ro) fi n (nI c) kd lf rg ls tok st ta := by
  have hC := G.1
  intro n
  induction n with
  | zero => intro c ta _ h; omega
  | succ n ih =>
    intro c ta hc hn hu
    refine pk_le C c (fun h => ?_) (fun h => ⟨vp_in_nI (by omega) (by omega), ?_⟩)
    · have e2 : c = C := by omega
      subst e2
      refine nm_r (Int32.sub_eq_add_neg _ _) ⟨e + 1, xt_37 G he hro hS hV post hp (e + 1) e ta (fun _ => D) (Nat.le_refl _) (by omega) (fun i c' a b d => ?_) (fun _ _ => rfl) (fun i a b => absurd a (by omega))⟩
      have e3 : i = e := by omega
      rw [e3]
      exact ⟨hu c' d, (hV c' d).2⟩
    · rw [nx_16, show (nI (e * 16 + c)).toNatClampNeg = e * 16 + c from nI_clamp (by omega), show (nI c).toNatClampNeg = c from nI_clamp (by omega), (hV c h).1]
      refine ⟨vp_in_nI (by omega) (by omega), nm_e (nm_r (nI_1 c) (ih (c + 1) _ (by omega) (by omega) (fun u hu' => ?_)))⟩
      by_cases e2 : u = c
      · rw [e2, pk_us]
      · rw [pk_un (by omega)]; exact hu u (by omega)
theorem xt_missing (G : gx_ok C K L R kd lf rg) {ta : Nat → Int32} {D : Nat → Nat} {e ro : Nat} (he : e ≤ 13) (hro : ro < C)
    (hS : gx_S C K L R (fun i c => tok i = lf c) st e) (hV : gx_V C ls D) (post : Int32 → St2 → Prop)
    (hp : ∀ ta T, (∀ c, c < C → T e c = D c) → (∀ i, i < e → fx_Good C 16777216 (of_T K L R (fun i c => tok i = lf c) (gr_Sp C K L R (fun i c => tok i = lf c)) D T i e) (T i)) →
      T 0 ro ≤ 16777216 → post (nI (T 0 ro)) (nI C, fl, ft, fo, nI ro, fi, kd, lf, rg, ls, tok, st, ta)) :
    wpX_tokensMissing post (nI C, fl, ft, fo, nI ro, fi, kd, lf, rg, ls, tok, st, ta) (nI e) :=
  ⟨C + 1, xt_2 G he hro hS hV post hp (C + 1) 0 ta (by omega) (by omega) (fun u hu => absurd hu (by omega))⟩
end
