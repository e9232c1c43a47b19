/-! the component's cells: their least lengths -/
def gx_ok (C : Nat) (K L R : Nat → Nat) (kd lf rg : Nat → Int32) : Prop :=
  C ≤ 16 ∧ ∀ c, c < C → kd c = nI (K c) ∧ K c ≤ 4 ∧ ((K c = 3 ∨ K c = 4) → lf c = nI (L c) ∧ rg c = nI (R c) ∧ L c < C ∧ R c < C)
def gx_V (N : Nat) (a : Nat → Int32) (s : Nat → Nat) : Prop := ∀ v, v < N → a v = nI (s v) ∧ s v ≤ 16777216
theorem gx_wf {C : Nat} {K L R : Nat → Nat} {kd lf rg : Nat → Int32} (G : gx_ok C K L R kd lf rg) : gr_wf C K L R :=
  fun c hc h => ((G.2 c hc).2.2 h).2.2
theorem gx_K4 {k : Nat} (h : k ≤ 4) : k = 0 ∨ k = 1 ∨ k = 2 ∨ k = 3 ∨ k = 4 := by omega
theorem gx_V_upd {N : Nat} {a : Nat → Int32} {s : Nat → Nat} (h : gx_V N a s) {c x : Nat} (hx : x ≤ 16777216) : gx_V N (upd a c (nI x)) (fun u => if u = c then x else s u) := by
  intro u hu
  dsimp only
  by_cases e : u = c
  · rw [if_pos e, e, pk_us]; exact ⟨rfl, hx⟩
  · rw [if_neg e, pk_un e]; exact h u hu
theorem xs_smaller {a b : Nat} (ha : a ≤ 16777216) (hb : b ≤ 16777216) {post : Int32 → Prop} (h1 : b ≤ a → post (nI b)) (h2 : a < b → post (nI a)) : wpX_smaller post () (nI a) (nI b) :=
  pk_le b a h1 h2
theorem xs_joined {a b : Nat} (ha : a ≤ 16777216) (hb : b ≤ 16777216) {post : Int32 → Prop} (h1 : 16777216 ≤ a + b → post (nI 16777216)) (h2 : a + b < 16777216 → post (nI (a + b))) : wpX_joined post () (nI a) (nI b) :=
  nm_r (nI_add a b) (pk_le 16777216 (a + b) h1 h2)
section
variable {C : Nat} {K L R : Nat → Nat} {fl ft fo fr fi : Int32} {kd lf rg tok st ta : Nat → Int32}
theorem xl_rule (G : gx_ok C K L R kd lf rg) {ls : Nat → Int32} {s : Nat → Nat} (hV : gx_V C ls s) {c : Nat} (hc : c < C) (post : Int32 → Prop)
    (h : ∀ x, x ≤ 16777216 → (∀ y, of_L K L R s c y → x ≤ y) → (x < 16777216 → of_L K L R s c x) → post (nI x)) :
    wpX_leastByRule post (nI C, fl, ft, fo, fr, fi, kd, lf, rg, ls, tok, st, ta) (nI c) := by
  have hC := G.1
  obtain ⟨hk, h4, hlr⟩ := G.2 c hc
  have hi : vp_in (nI c) 16 := vp_in_nI (by omega) (by omega)
  unfold wpX_leastByRule
  dsimp only
  rw [show (nI c).toNatClampNeg = c from nI_clamp (by omega)]
  refine ⟨hi, nm_r hk ?_⟩
  rcases gx_K4 h4 with e | e | e | e | e
  · rw [e]
    refine br_t (by decide) (h 16777216 (Nat.le_refl _) (fun y hy => ?_) (fun z => absurd z (by omega)))
    rcases hy with ⟨k, hy⟩ | ⟨k, hy⟩ | ⟨k, hy | hy⟩ | ⟨k, hy⟩ <;> omega
  · rw [e]
    exact br_f (by decide) (br_f (by decide) (br_t rfl (h 0 (by omega) (fun y _ => by omega) (fun _ => Or.inl ⟨e, rfl⟩))))
  · rw [e]
    refine br_f (by decide) (br_f (by decide) (br_f (by decide) (br_t rfl (h 1 (by omega) (fun y hy => ?_) (fun _ => Or.inr (Or.inl ⟨e, rfl⟩))))))
    rcases hy with ⟨k, hy⟩ | ⟨k, hy⟩ | ⟨k, hy | hy⟩ | ⟨k, hy⟩ <;> omega
  · obtain ⟨el, er, hl, hr⟩ := hlr (Or.inl e)
    have vl := hV _ hl
    have vr := hV _ hr
    rw [e, el, er, show (nI (L c)).toNatClampNeg = L c from nI_clamp (by omega), show (nI (R c)).toNatClampNeg = R c from nI_clamp (by omega), vl.1, vr.1]
    refine br_f (by decide) (br_f (by decide) (br_f (by decide) (br_f (by decide) (br_t rfl ⟨hi, vp_in_nI (by omega) (by omega), hi, vp_in_nI (by omega) (by omega), ?_⟩))))
    refine xs_smaller vl.2 vr.2 (fun z => h _ vr.2 (fun y hy => ?_) (fun _ => Or.inr (Or.inr (Or.inl ⟨e, Or.inr rfl⟩)))) (fun z => h _ vl.2 (fun y hy => ?_) (fun _ => Or.inr (Or.inr (Or.inl ⟨e, Or.inl rfl⟩))))
    · rcases hy with ⟨k, hy⟩ | ⟨k, hy⟩ | ⟨k, hy | hy⟩ | ⟨k, hy⟩ <;> omega
    · rcases hy with ⟨k, hy⟩ | ⟨k, hy⟩ | ⟨k, hy | hy⟩ | ⟨k, hy⟩ <;> omega
  · obtain ⟨el, er, hl, hr⟩ := hlr (Or.inr e)
    have vl := hV _ hl
    have vr := hV _ hr
    rw [e, el, er, show (nI (L c)).toNatClampNeg = L c from nI_clamp (by omega), show (nI (R c)).toNatClampNeg = R c from nI_clamp (by omega), vl.1, vr.1]
    refine br_f (by decide) (br_f (by decide) (br_f (by decide) (br_f (by decide) (br_f (by decide) (br_t rfl ⟨hi, vp_in_nI (by omega) (by omega), hi, vp_in_nI (by omega) (by omega), ?_⟩)))))
    refine xs_joined vl.2 vr.2 (fun z => h _ (by omega) (fun y hy => ?_) (fun z2 => absurd z2 (by omega))) (fun z => h _ (by omega) (fun y hy => ?_) (fun _ => Or.inr (Or.inr (Or.inr ⟨e, rfl⟩))))
    · rcases hy with ⟨k, hy⟩ | ⟨k, hy⟩ | ⟨k, hy | hy⟩ | ⟨k, hy⟩ <;> omega
    · rcases hy with ⟨k, hy⟩ | ⟨k, hy⟩ | ⟨k, hy | hy⟩ | ⟨k, hy⟩ <;> omega
theorem xc_44 (G : gx_ok C K L R kd lf rg) {D s : Nat → Nat} (GD : fx_Good C 16777216 (of_L K L R) D) (hs : ∀ v, v < C → s v ≤ 16777216) (post : St2 → Prop)
    (J28 : Int32 → Int32 → (Nat → Int32) → (Nat → Int32) → (Nat → Int32) → (Nat → Int32) → (Nat → Int32) → (Nat → Int32) → (Nat → Int32) → Prop) (x2 : Int32)
    (hJ : ∀ x1 ls t, gx_V C ls t → fx_In C (of_L K L R) D s C t → (x1 = 0 → ∀ u, u < C → t u = s u) → J28 x1 (x2 + 1) kd lf rg ls tok st ta) :
    ∀ f c x1 ls t, c ≤ C → C - c < f → gx_V C ls t → fx_In C (of_L K L R) D s c t → (x1 = 0 → ∀ u, u < C → t u = s u) →
      wX_measureCells_44 post J28 x2 (nI C) fl ft fo fr fi f x1 (nI c) kd lf rg ls tok st ta := by
  have hC := G.1
  intro f
  induction f with
  | zero => intro c x1 ls t _ h; omega
  | succ f ih =>
    intro c x1 ls t hc hf hV hI hx
    by_cases z : c < C
    · refine br_f (nI_ge z (by omega)) (xl_rule G hV z _ (fun x hxB hl ho => ?_))
      rw [show (nI c).toNatClampNeg = c from nI_clamp (by omega), (hV c z).1]
      refine ⟨vp_in_nI (by omega) (by omega), ?_⟩
      have hB := (hV c z).2
      refine pk_le (t c) x (fun hle => nm_r (nI_1 c) (ih (c + 1) x1 ls t z (by omega) hV (fx_in_skip (of_L_m (gx_wf G)) hI (fun y hy => Nat.le_trans hle (hl y hy))) hx))
        (fun hlt => ⟨vp_in_nI (by omega) (by omega), nm_e (nm_r (nI_1 c) (ih (c + 1) 1 (upd ls c (nI x)) (fun u => if u = c then x else t u) z (by omega) (gx_V_upd hV hxB)
          (fx_in_set GD (of_L_m (gx_wf G)) hI z hlt (ho (by omega)) hl) (fun h => absurd h (by decide))))⟩)
    · have e : c = C := by omega
      subst e
      exact br_t (nI_le (Nat.le_refl _) (by omega)) (nm_e (hJ x1 ls t hV hI hx))
theorem xc_28 (G : gx_ok C K L R kd lf rg) {D : Nat → Nat} (GD : fx_Good C 16777216 (of_L K L R) D) (post : St2 → Prop)
    (hp : ∀ ls, gx_V C ls D → post (nI C, fl, ft, fo, fr, fi, kd, lf, rg, ls, tok, st, ta)) :
    ∀ f k x1 ls s, k ≤ C → C - k < f → gx_V C ls s → fx_R C 16777216 (fun _ => true) D k s → (x1 = 0 → ∀ u, u < C → s u = D u) →
      wX_measureCells_28 post (nI C) fl ft fo fr fi f x1 (nI k) kd lf rg ls tok st ta := by
  have hC := G.1
  have fin : ∀ ls s, gx_V C ls s → (∀ u, u < C → s u = D u) → post (nI C, fl, ft, fo, fr, fi, kd, lf, rg, ls, tok, st, ta) :=
    fun ls s hV e => hp ls (fun v hv => by rw [← e v hv]; exact hV v hv)
  intro f
  induction f with
  | zero => intro k x1 ls s _ h; omega
  | succ f ih =>
    intro k x1 ls s hk hf hV hR hx
    by_cases z : x1 = 0
    · exact br_t z (fin ls s hV (hx z))
    · refine br_f z (pk_le C k (fun h => fin ls s hV (fx_fin GD (fun _ _ _ _ _ => rfl) hR (by rw [fx_cnt_all]; exact h))) (fun h => ⟨C + 1, ?_⟩))
      refine xc_44 G GD (fun v hv => (hV v hv).2) post _ (nI k) (fun y ls' t hV' hI hy => ?_) (C + 1) 0 0 ls s (by omega) (by omega) hV (fx_in0 hR) (fun _ u _ => rfl)
      rw [nI_1]
      exact ih (k + 1) y ls' t (by omega) (by omega) hV' (fx_in_end GD (fun _ _ _ _ _ => rfl) hR hI) (fun e => fx_in_stop GD hR hI (hy e))
theorem xc_2 (G : gx_ok C K L R kd lf rg) {D : Nat → Nat} (GD : fx_Good C 16777216 (of_L K L R) D) (post : St2 → Prop)
    (hp : ∀ ls, gx_V C ls D → post (nI C, fl, ft, fo, fr, fi, kd, lf, rg, ls, tok, st, ta)) :
    ∀ f c ls, c ≤ C → C - c < f → (∀ u, u < c → ls u = nI 16777216) → wX_measureCells_2 post (nI C) fl ft fo fr fi f (nI c) kd lf rg ls tok st ta := by
  have hC := G.1
  intro f
  induction f with
  | zero => intro c ls _ h; omega
  | succ f ih =>
    intro c ls hc hf hu
    refine pk_le C c (fun h => ⟨C + 1, ?_⟩) (fun h => ⟨vp_in_nI (by omega) (by omega), nm_e (nm_r (nI_1 c) (ih (c + 1) _ (by omega) (by omega) ?_))⟩)
    · have e : c = C := by omega
      subst e
      exact xc_28 G GD post hp (c + 1) 0 1 ls (fun _ => 16777216) (by omega) (by omega) (fun v hv => ⟨hu v hv, Nat.le_refl _⟩) (fx_R0 GD (fun _ _ => rfl)) (fun h => absurd h (by decide))
    · intro u hu'
      rw [nI_clamp (by omega)]
      by_cases e : u = c
      · rw [e, pk_us]; rfl
      · rw [pk_un e]; exact hu u (by omega)
theorem xc_all (G : gx_ok C K L R kd lf rg) {ls : Nat → Int32} (post : St2 → Prop)
    (hp : ∀ ls D, fx_Good C 16777216 (of_L K L R) D → gx_V C ls D → post (nI C, fl, ft, fo, fr, fi, kd, lf, rg, ls, tok, st, ta)) :
    wpX_measureCells post (nI C, fl, ft, fo, fr, fi, kd, lf, rg, ls, tok, st, ta) := by
  obtain ⟨D, GD⟩ := fx_good (B := 16777216) (of_L_m (gx_wf G)) (of_L_w _ (gx_wf G))
  exact ⟨C + 1, xc_2 G GD post (fun ls hV => hp ls D GD hV) (C + 1) 0 ls (by omega) (by omega) (fun u hu => absurd hu (by omega))⟩
end
