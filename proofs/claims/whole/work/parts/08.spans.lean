/-! the reference's spans -/
theorem nx_14 (a b : Nat) : nI a * 14 + nI b = nI (a * 14 + b) := by
  show nI a * nI 14 + nI b = _
  rw [pk_mul, nI_add]
theorem nx_196 (a b c : Nat) : (nI a * 14 + nI b) * 14 + nI c = nI ((a * 14 + b) * 14 + c) := by rw [nx_14, nx_14]
theorem nx_b1 : vp_nar .boolean 1 = 1 := rfl
theorem nx_b0 : vp_nar .boolean 0 = 0 := rfl
def ys_rel (sp : Nat → Int32) (t : Nat → Nat) : Prop := ∀ v, v < 3136 → (sp v = 0 → t v = 1) ∧ (¬ sp v = 0 → t v = 0)
theorem of_S_inv {C : Nat} {K L R : Nat → Nat} {tk : Nat → Nat → Prop} {n : Nat} {s : Nat → Nat} {c i j x : Nat} (hn : n ≤ 13) (hi : i ≤ 13) (hj : j ≤ 13) (h : of_S C K L R tk n s ((c * 14 + i) * 14 + j) x) :
    ((K c = 1 ∧ i = j) ∨ (K c = 2 ∧ j = i + 1 ∧ tk i c) ∨ (K c = 3 ∧ (s ((L c * 14 + i) * 14 + j) = 0 ∨ s ((R c * 14 + i) * 14 + j) = 0)) ∨
      (K c = 4 ∧ ∃ k, i ≤ k ∧ k ≤ j ∧ s ((L c * 14 + i) * 14 + k) = 0 ∧ s ((R c * 14 + k) * 14 + j) = 0)) := by
  obtain ⟨c', i', j', e, h1, h2, h3, _, h⟩ := h
  have a : c' = c := by omega
  have b : i' = i := by omega
  have d : j' = j := by omega
  subst a b d
  exact h
section
variable {C : Nat} {K L R : Nat → Nat} {cc ml al ro sz op : Int32} {kd lf rg wd re : Nat → Int32}
theorem ys_141 {sp : Nat → Int32} {t : Nat → Nat} {l r i j : Nat} (hl : l < 16) (hr : r < 16) (hj : j ≤ 13) (hz : ys_rel sp t) (post : Int32 → Prop)
    (h1 : ∀ k, i ≤ k → k ≤ j → t ((l * 14 + i) * 14 + k) = 0 → t ((r * 14 + k) * 14 + j) = 0 → post 1)
    (h0 : (∀ k, i ≤ k → k ≤ j → ¬ (t ((l * 14 + i) * 14 + k) = 0 ∧ t ((r * 14 + k) * 14 + j) = 0)) → post 0) :
    ∀ n k, i ≤ k → k ≤ j + 1 → j + 1 - k < n → (∀ m, i ≤ m → m < k → ¬ (t ((l * 14 + i) * 14 + m) = 0 ∧ t ((r * 14 + m) * 14 + j) = 0)) →
      wY_spanShown_141 post (nI i) (nI j) (nI l) (nI r) cc ml al ro sz op kd lf rg wd sp re n (nI k) := by
  intro n
  induction n with
  | zero => intro k _ _ h; omega
  | succ n ih =>
    intro k hik hkj hn hm
    have next : k ≤ j → ¬ (t ((l * 14 + i) * 14 + k) = 0 ∧ t ((r * 14 + k) * 14 + j) = 0) → wY_spanShown_141 post (nI i) (nI j) (nI l) (nI r) cc ml al ro sz op kd lf rg wd sp re n (nI (k + 1)) := fun hk z =>
      ih (k + 1) (by omega) (by omega) (by omega) (fun m a b => by
        by_cases e : m = k
        · rw [e]; exact z
        · exact hm m a (by omega))
    refine pk_lt j k (fun h => h0 (fun m a b => hm m a (by omega))) (fun h => ?_)
    have q1 := hz ((l * 14 + i) * 14 + k) (by omega)
    have q2 := hz ((r * 14 + k) * 14 + j) (by omega)
    rw [nx_196, nx_196, show (nI ((l * 14 + i) * 14 + k)).toNatClampNeg = (l * 14 + i) * 14 + k from nI_clamp (by omega), show (nI ((r * 14 + k) * 14 + j)).toNatClampNeg = (r * 14 + k) * 14 + j from nI_clamp (by omega)]
    refine ⟨vp_in_nI (by omega) (by omega), br_c (fun z => nm_r (nI_1 k) (next h (fun w => by have := q1.1 z; omega))) (fun z => ⟨vp_in_nI (by omega) (by omega), br_c (fun y => nm_r (nI_1 k) (next h (fun w => by have := q2.1 y; omega))) (fun y => h1 k hik h (q1.2 z) (q2.2 y))⟩)⟩
theorem ys_shown (G : gx_ok C K L R kd lf rg) {sp : Nat → Int32} {t : Nat → Nat} {c i j nn : Nat} (hc : c < C) (hij : i ≤ j) (hj : j ≤ nn) (hn : nn ≤ 13) (hz : ys_rel sp t) (post : Int32 → Prop)
    (h1 : of_S C K L R (fun i c => wd i = lf c) nn t ((c * 14 + i) * 14 + j) 0 → post 1) (h0 : (∀ x, ¬ of_S C K L R (fun i c => wd i = lf c) nn t ((c * 14 + i) * 14 + j) x) → post 0) :
    wpY_spanShown post (nI C, ml, al, ro, sz, op, kd, lf, rg, wd, sp, re) (nI c) (nI i) (nI j) := by
  have hC := G.1
  obtain ⟨hk, h4, hlr⟩ := G.2 c hc
  have hi : vp_in (nI c) 16 := vp_in_nI (by omega) (by omega)
  have inv := fun x (h : of_S C K L R (fun i c => wd i = lf c) nn t ((c * 14 + i) * 14 + j) x) => of_S_inv hn (by omega) (by omega) h
  unfold wpY_spanShown
  dsimp only
  rw [show (nI c).toNatClampNeg = c from nI_clamp (by omega), show (nI i).toNatClampNeg = i from nI_clamp (by omega), hk]
  refine ⟨hi, nm_e ⟨hi, nm_e ⟨hi, ?_⟩⟩⟩
  rcases gx_K4 h4 with e | e | e | e | e
  · rw [e]
    refine br_t rfl (h0 (fun x hx => ?_))
    rcases inv x hx with ⟨k, _⟩ | ⟨k, _⟩ | ⟨k, _⟩ | ⟨k, _⟩ <;> omega
  · rw [e]
    refine br_f (by decide) ⟨hi, br_t rfl (pk_eq i j (fun e2 => h1 ⟨c, i, j, rfl, hc, hij, hj, rfl, Or.inl ⟨e, e2⟩⟩) (fun e2 => h0 (fun x hx => ?_)))⟩
    rcases inv x hx with ⟨k, _⟩ | ⟨k, _⟩ | ⟨k, _⟩ | ⟨k, _⟩ <;> omega
  · rw [e]
    refine br_f (by decide) ⟨hi, br_f (by decide) ⟨hi, br_t rfl (pk_eq j (i + 1) (fun e2 => ⟨vp_in_nI (by omega) (by omega), br_c (fun w => h1 ⟨c, i, j, rfl, hc, hij, hj, rfl, Or.inr (Or.inl ⟨e, e2, w⟩)⟩) (fun w => h0 (fun x hx => ?_))⟩) (fun e2 => h0 (fun x hx => ?_)) rfl (nI_1 i))⟩⟩
    · rcases inv x hx with ⟨k, _⟩ | ⟨k, _, q⟩ | ⟨k, _⟩ | ⟨k, _⟩
      · omega
      · exact w q
      · omega
      · omega
    · rcases inv x hx with ⟨k, _⟩ | ⟨k, q, _⟩ | ⟨k, _⟩ | ⟨k, _⟩ <;> omega
  · obtain ⟨el, er, hl, hr⟩ := hlr (Or.inl e)
    have q1 := hz ((L c * 14 + i) * 14 + j) (by omega)
    have q2 := hz ((R c * 14 + i) * 14 + j) (by omega)
    rw [e, el, er, nx_196, nx_196, show (nI ((L c * 14 + i) * 14 + j)).toNatClampNeg = (L c * 14 + i) * 14 + j from nI_clamp (by omega), show (nI ((R c * 14 + i) * 14 + j)).toNatClampNeg = (R c * 14 + i) * 14 + j from nI_clamp (by omega)]
    refine br_f (by decide) ⟨hi, br_f (by decide) ⟨hi, br_f (by decide) ⟨hi, br_t rfl ⟨vp_in_nI (by omega) (by omega), br_c (fun z => ⟨vp_in_nI (by omega) (by omega), br_c (fun y => h0 (fun x hx => ?_)) (fun y => ?_)⟩) (fun z => ?_)⟩⟩⟩⟩
    · rcases inv x hx with ⟨k, _⟩ | ⟨k, _⟩ | ⟨k, q | q⟩ | ⟨k, _⟩
      · omega
      · omega
      · have := q1.1 z; omega
      · have := q2.1 y; omega
      · omega
    · exact h1 ⟨c, i, j, rfl, hc, hij, hj, rfl, Or.inr (Or.inr (Or.inl ⟨e, Or.inr (q2.2 y)⟩))⟩
    · exact h1 ⟨c, i, j, rfl, hc, hij, hj, rfl, Or.inr (Or.inr (Or.inl ⟨e, Or.inl (q1.2 z)⟩))⟩
  · obtain ⟨el, er, hl, hr⟩ := hlr (Or.inr e)
    rw [e, el, er]
    refine br_f (by decide) ⟨hi, br_f (by decide) ⟨hi, br_f (by decide) ⟨hi, br_f (by decide) ⟨j + 2, ys_141 (by omega) (by omega) (by omega) hz post (fun k a b p q => h1 ⟨c, i, j, rfl, hc, hij, hj, rfl, Or.inr (Or.inr (Or.inr ⟨e, k, a, b, p, q⟩))⟩) (fun hno => h0 (fun x hx => ?_))
      (j + 2) i (Nat.le_refl _) (by omega) (by omega) (fun m a b => absurd a (by omega))⟩⟩⟩⟩
    rcases inv x hx with ⟨k, _⟩ | ⟨k, _⟩ | ⟨k, _⟩ | ⟨k, m, a, b, p, q⟩
    · omega
    · omega
    · omega
    · exact hno m a b ⟨p, q⟩
theorem ys_87 (G : gx_ok C K L R kd lf rg) {nn : Nat} (hn : nn ≤ 13) {D s : Nat → Nat} (GD : fx_Good 3136 1 (of_S C K L R (fun i c => wd i = lf c) nn) D) (post : SY → Prop)
    (J49 J65 J77 : Int32 → Int32 → (Nat → Int32) → (Nat → Int32) → (Nat → Int32) → (Nat → Int32) → (Nat → Int32) → (Nat → Int32) → Prop) (x3 : Int32) {c i : Nat} (hc : c < C) (hi : i ≤ nn)
    (hJ : ∀ x2 sp t, ys_rel sp t → fx_In 3136 (of_S C K L R (fun i c => wd i = lf c) nn) D s ((c * 14 + i) * 14 + (nn + 1)) t → (x2 = 0 → ∀ u, u < 3136 → t u = s u) → J77 x2 (nI (i + 1)) kd lf rg wd sp re) :
    ∀ f j x2 sp t, i ≤ j → j ≤ nn + 1 → nn + 1 - j < f → ys_rel sp t → fx_In 3136 (of_S C K L R (fun i c => wd i = lf c) nn) D s ((c * 14 + i) * 14 + j) t → (x2 = 0 → ∀ u, u < 3136 → t u = s u) →
      wY_evaluate_87 post J49 J65 J77 (nI nn) x3 (nI c) (nI i) (nI C) ml al ro sz op f x2 (nI j) kd lf rg wd sp re := by
  have hC := G.1
  have hm : fx_Mono 3136 (of_S C K L R (fun i c => wd i = lf c) nn) := of_S_m hn (by omega) (gx_wf G)
  intro f
  induction f with
  | zero => intro j x2 sp t _ _ h; omega
  | succ f ih =>
    intro j x2 sp t hij hjn hf hz hI hx
    refine pk_lt nn j (fun h => ?_) (fun h => ?_)
    · have e : j = nn + 1 := by omega
      subst e
      exact nm_r (nI_1 i) (hJ x2 sp t hz hI hx)
    · have q := hz ((c * 14 + i) * 14 + j) (by omega)
      have skip : (∀ y, of_S C K L R (fun i c => wd i = lf c) nn t ((c * 14 + i) * 14 + j) y → t ((c * 14 + i) * 14 + j) ≤ y) → fx_In 3136 (of_S C K L R (fun i c => wd i = lf c) nn) D s ((c * 14 + i) * 14 + (j + 1)) t :=
        fun hl => fx_in_skip (v := (c * 14 + i) * 14 + j) hm hI hl
      rw [nx_196, show (nI ((c * 14 + i) * 14 + j)).toNatClampNeg = (c * 14 + i) * 14 + j from nI_clamp (by omega)]
      refine ⟨vp_in_nI (by omega) (by omega), br_c (fun z => ys_shown G hc hij h hn hz _ (fun ho => br_f (by decide) ⟨vp_in_nI (by omega) (by omega), nm_e (nm_r (nI_1 j) (ih (j + 1) 1 _ (fun u => if u = (c * 14 + i) * 14 + j then 0 else t u) (by omega) (by omega) (by omega) (fun v hv => ?_) ?_ (fun w => absurd w (by decide))))⟩)
        (fun hno => br_t rfl (nm_r (nI_1 j) (ih (j + 1) x2 sp t (by omega) (by omega) (by omega) hz (skip (fun y hy => absurd hy (hno y))) hx)))) (fun z => nm_r (nI_1 j) (ih (j + 1) x2 sp t (by omega) (by omega) (by omega) hz (skip (fun y hy => by have := q.2 z; omega)) hx))⟩
      · rw [nx_b1]
        dsimp only
        by_cases e : v = (c * 14 + i) * 14 + j
        · rw [if_pos e, e, pk_us]
          exact ⟨fun w => absurd w (by decide), fun _ => rfl⟩
        · rw [if_neg e, pk_un e]
          exact hz v hv
      · have := q.1 z
        exact fx_in_set (v := (c * 14 + i) * 14 + j) GD hm hI (by omega) (by omega) ho (fun y _ => Nat.zero_le _)
theorem of_S_no {nn : Nat} (hn : nn ≤ 13) {tk : Nat → Nat → Prop} {s : Nat → Nat} {u : Nat} (h : ∀ c i j, c < C → i ≤ j → j ≤ nn → u ≠ (c * 14 + i) * 14 + j) : ∀ x, ¬ of_S C K L R tk nn s u x := by
  intro x ⟨c, i, j, e, hc, hij, hj, _⟩
  exact h c i j hc hij hj e
theorem ys_77 (G : gx_ok C K L R kd lf rg) {nn : Nat} (hn : nn ≤ 13) {D s : Nat → Nat} (GD : fx_Good 3136 1 (of_S C K L R (fun i c => wd i = lf c) nn) D) (post : SY → Prop)
    (J49 J65 : Int32 → Int32 → (Nat → Int32) → (Nat → Int32) → (Nat → Int32) → (Nat → Int32) → (Nat → Int32) → (Nat → Int32) → Prop) (x3 : Int32) {c : Nat} (hc : c < C)
    (hJ : ∀ x2 sp t, ys_rel sp t → fx_In 3136 (of_S C K L R (fun i c => wd i = lf c) nn) D s ((c + 1) * 196) t → (x2 = 0 → ∀ u, u < 3136 → t u = s u) → J65 x2 (nI (c + 1)) kd lf rg wd sp re) :
    ∀ f i x2 sp t, i ≤ nn + 1 → nn + 1 - i < f → ys_rel sp t → fx_In 3136 (of_S C K L R (fun i c => wd i = lf c) nn) D s ((c * 14 + i) * 14) t → (x2 = 0 → ∀ u, u < 3136 → t u = s u) →
      wY_evaluate_77 post J49 J65 (nI nn) x3 (nI c) (nI C) ml al ro sz op f x2 (nI i) kd lf rg wd sp re := by
  have hC := G.1
  intro f
  induction f with
  | zero => intro i x2 sp t _ h; omega
  | succ f ih =>
    intro i x2 sp t hin hf hz hI hx
    refine pk_lt nn i (fun h => nm_r (nI_1 c) (hJ x2 sp t hz (fx_in_gap hI (fun u a b => of_S_no hn (fun c' i' j' p q r => by omega))) hx)) (fun h => ⟨nn + 2, ?_⟩)
    exact ys_87 G hn GD post J49 J65 _ x3 hc h (fun y sp' t' hz' hI' hy => ih (i + 1) y sp' t' (by omega) (by omega) hz' (fx_in_gap hI' (fun u a b => of_S_no hn (fun c' i' j' p q r => by omega))) hy) (nn + 2) i x2 sp t (Nat.le_refl _) (by omega) (by omega) hz
      (fx_in_gap hI (fun u a b => of_S_no hn (fun c' i' j' p q r => by omega))) hx
theorem ys_65 (G : gx_ok C K L R kd lf rg) {nn : Nat} (hn : nn ≤ 13) {D s : Nat → Nat} (GD : fx_Good 3136 1 (of_S C K L R (fun i c => wd i = lf c) nn) D) (post : SY → Prop)
    (J49 : Int32 → Int32 → (Nat → Int32) → (Nat → Int32) → (Nat → Int32) → (Nat → Int32) → (Nat → Int32) → (Nat → Int32) → Prop) (x3 : Int32)
    (hJ : ∀ x2 sp t, ys_rel sp t → fx_In 3136 (of_S C K L R (fun i c => wd i = lf c) nn) D s 3136 t → (x2 = 0 → ∀ u, u < 3136 → t u = s u) → J49 x2 (x3 + 1) kd lf rg wd sp re) :
    ∀ f c x2 sp t, c ≤ C → C - c < f → ys_rel sp t → fx_In 3136 (of_S C K L R (fun i c => wd i = lf c) nn) D s (c * 196) t → (x2 = 0 → ∀ u, u < 3136 → t u = s u) →
      wY_evaluate_65 post J49 (nI nn) x3 (nI C) ml al ro sz op f x2 (nI c) kd lf rg wd sp re := by
  have hC := G.1
  intro f
  induction f with
  | zero => intro c x2 sp t _ h; omega
  | succ f ih =>
    intro c x2 sp t hc hf hz hI hx
    refine pk_le C c (fun h => nm_e (hJ x2 sp t hz (fx_in_gap hI (fun u a b => of_S_no hn (fun c' i' j' p q r => by omega))) hx)) (fun h => ⟨nn + 2, ?_⟩)
    exact ys_77 G hn GD post J49 _ x3 h (fun y sp' t' hz' hI' hy => ih (c + 1) y sp' t' h (by omega) hz' hI' hy) (nn + 2) 0 x2 sp t (by omega) (by omega) hz (by rw [show (c * 14 + 0) * 14 = c * 196 from by omega]; exact hI) hx
theorem of_S_d {nn : Nat} (hn : nn ≤ 13) {tk : Nat → Nat → Prop} : ∀ (s : Nat → Nat) (v x : Nat), v < 3136 → of_S C K L R tk nn s v x → fx_tri v = true := by
  intro s v x _ ⟨c, i, j, e, hc, hij, hj, _⟩
  exact decide_eq_true (by omega)
theorem ys_49 (G : gx_ok C K L R kd lf rg) {nn : Nat} (hn : nn ≤ 13) {D : Nat → Nat} (GD : fx_Good 3136 1 (of_S C K L R (fun i c => wd i = lf c) nn) D) (post : SY → Prop)
    (hp : ∀ sp, ys_rel sp D → ∃ n, wY_evaluate_178 post (nI nn) (nI C) ml al ro sz op n 1 0 kd lf rg wd sp re) :
    ∀ f k x2 sp s, k ≤ 1680 → 1680 - k < f → ys_rel sp s → fx_R 3136 1 fx_tri D k s → (x2 = 0 → ∀ u, u < 3136 → s u = D u) →
      wY_evaluate_49 post (nI nn) (nI C) ml al ro sz op f x2 (nI k) kd lf rg wd sp re := by
  have hC := G.1
  have fin : ∀ sp s, ys_rel sp s → (∀ u, u < 3136 → s u = D u) → ∃ n, wY_evaluate_178 post (nI nn) (nI C) ml al ro sz op n 1 0 kd lf rg wd sp re :=
    fun sp s hr e => hp sp (fun v hv => by rw [← e v hv]; exact hr v hv)
  have hcnt : fx_cnt fx_tri 3136 = 1680 := fx_tri_cnt 16
  intro f
  induction f with
  | zero => intro k x2 sp s _ h; omega
  | succ f ih =>
    intro k x2 sp s hk hf hr hR hx
    by_cases z : x2 = 0
    · exact br_t z (fin sp s hr (hx z))
    · refine br_f z (pk_le 1680 k (fun h => fin sp s hr (fx_fin GD (of_S_d hn) hR (by rw [hcnt]; exact h))) (fun h => ⟨C + 1, ?_⟩))
      refine ys_65 G hn GD post _ (nI k) (fun y sp' t hr' hI hy => ?_) (C + 1) 0 0 sp s (by omega) (by omega) hr (by rw [Nat.zero_mul]; exact fx_in0 hR) (fun _ u _ => rfl)
      rw [nI_1]
      exact ih (k + 1) y sp' t (by omega) (by omega) hr' (fx_in_end GD (of_S_d hn) hR hI) (fun e => fx_in_stop GD hR hI (hy e))
end
