/-! the languages on stretches of a word (gr_Sp), and the systems of offers of both sides -/
noncomputable def gr_ind (P : Prop) : Nat := @ite Nat P (Classical.propDecidable P) 0 1
theorem gr_ind_t {P : Prop} (h : P) : gr_ind P = 0 := by
  unfold gr_ind
  exact if_pos h
theorem gr_ind_f {P : Prop} (h : ¬ P) : gr_ind P = 1 := by
  unfold gr_ind
  exact if_neg h
theorem gr_ind_0 {P : Prop} (h : gr_ind P = 0) : P := by
  by_cases hp : P
  · exact hp
  · rw [gr_ind_f hp] at h
    omega
theorem gr_ind_1 (P : Prop) : gr_ind P ≤ 1 := by
  by_cases hp : P
  · rw [gr_ind_t hp]; omega
  · rw [gr_ind_f hp]; omega
theorem gr_ind_m {P Q : Prop} (h : Q → P) : gr_ind P ≤ gr_ind Q := by
  by_cases hq : Q
  · rw [gr_ind_t (h hq)]; omega
  · rw [gr_ind_f hq]; exact gr_ind_1 P
theorem gr_ind_a {P Q R : Prop} (h : Q → R → P) : gr_ind P ≤ gr_ind Q + gr_ind R := by
  by_cases hq : Q
  · by_cases hr : R
    · rw [gr_ind_t (h hq hr)]; omega
    · have := gr_ind_1 P
      rw [gr_ind_f hr]; omega
  · have := gr_ind_1 P
    rw [gr_ind_f hq]; omega
section
variable (C : Nat) (K L R : Nat → Nat) (tk : Nat → Nat → Prop)
def gr_wf : Prop := ∀ c, c < C → (K c = 3 ∨ K c = 4) → L c < C ∧ R c < C
def gr_cl (P : Nat → Nat → Nat → Prop) : Prop :=
  ∀ c i j, c < C → i ≤ j → ((K c = 1 ∧ i = j) ∨ (K c = 2 ∧ j = i + 1 ∧ tk i c) ∨ (K c = 3 ∧ (P (L c) i j ∨ P (R c) i j)) ∨
    (K c = 4 ∧ ∃ k, i ≤ k ∧ k ≤ j ∧ P (L c) i k ∧ P (R c) k j)) → P c i j
def gr_Sp (c i j : Nat) : Prop := ∀ P, gr_cl C K L R tk P → P c i j
/-- the least lengths -/
def of_L (s : Nat → Nat) (c x : Nat) : Prop :=
  (K c = 1 ∧ x = 0) ∨ (K c = 2 ∧ x = 1) ∨ (K c = 3 ∧ (x = s (L c) ∨ x = s (R c))) ∨ (K c = 4 ∧ x = s (L c) + s (R c))
/-- one stretch f .. t of the component: 0 for a word -/
def of_M (Mt : Nat → Nat → Nat → Prop) (f t : Nat) (s : Nat → Nat) (c x : Nat) : Prop :=
  x = 0 ∧ ((K c = 2 ∧ f + 1 = t ∧ tk f c) ∨ (K c = 3 ∧ (s (L c) = 0 ∨ s (R c) = 0)) ∨
    (K c = 4 ∧ ∃ k, f ≤ k ∧ k ≤ t ∧ ((k = t ∧ s (L c) = 0) ∨ (k ≠ t ∧ Mt (L c) f k)) ∧ ((k = f ∧ s (R c) = 0) ∨ (k ≠ f ∧ Mt (R c) k t))))
/-- one row of tails of the component -/
def of_T (Mt : Nat → Nat → Nat → Prop) (Ls : Nat → Nat) (T : Nat → Nat → Nat) (f e : Nat) (s : Nat → Nat) (c x : Nat) : Prop :=
  (K c = 2 ∧ f + 1 = e ∧ tk f c ∧ x = 0) ∨ (K c = 3 ∧ (x = s (L c) ∨ x = s (R c))) ∨
    (K c = 4 ∧ (x = s (L c) + Ls (R c) ∨ (Mt (L c) f f ∧ x = s (R c)) ∨ ∃ k, f < k ∧ k < e ∧ Mt (L c) f k ∧ x = T k (R c)))
/-- the reference's spans -/
def of_S (n : Nat) (s : Nat → Nat) (v x : Nat) : Prop :=
  ∃ c i j, v = (c * 14 + i) * 14 + j ∧ c < C ∧ i ≤ j ∧ j ≤ n ∧ x = 0 ∧
    ((K c = 1 ∧ i = j) ∨ (K c = 2 ∧ j = i + 1 ∧ tk i c) ∨ (K c = 3 ∧ (s ((L c * 14 + i) * 14 + j) = 0 ∨ s ((R c * 14 + i) * 14 + j) = 0)) ∨
      (K c = 4 ∧ ∃ k, i ≤ k ∧ k ≤ j ∧ s ((L c * 14 + i) * 14 + k) = 0 ∧ s ((R c * 14 + k) * 14 + j) = 0))
/-- the reference's rests -/
def of_R (Mt : Nat → Nat → Nat → Prop) (n : Nat) (s : Nat → Nat) (v x : Nat) : Prop :=
  ∃ c i, v = c * 14 + i ∧ c < C ∧ i ≤ n ∧
    ((K c = 1 ∧ i = n ∧ x = 0) ∨ (K c = 2 ∧ i = n ∧ x = 1) ∨ (K c = 2 ∧ i + 1 = n ∧ tk i c ∧ x = 0) ∨
      (K c = 3 ∧ (x = s (L c * 14 + i) ∨ x = s (R c * 14 + i))) ∨
      (K c = 4 ∧ (x = s (L c * 14 + i) + s (R c * 14 + n) ∨ ∃ k, i ≤ k ∧ k ≤ n ∧ Mt (L c) i k ∧ x = s (R c * 14 + k))))
end
section
variable {C : Nat} {K L R : Nat → Nat} {tk tk' : Nat → Nat → Prop}
theorem gr_sp_cl : gr_cl C K L R tk (gr_Sp C K L R tk) := by
  intro c i j hc hij h P hP
  refine hP c i j hc hij ?_
  rcases h with h | h | ⟨k, h | h⟩ | ⟨h0, k, h1, h2, h3, h4⟩
  · exact Or.inl h
  · exact Or.inr (Or.inl h)
  · exact Or.inr (Or.inr (Or.inl ⟨k, Or.inl (h P hP)⟩))
  · exact Or.inr (Or.inr (Or.inl ⟨k, Or.inr (h P hP)⟩))
  · exact Or.inr (Or.inr (Or.inr ⟨h0, k, h1, h2, h3 P hP, h4 P hP⟩))
theorem gr_sp_ext {c i j : Nat} (h : gr_Sp C K L R tk c i j) (e : ∀ t, i ≤ t → t < j → ∀ c, tk t c → tk' t c) : gr_Sp C K L R tk' c i j := by
  refine h (fun c i j => (∀ t, i ≤ t → t < j → ∀ c, tk t c → tk' t c) → gr_Sp C K L R tk' c i j) ?_ e
  intro c i j hc hij h e
  refine gr_sp_cl c i j hc hij ?_
  rcases h with h | ⟨h1, h2, h3⟩ | ⟨k, h | h⟩ | ⟨h0, k, h1, h2, h3, h4⟩
  · exact Or.inl h
  · exact Or.inr (Or.inl ⟨h1, h2, e i (Nat.le_refl _) (by omega) c h3⟩)
  · exact Or.inr (Or.inr (Or.inl ⟨k, Or.inl (h e)⟩))
  · exact Or.inr (Or.inr (Or.inl ⟨k, Or.inr (h e)⟩))
  · exact Or.inr (Or.inr (Or.inr ⟨h0, k, h1, h2, h3 (fun t a b => e t a (by omega)), h4 (fun t a b => e t (by omega) b)⟩))
theorem gr_sp_iff {c i j : Nat} (e : ∀ t, i ≤ t → t < j → ∀ c, tk t c ↔ tk' t c) : gr_Sp C K L R tk c i j ↔ gr_Sp C K L R tk' c i j :=
  ⟨fun h => gr_sp_ext h (fun t a b c => (e t a b c).1), fun h => gr_sp_ext h (fun t a b c => (e t a b c).2)⟩
/-! each system is monotone and has witnesses -/
theorem of_L_m (wf : gr_wf C K L R) : fx_Mono C (of_L K L R) := by
  intro s t c x hc hts h
  rcases h with ⟨k, h⟩ | ⟨k, h⟩ | ⟨k, h | h⟩ | ⟨k, h⟩
  · exact ⟨x, Nat.le_refl _, Or.inl ⟨k, h⟩⟩
  · exact ⟨x, Nat.le_refl _, Or.inr (Or.inl ⟨k, h⟩)⟩
  · exact ⟨t (L c), by rw [h]; exact hts _ (wf c hc (Or.inl k)).1, Or.inr (Or.inr (Or.inl ⟨k, Or.inl rfl⟩))⟩
  · exact ⟨t (R c), by rw [h]; exact hts _ (wf c hc (Or.inl k)).2, Or.inr (Or.inr (Or.inl ⟨k, Or.inr rfl⟩))⟩
  · have h1 := hts _ (wf c hc (Or.inr k)).1
    have h2 := hts _ (wf c hc (Or.inr k)).2
    exact ⟨t (L c) + t (R c), by omega, Or.inr (Or.inr (Or.inr ⟨k, rfl⟩))⟩
theorem of_L_w (B : Nat) (wf : gr_wf C K L R) : fx_Wit C B (of_L K L R) := by
  intro D s c x hc hD h hy
  rcases h with ⟨k, h⟩ | ⟨k, h⟩ | ⟨k, h | h⟩ | ⟨k, h⟩
  · exact Or.inl ⟨k, h⟩
  · exact Or.inr (Or.inl ⟨k, h⟩)
  · have h1 := hD _ (wf c hc (Or.inl k)).1
    have h2 := hy _ (Or.inr (Or.inr (Or.inl ⟨k, Or.inl rfl⟩)))
    have e : s (L c) = D (L c) := by omega
    exact Or.inr (Or.inr (Or.inl ⟨k, Or.inl (h.trans (if_pos e).symm)⟩))
  · have h1 := hD _ (wf c hc (Or.inl k)).2
    have h2 := hy _ (Or.inr (Or.inr (Or.inl ⟨k, Or.inr rfl⟩)))
    have e : s (R c) = D (R c) := by omega
    exact Or.inr (Or.inr (Or.inl ⟨k, Or.inr (h.trans (if_pos e).symm)⟩))
  · have h1 := hD _ (wf c hc (Or.inr k)).1
    have h2 := hD _ (wf c hc (Or.inr k)).2
    have h3 := hy _ (Or.inr (Or.inr (Or.inr ⟨k, rfl⟩)))
    have e1 : s (L c) = D (L c) := by omega
    have e2 : s (R c) = D (R c) := by omega
    refine Or.inr (Or.inr (Or.inr ⟨k, ?_⟩))
    show x = (if s (L c) = D (L c) then s (L c) else B) + (if s (R c) = D (R c) then s (R c) else B)
    rw [if_pos e1, if_pos e2, h]
theorem of_M_m (Mt : Nat → Nat → Nat → Prop) (f t : Nat) (wf : gr_wf C K L R) : fx_Mono C (of_M K L R tk Mt f t) := by
  intro s u c x hc hts h
  obtain ⟨h0, h⟩ := h
  refine ⟨x, Nat.le_refl _, h0, ?_⟩
  have z : ∀ a, a < C → s a = 0 → u a = 0 := fun a ha e => by have := hts a ha; omega
  rcases h with h | ⟨k, h | h⟩ | ⟨k, m, h1, h2, h3, h4⟩
  · exact Or.inl h
  · exact Or.inr (Or.inl ⟨k, Or.inl (z _ (wf c hc (Or.inl k)).1 h)⟩)
  · exact Or.inr (Or.inl ⟨k, Or.inr (z _ (wf c hc (Or.inl k)).2 h)⟩)
  · refine Or.inr (Or.inr ⟨k, m, h1, h2, ?_, ?_⟩)
    · rcases h3 with ⟨a, b⟩ | h3
      · exact Or.inl ⟨a, z _ (wf c hc (Or.inr k)).1 b⟩
      · exact Or.inr h3
    · rcases h4 with ⟨a, b⟩ | h4
      · exact Or.inl ⟨a, z _ (wf c hc (Or.inr k)).2 b⟩
      · exact Or.inr h4
theorem of_M_w (B : Nat) (Mt : Nat → Nat → Nat → Prop) (f t : Nat) (wf : gr_wf C K L R) : fx_Wit C B (of_M K L R tk Mt f t) := by
  intro D s c x hc hD h _
  obtain ⟨h0, h⟩ := h
  refine ⟨h0, ?_⟩
  have z : ∀ a, a < C → s a = 0 → (if s a = D a then s a else B) = 0 := fun a ha e => by
    have := hD a ha
    rw [if_pos (by omega)]
    exact e
  rcases h with h | ⟨k, h | h⟩ | ⟨k, m, h1, h2, h3, h4⟩
  · exact Or.inl h
  · exact Or.inr (Or.inl ⟨k, Or.inl (z _ (wf c hc (Or.inl k)).1 h)⟩)
  · exact Or.inr (Or.inl ⟨k, Or.inr (z _ (wf c hc (Or.inl k)).2 h)⟩)
  · refine Or.inr (Or.inr ⟨k, m, h1, h2, ?_, ?_⟩)
    · rcases h3 with ⟨a, b⟩ | h3
      · exact Or.inl ⟨a, z _ (wf c hc (Or.inr k)).1 b⟩
      · exact Or.inr h3
    · rcases h4 with ⟨a, b⟩ | h4
      · exact Or.inl ⟨a, z _ (wf c hc (Or.inr k)).2 b⟩
      · exact Or.inr h4
theorem of_T_m (Mt : Nat → Nat → Nat → Prop) (Ls : Nat → Nat) (T : Nat → Nat → Nat) (f e : Nat) (wf : gr_wf C K L R) : fx_Mono C (of_T K L R tk Mt Ls T f e) := by
  intro s t c x hc hts h
  rcases h with h | ⟨k, h | h⟩ | ⟨k, h | ⟨h1, h2⟩ | h⟩
  · exact ⟨x, Nat.le_refl _, Or.inl h⟩
  · exact ⟨t (L c), by rw [h]; exact hts _ (wf c hc (Or.inl k)).1, Or.inr (Or.inl ⟨k, Or.inl rfl⟩)⟩
  · exact ⟨t (R c), by rw [h]; exact hts _ (wf c hc (Or.inl k)).2, Or.inr (Or.inl ⟨k, Or.inr rfl⟩)⟩
  · have h1 := hts _ (wf c hc (Or.inr k)).1
    exact ⟨t (L c) + Ls (R c), by omega, Or.inr (Or.inr ⟨k, Or.inl rfl⟩)⟩
  · exact ⟨t (R c), by rw [h2]; exact hts _ (wf c hc (Or.inr k)).2, Or.inr (Or.inr ⟨k, Or.inr (Or.inl ⟨h1, rfl⟩)⟩)⟩
  · exact ⟨x, Nat.le_refl _, Or.inr (Or.inr ⟨k, Or.inr (Or.inr h)⟩)⟩
theorem of_T_w (B : Nat) (Mt : Nat → Nat → Nat → Prop) (Ls : Nat → Nat) (T : Nat → Nat → Nat) (f e : Nat) (wf : gr_wf C K L R) : fx_Wit C B (of_T K L R tk Mt Ls T f e) := by
  intro D s c x hc hD h hy
  rcases h with h | ⟨k, h | h⟩ | ⟨k, h | ⟨h1, h2⟩ | h⟩
  · exact Or.inl h
  · have h1 := hD _ (wf c hc (Or.inl k)).1
    have h2 := hy _ (Or.inr (Or.inl ⟨k, Or.inl rfl⟩))
    have e : s (L c) = D (L c) := by omega
    exact Or.inr (Or.inl ⟨k, Or.inl (h.trans (if_pos e).symm)⟩)
  · have h1 := hD _ (wf c hc (Or.inl k)).2
    have h2 := hy _ (Or.inr (Or.inl ⟨k, Or.inr rfl⟩))
    have e : s (R c) = D (R c) := by omega
    exact Or.inr (Or.inl ⟨k, Or.inr (h.trans (if_pos e).symm)⟩)
  · have h1 := hD _ (wf c hc (Or.inr k)).1
    have h2 := hy _ (Or.inr (Or.inr ⟨k, Or.inl rfl⟩))
    have e : s (L c) = D (L c) := by omega
    refine Or.inr (Or.inr ⟨k, Or.inl ?_⟩)
    show x = (if s (L c) = D (L c) then s (L c) else B) + Ls (R c)
    rw [if_pos e, h]
  · have h3 := hD _ (wf c hc (Or.inr k)).2
    have h4 := hy _ (Or.inr (Or.inr ⟨k, Or.inr (Or.inl ⟨h1, rfl⟩)⟩))
    have e : s (R c) = D (R c) := by omega
    exact Or.inr (Or.inr ⟨k, Or.inr (Or.inl ⟨h1, h2.trans (if_pos e).symm⟩)⟩)
  · exact Or.inr (Or.inr ⟨k, Or.inr (Or.inr h)⟩)
theorem of_S_m {N n : Nat} (hn : n ≤ 13) (hN : C * 196 ≤ N) (wf : gr_wf C K L R) : fx_Mono N (of_S C K L R tk n) := by
  intro s u v x hv hts h
  obtain ⟨c, i, j, e, hc, hi, hj, h0, h⟩ := h
  refine ⟨x, Nat.le_refl _, c, i, j, e, hc, hi, hj, h0, ?_⟩
  have z : ∀ a p q, a < C → p ≤ 13 → q ≤ 13 → s ((a * 14 + p) * 14 + q) = 0 → u ((a * 14 + p) * 14 + q) = 0 := fun a p q ha hp hq e => by
    have := hts ((a * 14 + p) * 14 + q) (by omega)
    omega
  rcases h with h | h | ⟨k, h | h⟩ | ⟨k, m, h1, h2, h3, h4⟩
  · exact Or.inl h
  · exact Or.inr (Or.inl h)
  · exact Or.inr (Or.inr (Or.inl ⟨k, Or.inl (z _ _ _ (wf c hc (Or.inl k)).1 (by omega) (by omega) h)⟩))
  · exact Or.inr (Or.inr (Or.inl ⟨k, Or.inr (z _ _ _ (wf c hc (Or.inl k)).2 (by omega) (by omega) h)⟩))
  · exact Or.inr (Or.inr (Or.inr ⟨k, m, h1, h2, z _ _ _ (wf c hc (Or.inr k)).1 (by omega) (by omega) h3, z _ _ _ (wf c hc (Or.inr k)).2 (by omega) (by omega) h4⟩))
theorem of_S_w {N n : Nat} (B : Nat) (hn : n ≤ 13) (hN : C * 196 ≤ N) (wf : gr_wf C K L R) : fx_Wit N B (of_S C K L R tk n) := by
  intro D s v x hv hD h _
  obtain ⟨c, i, j, e, hc, hi, hj, h0, h⟩ := h
  refine ⟨c, i, j, e, hc, hi, hj, h0, ?_⟩
  have z : ∀ a p q, a < C → p ≤ 13 → q ≤ 13 → s ((a * 14 + p) * 14 + q) = 0 →
      (if s ((a * 14 + p) * 14 + q) = D ((a * 14 + p) * 14 + q) then s ((a * 14 + p) * 14 + q) else B) = 0 := fun a p q ha hp hq e => by
    have := hD ((a * 14 + p) * 14 + q) (by omega)
    rw [if_pos (by omega)]
    exact e
  rcases h with h | h | ⟨k, h | h⟩ | ⟨k, m, h1, h2, h3, h4⟩
  · exact Or.inl h
  · exact Or.inr (Or.inl h)
  · exact Or.inr (Or.inr (Or.inl ⟨k, Or.inl (z _ _ _ (wf c hc (Or.inl k)).1 (by omega) (by omega) h)⟩))
  · exact Or.inr (Or.inr (Or.inl ⟨k, Or.inr (z _ _ _ (wf c hc (Or.inl k)).2 (by omega) (by omega) h)⟩))
  · exact Or.inr (Or.inr (Or.inr ⟨k, m, h1, h2, z _ _ _ (wf c hc (Or.inr k)).1 (by omega) (by omega) h3, z _ _ _ (wf c hc (Or.inr k)).2 (by omega) (by omega) h4⟩))
theorem of_R_m {N n : Nat} (Mt : Nat → Nat → Nat → Prop) (hn : n ≤ 13) (hN : C * 14 ≤ N) (wf : gr_wf C K L R) : fx_Mono N (of_R C K L R tk Mt n) := by
  intro s u v x hv hts h
  obtain ⟨c, i, e, hc, hi, h⟩ := h
  have z : ∀ a p, a < C → p ≤ 13 → u (a * 14 + p) ≤ s (a * 14 + p) := fun a p ha hp => hts _ (by omega)
  rcases h with h | h | h | ⟨k, h | h⟩ | ⟨k, h | ⟨m, h1, h2, h3, h4⟩⟩
  · exact ⟨x, Nat.le_refl _, c, i, e, hc, hi, Or.inl h⟩
  · exact ⟨x, Nat.le_refl _, c, i, e, hc, hi, Or.inr (Or.inl h)⟩
  · exact ⟨x, Nat.le_refl _, c, i, e, hc, hi, Or.inr (Or.inr (Or.inl h))⟩
  · exact ⟨_, by rw [h]; exact z _ _ (wf c hc (Or.inl k)).1 (by omega), c, i, e, hc, hi, Or.inr (Or.inr (Or.inr (Or.inl ⟨k, Or.inl rfl⟩)))⟩
  · exact ⟨_, by rw [h]; exact z _ _ (wf c hc (Or.inl k)).2 (by omega), c, i, e, hc, hi, Or.inr (Or.inr (Or.inr (Or.inl ⟨k, Or.inr rfl⟩)))⟩
  · have h1 := z _ i (wf c hc (Or.inr k)).1 (by omega)
    have h2 := z _ n (wf c hc (Or.inr k)).2 (by omega)
    exact ⟨u (L c * 14 + i) + u (R c * 14 + n), by omega, c, i, e, hc, hi, Or.inr (Or.inr (Or.inr (Or.inr ⟨k, Or.inl rfl⟩)))⟩
  · exact ⟨u (R c * 14 + m), by rw [h4]; exact z _ _ (wf c hc (Or.inr k)).2 (by omega), c, i, e, hc, hi, Or.inr (Or.inr (Or.inr (Or.inr ⟨k, Or.inr ⟨m, h1, h2, h3, rfl⟩⟩)))⟩
theorem of_R_w {N n : Nat} (B : Nat) (Mt : Nat → Nat → Nat → Prop) (hn : n ≤ 13) (hN : C * 14 ≤ N) (wf : gr_wf C K L R) : fx_Wit N B (of_R C K L R tk Mt n) := by
  intro D s v x hv hD h hy
  obtain ⟨c, i, e, hc, hi, h⟩ := h
  have z : ∀ a p, a < C → p ≤ 13 → D (a * 14 + p) ≤ s (a * 14 + p) := fun a p ha hp => hD _ (by omega)
  refine ⟨c, i, e, hc, hi, ?_⟩
  rcases h with h | h | h | ⟨k, h | h⟩ | ⟨k, h | ⟨m, h1, h2, h3, h4⟩⟩
  · exact Or.inl h
  · exact Or.inr (Or.inl h)
  · exact Or.inr (Or.inr (Or.inl h))
  · have h1 := z _ i (wf c hc (Or.inl k)).1 (by omega)
    have h2 := hy _ ⟨c, i, e, hc, hi, Or.inr (Or.inr (Or.inr (Or.inl ⟨k, Or.inl rfl⟩)))⟩
    have e : s (L c * 14 + i) = D (L c * 14 + i) := by omega
    exact Or.inr (Or.inr (Or.inr (Or.inl ⟨k, Or.inl (h.trans (if_pos e).symm)⟩)))
  · have h1 := z _ i (wf c hc (Or.inl k)).2 (by omega)
    have h2 := hy _ ⟨c, i, e, hc, hi, Or.inr (Or.inr (Or.inr (Or.inl ⟨k, Or.inr rfl⟩)))⟩
    have e : s (R c * 14 + i) = D (R c * 14 + i) := by omega
    exact Or.inr (Or.inr (Or.inr (Or.inl ⟨k, Or.inr (h.trans (if_pos e).symm)⟩)))
  · have h1 := z _ i (wf c hc (Or.inr k)).1 (by omega)
    have h2 := z _ n (wf c hc (Or.inr k)).2 (by omega)
    have h3 := hy _ ⟨c, i, e, hc, hi, Or.inr (Or.inr (Or.inr (Or.inr ⟨k, Or.inl rfl⟩)))⟩
    have e1 : s (L c * 14 + i) = D (L c * 14 + i) := by omega
    have e2 : s (R c * 14 + n) = D (R c * 14 + n) := by omega
    refine Or.inr (Or.inr (Or.inr (Or.inr ⟨k, Or.inl ?_⟩)))
    show x = (if s (L c * 14 + i) = D (L c * 14 + i) then s (L c * 14 + i) else B) + (if s (R c * 14 + n) = D (R c * 14 + n) then s (R c * 14 + n) else B)
    rw [if_pos e1, if_pos e2, h]
  · have h5 := z _ m (wf c hc (Or.inr k)).2 (by omega)
    have h6 := hy _ ⟨c, i, e, hc, hi, Or.inr (Or.inr (Or.inr (Or.inr ⟨k, Or.inr ⟨m, h1, h2, h3, rfl⟩⟩)))⟩
    have e : s (R c * 14 + m) = D (R c * 14 + m) := by omega
    exact Or.inr (Or.inr (Or.inr (Or.inr ⟨k, Or.inr ⟨m, h1, h2, h3, h4.trans (if_pos e).symm⟩⟩)))
end
