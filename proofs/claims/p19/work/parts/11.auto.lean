/-! the law's automaton: states 0 .. 7, arcs i to i + 1 (any token from place m on, the input's before it), 7 to 7 -/
def au_ar (w : Nat → Int32) (m i : Nat) (t : Int32) (j : Nat) : Prop := (i < 7 ∧ j = i + 1 ∧ (m ≤ i ∨ w i = t)) ∨ (i = 7 ∧ j = 7)
def au_pa (w : Nat → Int32) (m : Nat) : List Int32 → Nat → Nat → Prop
  | [], i, j => i = j
  | t :: u, i, j => ∃ k, au_ar w m i t k ∧ au_pa w m u k j
theorem au_ar8 {w : Nat → Int32} {m i j : Nat} {t : Int32} (h : au_ar w m i t j) : i < 8 ∧ j < 8 := by
  rcases h with ⟨h1, h2, _⟩ | ⟨h1, h2⟩ <;> omega
theorem au_app {w : Nat → Int32} {m : Nat} : ∀ (a b : List Int32) (i j : Nat), i < 8 → (au_pa w m (a ++ b) i j ↔ ∃ k, k < 8 ∧ au_pa w m a i k ∧ au_pa w m b k j) := by
  intro a
  induction a with
  | nil =>
    intro b i j hi
    constructor
    · intro h; exact ⟨i, hi, rfl, h⟩
    · intro h
      obtain ⟨k, _, h1, h2⟩ := h
      have h1 : i = k := h1
      rw [h1]; exact h2
  | cons t a ih =>
    intro b i j hi
    constructor
    · intro h
      obtain ⟨k, h1, h2⟩ := h
      obtain ⟨l, h3, h4, h5⟩ := (ih b k j (au_ar8 h1).2).1 h2
      exact ⟨l, h3, ⟨k, h1, h4⟩, h5⟩
    · intro h
      obtain ⟨l, h3, ⟨k, h1, h4⟩, h5⟩ := h
      exact ⟨k, h1, (ih b k j (au_ar8 h1).2).2 ⟨l, h3, h4, h5⟩⟩
/-- a path from i that ends before 7 is as long as it climbs; one that ends at 7 at least so long; each token below m is the input's -/
theorem au_len {w : Nat → Int32} {m : Nat} : ∀ (u : List Int32) (i j : Nat), i ≤ 7 → au_pa w m u i j → i ≤ j ∧ j ≤ 7 ∧ j ≤ i + u.length ∧ (j < 7 → j = i + u.length) ∧ ∀ a, a < u.length → i + a < 7 → i + a < m → u[a]? = some (w (i + a)) := by
  intro u
  induction u with
  | nil =>
    intro i j hi h
    have h : i = j := h
    have e : ([] : List Int32).length = 0 := rfl
    exact ⟨by omega, by omega, by omega, fun _ => by omega, fun a ha => absurd ha (by omega)⟩
  | cons t u ih =>
    intro i j hi h
    obtain ⟨k, h1, h2⟩ := h
    have e : (t :: u).length = u.length + 1 := rfl
    have k7 := (au_ar8 h1).2
    obtain ⟨b1, b2, b3, b4, b5⟩ := ih k j (by omega) h2
    rcases h1 with ⟨c1, c2, c3⟩ | ⟨c1, c2⟩
    · refine ⟨by omega, b2, by omega, fun z => by have := b4 z; omega, fun a ha h7 hm => ?_⟩
      cases a with
      | zero =>
        rcases c3 with c3 | c3
        · omega
        · rw [Nat.add_zero, c3]; rfl
      | succ a =>
        have := b5 a (by omega) (by omega) (by omega)
        rw [c2, show i + 1 + a = i + (a + 1) from by omega] at this
        exact this
    · exact ⟨by omega, b2, by omega, fun z => by omega, fun a ha h7 => by omega⟩
theorem au_go {w : Nat → Int32} {m : Nat} (hm7 : m ≤ 7) : ∀ (u : List Int32) (i : Nat), i ≤ 7 → (∀ a, a < u.length → i + a < m → u[a]? = some (w (i + a))) → au_pa w m u i (if i + u.length < 7 then i + u.length else 7) := by
  intro u
  induction u with
  | nil =>
    intro i hi _
    have e : ([] : List Int32).length = 0 := rfl
    show i = _
    by_cases z : i + ([] : List Int32).length < 7
    · rw [if_pos z]; omega
    · rw [if_neg z]; omega
  | cons t u ih =>
    intro i hi h
    have e : (t :: u).length = u.length + 1 := rfl
    by_cases z : i = 7
    · refine ⟨7, Or.inr ⟨z, rfl⟩, ?_⟩
      have := ih 7 (by omega) (fun a ha hm => absurd hm (by omega))
      rw [if_neg (by omega)] at this
      rw [if_neg (by omega)]
      exact this
    · refine ⟨i + 1, Or.inl ⟨by omega, rfl, ?_⟩, ?_⟩
      · by_cases z2 : m ≤ i
        · exact Or.inl z2
        · have := h 0 (by omega) (by omega)
          rw [Nat.add_zero] at this
          have e2 : (t :: u)[0]? = some t := rfl
          rw [e2] at this
          injection this with this
          exact Or.inr this.symm
      · have := ih (i + 1) (by omega) (fun a ha hm => by
          have := h (a + 1) (by omega) (by omega)
          rw [show i + (a + 1) = i + 1 + a from by omega] at this
          exact this)
        rw [show i + 1 + u.length = i + (t :: u).length from by omega] at this
        exact this
theorem wd_pre {w : Nat → Int32} : ∀ (m i : Nat) (u : List Int32), (∀ a, a < m → u[a]? = some (w (i + a))) → ∃ q, u = wd_s w i m ++ q := by
  intro m
  induction m with
  | zero => intro i u _; exact ⟨u, rfl⟩
  | succ m ih =>
    intro i u h
    cases u with
    | nil => have := h 0 (by omega); exact absurd this (by simp)
    | cons t u =>
      have h0 := h 0 (by omega)
      rw [Nat.add_zero] at h0
      have e2 : (t :: u)[0]? = some t := rfl
      rw [e2] at h0
      injection h0 with h0
      obtain ⟨q, e⟩ := ih (i + 1) u (fun a ha => by
        have := h (a + 1) (by omega)
        rw [show i + (a + 1) = i + 1 + a from by omega] at this
        exact this)
      refine ⟨q, ?_⟩
      show t :: u = w i :: (wd_s w (i + 1) m ++ q)
      rw [h0, ← e]
theorem wd_get {w : Nat → Int32} {q : List Int32} : ∀ (m i a : Nat), a < m → (wd_s w i m ++ q)[a]? = some (w (i + a)) := by
  intro m
  induction m with
  | zero => intro i a h; omega
  | succ m ih =>
    intro i a h
    cases a with
    | zero => rw [Nat.add_zero]; rfl
    | succ a =>
      have := ih (i + 1) a (by omega)
      rw [show i + 1 + a = i + (a + 1) from by omega] at this
      exact this
def of_A (K L R : Nat → Nat) (lf w : Nat → Int32) (m : Nat) (s : Nat → Nat) (v x : Nat) : Prop :=
  ∃ c i j, v = c * 64 + i * 8 + j ∧ c < 8 ∧ i < 8 ∧ j < 8 ∧ x = 0 ∧
    ((K c = 1 ∧ i = j) ∨ (K c = 2 ∧ au_ar w m i (lf c) j) ∨ (K c = 3 ∧ (s (L c * 64 + i * 8 + j) = 0 ∨ s (R c * 64 + i * 8 + j) = 0)) ∨
      (K c = 4 ∧ ∃ k, k < 8 ∧ s (L c * 64 + i * 8 + k) = 0 ∧ s (R c * 64 + k * 8 + j) = 0))
section
variable {K L R : Nat → Nat} {lf w : Nat → Int32} {m : Nat}
theorem of_A_inv {s : Nat → Nat} {c i j x : Nat} (hc : c < 8) (hi : i < 8) (hj : j < 8) (h : of_A K L R lf w m s (c * 64 + i * 8 + j) x) :
    x = 0 ∧ ((K c = 1 ∧ i = j) ∨ (K c = 2 ∧ au_ar w m i (lf c) j) ∨ (K c = 3 ∧ (s (L c * 64 + i * 8 + j) = 0 ∨ s (R c * 64 + i * 8 + j) = 0)) ∨
      (K c = 4 ∧ ∃ k, k < 8 ∧ s (L c * 64 + i * 8 + k) = 0 ∧ s (R c * 64 + k * 8 + j) = 0)) := by
  obtain ⟨c', i', j', e, h1, h2, h3, h0, h⟩ := h
  have a : c' = c := by omega
  have b : i' = i := by omega
  have d : j' = j := by omega
  subst a b d
  exact ⟨h0, h⟩
theorem of_A_m (wf : gr_wf 8 K L R) : fx_Mono 512 (of_A K L R lf w m) := by
  intro s u v x hv hts h
  obtain ⟨c, i, j, e, hc, hi, hj, h0, h⟩ := h
  refine ⟨x, Nat.le_refl _, c, i, j, e, hc, hi, hj, h0, ?_⟩
  have z : ∀ a p q, a < 8 → p < 8 → q < 8 → s (a * 64 + p * 8 + q) = 0 → u (a * 64 + p * 8 + q) = 0 := fun a p q ha hp hq e => by
    have := hts (a * 64 + p * 8 + q) (by omega)
    omega
  rcases h with h | h | ⟨k, h | h⟩ | ⟨k, n, h1, h3, h4⟩
  · exact Or.inl h
  · exact Or.inr (Or.inl h)
  · exact Or.inr (Or.inr (Or.inl ⟨k, Or.inl (z _ _ _ (wf c hc (Or.inl k)).1 hi hj h)⟩))
  · exact Or.inr (Or.inr (Or.inl ⟨k, Or.inr (z _ _ _ (wf c hc (Or.inl k)).2 hi hj h)⟩))
  · exact Or.inr (Or.inr (Or.inr ⟨k, n, h1, z _ _ _ (wf c hc (Or.inr k)).1 hi h1 h3, z _ _ _ (wf c hc (Or.inr k)).2 h1 hj h4⟩))
theorem of_A_w (wf : gr_wf 8 K L R) : fx_Wit 512 1 (of_A K L R lf w m) := by
  intro D s v x hv hD h _
  obtain ⟨c, i, j, e, hc, hi, hj, h0, h⟩ := h
  refine ⟨c, i, j, e, hc, hi, hj, h0, ?_⟩
  have z : ∀ a p q, a < 8 → p < 8 → q < 8 → s (a * 64 + p * 8 + q) = 0 → (if s (a * 64 + p * 8 + q) = D (a * 64 + p * 8 + q) then s (a * 64 + p * 8 + q) else 1) = 0 := fun a p q ha hp hq e => by
    have := hD (a * 64 + p * 8 + q) (by omega)
    rw [if_pos (by omega)]
    exact e
  rcases h with h | h | ⟨k, h | h⟩ | ⟨k, n, h1, h3, h4⟩
  · exact Or.inl h
  · exact Or.inr (Or.inl h)
  · exact Or.inr (Or.inr (Or.inl ⟨k, Or.inl (z _ _ _ (wf c hc (Or.inl k)).1 hi hj h)⟩))
  · exact Or.inr (Or.inr (Or.inl ⟨k, Or.inr (z _ _ _ (wf c hc (Or.inl k)).2 hi hj h)⟩))
  · exact Or.inr (Or.inr (Or.inr ⟨k, n, h1, z _ _ _ (wf c hc (Or.inr k)).1 hi h1 h3, z _ _ _ (wf c hc (Or.inr k)).2 h1 hj h4⟩))
theorem au_sol {D : Nat → Nat} (wf : gr_wf 8 K L R) (G : fx_Good 512 1 (of_A K L R lf w m) D) {c i j : Nat} (hc : c < 8) (hi : i < 8) (hj : j < 8) :
    D (c * 64 + i * 8 + j) = 0 ↔ ∃ u, la_In 8 K L R lf c u ∧ au_pa w m u i j := by
  constructor
  · intro h
    have q : ∀ a p r, p < 8 → r < 8 → gr_ind (∃ u, la_In 8 K L R lf ((a * 64 + p * 8 + r) / 64) u ∧ au_pa w m u ((a * 64 + p * 8 + r) / 8 % 8) ((a * 64 + p * 8 + r) % 8)) = gr_ind (∃ u, la_In 8 K L R lf a u ∧ au_pa w m u p r) := by
      intro a p r hp hr
      rw [show (a * 64 + p * 8 + r) / 64 = a from by omega, show (a * 64 + p * 8 + r) / 8 % 8 = p from by omega, show (a * 64 + p * 8 + r) % 8 = r from by omega]
    have h1 := G.2.2.1 (fun v => gr_ind (∃ u, la_In 8 K L R lf (v / 64) u ∧ au_pa w m u (v / 8 % 8) (v % 8))) (fun v _ => ⟨gr_ind_1 _, fun x hx => by
      try dsimp only at hx ⊢
      obtain ⟨c, i, j, e, hc, hi, hj, h0, h⟩ := hx
      rw [e, q c i j hi hj, h0]
      refine Nat.le_of_eq (gr_ind_t ?_)
      rcases h with ⟨k, h⟩ | ⟨k, h⟩ | ⟨k, h | h⟩ | ⟨k, n, h1, h3, h4⟩
      · exact ⟨[], la_in c _ hc (Or.inl ⟨k, rfl⟩), h⟩
      · exact ⟨[lf c], la_in c _ hc (Or.inr (Or.inl ⟨k, rfl⟩)), j, h, rfl⟩
      · try dsimp only at h
        rw [q _ i j hi hj] at h
        obtain ⟨u, o1, o2⟩ := gr_ind_0 h
        exact ⟨u, la_in c _ hc (Or.inr (Or.inr (Or.inl ⟨k, Or.inl o1⟩))), o2⟩
      · try dsimp only at h
        rw [q _ i j hi hj] at h
        obtain ⟨u, o1, o2⟩ := gr_ind_0 h
        exact ⟨u, la_in c _ hc (Or.inr (Or.inr (Or.inl ⟨k, Or.inr o1⟩))), o2⟩
      · try dsimp only at h3 h4
        rw [q _ i n hi h1] at h3
        rw [q _ n j h1 hj] at h4
        obtain ⟨u, o1, o2⟩ := gr_ind_0 h3
        obtain ⟨u2, o3, o4⟩ := gr_ind_0 h4
        exact ⟨u ++ u2, la_in c _ hc (Or.inr (Or.inr (Or.inr ⟨k, u, u2, rfl, o1, o3⟩))), (au_app u u2 i j hi).2 ⟨n, h1, o2, o4⟩⟩⟩) (c * 64 + i * 8 + j) (by omega)
    try dsimp only at h1
    rw [q c i j hi hj] at h1
    exact gr_ind_0 (by omega)
  · intro h
    obtain ⟨u, o, pa⟩ := h
    refine o (fun c u => c < 8 → ∀ i j, i < 8 → j < 8 → au_pa w m u i j → D (c * 64 + i * 8 + j) = 0) ?_ hc i j hi hj pa
    intro c u hc h _ i j hi hj pa
    refine Nat.le_zero.mp (G.2.1 _ (by omega) 0 ⟨c, i, j, rfl, hc, hi, hj, rfl, ?_⟩)
    rcases h with ⟨k, e⟩ | ⟨k, e⟩ | ⟨k, h | h⟩ | ⟨k, a, b, e, h1, h2⟩
    · rw [e] at pa
      exact Or.inl ⟨k, pa⟩
    · rw [e] at pa
      obtain ⟨l, p1, p2⟩ := pa
      have p2 : l = j := p2
      rw [p2] at p1
      exact Or.inr (Or.inl ⟨k, p1⟩)
    · exact Or.inr (Or.inr (Or.inl ⟨k, Or.inl (h (wf c hc (Or.inl k)).1 i j hi hj pa)⟩))
    · exact Or.inr (Or.inr (Or.inl ⟨k, Or.inr (h (wf c hc (Or.inl k)).2 i j hi hj pa)⟩))
    · rw [e] at pa
      obtain ⟨n, hn, p1, p2⟩ := (au_app a b i j hi).1 pa
      exact Or.inr (Or.inr (Or.inr ⟨k, n, hn, h1 (wf c hc (Or.inr k)).1 i n hi hn p1, h2 (wf c hc (Or.inr k)).2 n j hn hj p2⟩))
/-- the row's bits -/
def au_bit (K L R : Nat → Nat) (lf w : Nat → Int32) (m c j : Nat) : Prop := ∃ u, la_In 8 K L R lf c u ∧ au_pa w m u 0 j
theorem au_b1 (hm : m ≤ 7) {c j : Nat} (hj : j < 7) (hmj : m ≤ j) (h : au_bit K L R lf w m c j) : ∃ q : List Int32, la_In 8 K L R lf c (wd_s w 0 m ++ q) ∧ q.length = j - m := by
  obtain ⟨u, o, pa⟩ := h
  obtain ⟨_, _, b3, b4, b5⟩ := au_len u 0 j (by omega) pa
  have e := b4 hj
  obtain ⟨q, eq⟩ := wd_pre m 0 u (fun a ha => b5 a (by omega) (by omega) (by omega))
  have hl : u.length = m + q.length := by rw [eq, List.length_append, wd_len]
  exact ⟨q, by rw [← eq]; exact o, by omega⟩
theorem au_b7 (hm : m ≤ 7) {c : Nat} (h : au_bit K L R lf w m c 7) : ∃ q : List Int32, la_In 8 K L R lf c (wd_s w 0 m ++ q) ∧ 7 ≤ m + q.length := by
  obtain ⟨u, o, pa⟩ := h
  obtain ⟨_, _, b3, b4, b5⟩ := au_len u 0 7 (by omega) pa
  obtain ⟨q, eq⟩ := wd_pre m 0 u (fun a ha => b5 a (by omega) (by omega) (by omega))
  have hl : u.length = m + q.length := by rw [eq, List.length_append, wd_len]
  exact ⟨q, by rw [← eq]; exact o, by omega⟩
theorem au_bk (hm : m ≤ 7) {c : Nat} {q : List Int32} (o : la_In 8 K L R lf c (wd_s w 0 m ++ q)) : au_bit K L R lf w m c (if m + q.length < 7 then m + q.length else 7) := by
  have hl : (wd_s w 0 m ++ q).length = m + q.length := by rw [List.length_append, wd_len]
  have := au_go hm (wd_s w 0 m ++ q) 0 (by omega) (fun a _ ha => wd_get m 0 a (by omega))
  rw [hl, Nat.zero_add] at this
  exact ⟨_, o, this⟩
end
