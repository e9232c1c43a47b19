/-! what the systems' solutions say, and that both sides' tails are the same -/
section
variable {C : Nat} {K L R : Nat → Nat} {tk : Nat → Nat → Prop}
theorem gr_null {B : Nat} {Ls : Nat → Nat} (hB : 1 ≤ B) (wf : gr_wf C K L R) (G : fx_Good C B (of_L K L R) Ls) {c : Nat} (hc : c < C) (i : Nat) : Ls c = 0 ↔ gr_Sp C K L R tk c i i := by
  constructor
  · intro h
    have h1 := G.2.2.1 (fun c => gr_ind (gr_Sp C K L R tk c i i)) (fun c hc => ⟨Nat.le_trans (gr_ind_1 _) hB, fun x hx => by
      try dsimp only at hx ⊢
      rcases hx with ⟨k, hx⟩ | ⟨k, hx⟩ | ⟨k, hx | hx⟩ | ⟨k, hx⟩
      · rw [gr_ind_t (gr_sp_cl c i i hc (Nat.le_refl _) (Or.inl ⟨k, rfl⟩))]
        omega
      · rw [hx]; exact gr_ind_1 _
      · rw [hx]
        exact gr_ind_m (fun z => gr_sp_cl c i i hc (Nat.le_refl _) (Or.inr (Or.inr (Or.inl ⟨k, Or.inl z⟩))))
      · rw [hx]
        exact gr_ind_m (fun z => gr_sp_cl c i i hc (Nat.le_refl _) (Or.inr (Or.inr (Or.inl ⟨k, Or.inr z⟩))))
      · rw [hx]
        exact gr_ind_a (fun y z => gr_sp_cl c i i hc (Nat.le_refl _) (Or.inr (Or.inr (Or.inr ⟨k, i, Nat.le_refl _, Nat.le_refl _, y, z⟩))))⟩) c hc
    try dsimp only at h1
    exact gr_ind_0 (by omega)
  · intro h
    refine h (fun c i j => i = j → Ls c = 0) ?_ rfl
    intro c i j hc hij h e
    subst e
    rcases h with ⟨k, _⟩ | ⟨_, h, _⟩ | ⟨k, h | h⟩ | ⟨k, m, h1, h2, h3, h4⟩
    · have := G.2.1 c hc 0 (Or.inl ⟨k, rfl⟩); omega
    · omega
    · have := G.2.1 c hc _ (Or.inr (Or.inr (Or.inl ⟨k, Or.inl rfl⟩))); have := h rfl; omega
    · have := G.2.1 c hc _ (Or.inr (Or.inr (Or.inl ⟨k, Or.inr rfl⟩))); have := h rfl; omega
    · have := G.2.1 c hc _ (Or.inr (Or.inr (Or.inr ⟨k, rfl⟩)))
      have := h3 (by omega)
      have := h4 (by omega)
      omega
theorem gr_mask {Mt : Nat → Nat → Nat → Prop} {f t : Nat} {D : Nat → Nat} (wf : gr_wf C K L R) (G : fx_Good C 1 (of_M K L R tk Mt f t) D) (hft : f < t)
    (hl : ∀ l k, l < C → f ≤ k → k < t → (Mt l f k ↔ gr_Sp C K L R tk l f k)) (hr : ∀ r k, r < C → f < k → k ≤ t → (Mt r k t ↔ gr_Sp C K L R tk r k t))
    {c : Nat} (hc : c < C) : D c = 0 ↔ gr_Sp C K L R tk c f t := by
  constructor
  · intro h
    have h1 := G.2.2.1 (fun c => gr_ind (gr_Sp C K L R tk c f t)) (fun c hc => ⟨gr_ind_1 _, fun x hx => by
      try dsimp only at hx ⊢
      obtain ⟨h0, hx⟩ := hx
      rw [h0]
      refine Nat.le_of_eq (gr_ind_t (gr_sp_cl c f t hc (by omega) ?_))
      rcases hx with ⟨k, h1, h2⟩ | ⟨k, hx | hx⟩ | ⟨k, m, h1, h2, h3, h4⟩
      · exact Or.inr (Or.inl ⟨k, h1.symm, h2⟩)
      · exact Or.inr (Or.inr (Or.inl ⟨k, Or.inl (gr_ind_0 hx)⟩))
      · exact Or.inr (Or.inr (Or.inl ⟨k, Or.inr (gr_ind_0 hx)⟩))
      · refine Or.inr (Or.inr (Or.inr ⟨k, m, h1, h2, ?_, ?_⟩))
        · rcases h3 with ⟨a, b⟩ | ⟨a, b⟩
          · rw [a]; exact gr_ind_0 b
          · exact (hl _ m (wf c hc (Or.inr k)).1 h1 (by omega)).1 b
        · rcases h4 with ⟨a, b⟩ | ⟨a, b⟩
          · rw [a]; exact gr_ind_0 b
          · exact (hr _ m (wf c hc (Or.inr k)).2 (by omega) h2).1 b⟩) c hc
    try dsimp only at h1
    exact gr_ind_0 (by omega)
  · intro h
    refine (h (fun c i j => gr_Sp C K L R tk c i j ∧ (i = f → j = t → D c = 0)) ?_).2 rfl rfl
    intro c i j hc hij h
    constructor
    · refine gr_sp_cl c i j hc hij ?_
      rcases h with h | h | ⟨k, h | h⟩ | ⟨k, m, h1, h2, h3, h4⟩
      · exact Or.inl h
      · exact Or.inr (Or.inl h)
      · exact Or.inr (Or.inr (Or.inl ⟨k, Or.inl h.1⟩))
      · exact Or.inr (Or.inr (Or.inl ⟨k, Or.inr h.1⟩))
      · exact Or.inr (Or.inr (Or.inr ⟨k, m, h1, h2, h3.1, h4.1⟩))
    · intro ei ej
      subst ei ej
      refine Nat.le_zero.mp (G.2.1 c hc 0 ⟨rfl, ?_⟩)
      rcases h with ⟨k, h⟩ | ⟨k, h1, h2⟩ | ⟨k, h | h⟩ | ⟨k, m, h1, h2, h3, h4⟩
      · omega
      · exact Or.inl ⟨k, h1.symm, h2⟩
      · exact Or.inr (Or.inl ⟨k, Or.inl (h.2 rfl rfl)⟩)
      · exact Or.inr (Or.inl ⟨k, Or.inr (h.2 rfl rfl)⟩)
      · refine Or.inr (Or.inr ⟨k, m, h1, h2, ?_, ?_⟩)
        · by_cases e : m = j
          · exact Or.inl ⟨e, h3.2 rfl e⟩
          · exact Or.inr ⟨e, (hl _ m (wf c hc (Or.inr k)).1 h1 (by omega)).2 h3.1⟩
        · by_cases e : m = i
          · exact Or.inl ⟨e, h4.2 e rfl⟩
          · exact Or.inr ⟨e, (hr _ m (wf c hc (Or.inr k)).2 (by omega) h2).2 h4.1⟩
theorem gr_span {N n : Nat} {D : Nat → Nat} (hn : n ≤ 13) (hN : C * 196 ≤ N) (wf : gr_wf C K L R) (G : fx_Good N 1 (of_S C K L R tk n) D)
    {c i j : Nat} (hc : c < C) (hij : i ≤ j) (hj : j ≤ n) : D ((c * 14 + i) * 14 + j) = 0 ↔ gr_Sp C K L R tk c i j := by
  constructor
  · intro h
    have q : ∀ a p r, p ≤ 13 → r ≤ 13 → gr_ind (gr_Sp C K L R tk (((a * 14 + p) * 14 + r) / 196) (((a * 14 + p) * 14 + r) / 14 % 14) (((a * 14 + p) * 14 + r) % 14)) = gr_ind (gr_Sp C K L R tk a p r) := by
      intro a p r hp hr
      rw [show ((a * 14 + p) * 14 + r) / 196 = a from by omega, show ((a * 14 + p) * 14 + r) / 14 % 14 = p from by omega, show ((a * 14 + p) * 14 + r) % 14 = r from by omega]
    have h1 := G.2.2.1 (fun v => gr_ind (gr_Sp C K L R tk (v / 196) (v / 14 % 14) (v % 14))) (fun v _ => ⟨gr_ind_1 _, fun x hx => by
      try dsimp only at hx ⊢
      obtain ⟨c, i, j, e, hc, hi, hj, h0, h⟩ := hx
      rw [e, q c i j (by omega) (by omega), h0]
      refine Nat.le_of_eq (gr_ind_t (gr_sp_cl c i j hc hi ?_))
      rcases h with h | h | ⟨k, h | h⟩ | ⟨k, m, h1, h2, h3, h4⟩
      · exact Or.inl h
      · exact Or.inr (Or.inl h)
      · try dsimp only at h
        rw [q _ i j (by omega) (by omega)] at h
        exact Or.inr (Or.inr (Or.inl ⟨k, Or.inl (gr_ind_0 h)⟩))
      · try dsimp only at h
        rw [q _ i j (by omega) (by omega)] at h
        exact Or.inr (Or.inr (Or.inl ⟨k, Or.inr (gr_ind_0 h)⟩))
      · try dsimp only at h3 h4
        rw [q _ i m (by omega) (by omega)] at h3
        rw [q _ m j (by omega) (by omega)] at h4
        exact Or.inr (Or.inr (Or.inr ⟨k, m, h1, h2, gr_ind_0 h3, gr_ind_0 h4⟩))⟩) ((c * 14 + i) * 14 + j) (by omega)
    try dsimp only at h1
    rw [q c i j (by omega) (by omega)] at h1
    exact gr_ind_0 (by omega)
  · intro h
    refine h (fun c i j => j ≤ n → D ((c * 14 + i) * 14 + j) = 0) ?_ hj
    intro c i j hc hij h hj
    refine Nat.le_zero.mp (G.2.1 _ (by omega) 0 ⟨c, i, j, rfl, hc, hij, hj, rfl, ?_⟩)
    rcases h with h | h | ⟨k, h | h⟩ | ⟨k, m, h1, h2, h3, h4⟩
    · exact Or.inl h
    · exact Or.inr (Or.inl h)
    · exact Or.inr (Or.inr (Or.inl ⟨k, Or.inl (h hj)⟩))
    · exact Or.inr (Or.inr (Or.inl ⟨k, Or.inr (h hj)⟩))
    · exact Or.inr (Or.inr (Or.inr ⟨k, m, h1, h2, h3 (by omega), h4 hj⟩))
/-- an input's tails end at 0 where the rest of the input is a word -/
theorem gr_zero {B n : Nat} {Ls : Nat → Nat} {T : Nat → Nat → Nat} (hB : 1 ≤ B) (wf : gr_wf C K L R) (GL : fx_Good C B (of_L K L R) Ls)
    (h0 : ∀ c, c < C → T n c = Ls c) (hT : ∀ i, i < n → fx_Good C B (of_T K L R tk (gr_Sp C K L R tk) Ls T i n) (T i))
    {c i : Nat} (hc : c < C) (hi : i ≤ n) (h : gr_Sp C K L R tk c i n) : T i c = 0 := by
  refine (h (fun c i j => gr_Sp C K L R tk c i j ∧ (j = n → c < C → i ≤ n → T i c = 0)) ?_).2 rfl hc hi
  intro c i j hc hij h
  constructor
  · refine gr_sp_cl c i j hc hij ?_
    rcases h with h | h | ⟨k, h | h⟩ | ⟨k, m, h1, h2, h3, h4⟩
    · exact Or.inl h
    · exact Or.inr (Or.inl h)
    · exact Or.inr (Or.inr (Or.inl ⟨k, Or.inl h.1⟩))
    · exact Or.inr (Or.inr (Or.inl ⟨k, Or.inr h.1⟩))
    · exact Or.inr (Or.inr (Or.inr ⟨k, m, h1, h2, h3.1, h4.1⟩))
  · intro ej _ hi
    subst ej
    by_cases e : i = j
    · subst e
      rw [h0 c hc, gr_null hB wf GL hc i (tk := tk)]
      refine gr_sp_cl c i i hc hij ?_
      rcases h with h | h | ⟨k, h | h⟩ | ⟨k, m, h1, h2, h3, h4⟩
      · exact Or.inl h
      · exact Or.inr (Or.inl h)
      · exact Or.inr (Or.inr (Or.inl ⟨k, Or.inl h.1⟩))
      · exact Or.inr (Or.inr (Or.inl ⟨k, Or.inr h.1⟩))
      · exact Or.inr (Or.inr (Or.inr ⟨k, m, h1, h2, h3.1, h4.1⟩))
    · have GT := hT i (by omega)
      rcases h with ⟨k, h⟩ | ⟨k, h1, h2⟩ | ⟨k, h | h⟩ | ⟨k, m, h1, h2, h3, h4⟩
      · exact absurd h e
      · have := GT.2.1 c hc 0 (Or.inl ⟨k, h1.symm, h2, rfl⟩)
        omega
      · have := GT.2.1 c hc _ (Or.inr (Or.inl ⟨k, Or.inl rfl⟩))
        have := h.2 rfl (wf c hc (Or.inl k)).1 hi
        omega
      · have := GT.2.1 c hc _ (Or.inr (Or.inl ⟨k, Or.inr rfl⟩))
        have := h.2 rfl (wf c hc (Or.inl k)).2 hi
        omega
      · have hr := h4.2 rfl (wf c hc (Or.inr k)).2 h2
        by_cases e1 : m = i
        · subst e1
          have := GT.2.1 c hc _ (Or.inr (Or.inr ⟨k, Or.inr (Or.inl ⟨h3.1, rfl⟩)⟩))
          omega
        · by_cases e2 : m = j
          · subst e2
            have a := GT.2.1 c hc _ (Or.inr (Or.inr ⟨k, Or.inl rfl⟩))
            have b := h3.2 rfl (wf c hc (Or.inr k)).1 hi
            rw [← h0 _ (wf c hc (Or.inr k)).2] at a
            omega
          · have := GT.2.1 c hc _ (Or.inr (Or.inr ⟨k, Or.inr (Or.inr ⟨m, by omega, by omega, h3.1, rfl⟩)⟩))
            omega
def gr_pT (C n : Nat) (T : Nat → Nat → Nat) (v : Nat) : Nat := if v % 14 ≤ n then (if v / 14 < C then T (v % 14) (v / 14) else 0) else 0
theorem gr_pT_at {n : Nat} {T : Nat → Nat → Nat} (hn : n ≤ 13) (a p : Nat) (ha : a < C) (hp : p ≤ n) : gr_pT C n T (a * 14 + p) = T p a := by
  unfold gr_pT
  rw [show (a * 14 + p) % 14 = p from by omega, show (a * 14 + p) / 14 = a from by omega, if_pos hp, if_pos ha]
theorem gr_tail {B N n : Nat} {Ls Dr : Nat → Nat} {T : Nat → Nat → Nat} (hB : 1 ≤ B) (hn : n ≤ 13) (hN : C * 14 ≤ N) (wf : gr_wf C K L R) (GL : fx_Good C B (of_L K L R) Ls)
    (h0 : ∀ c, c < C → T n c = Ls c) (hT : ∀ i, i < n → fx_Good C B (of_T K L R tk (gr_Sp C K L R tk) Ls T i n) (T i))
    (GR : fx_Good N B (of_R C K L R tk (gr_Sp C K L R tk) n) Dr) {c i : Nat} (hc : c < C) (hi : i ≤ n) : T i c = Dr (c * 14 + i) := by
  have hn0 : ∀ c, c < C → Dr (c * 14 + n) ≤ T n c := by
    intro c hc
    rw [h0 c hc]
    refine GL.2.2.1 (fun c => Dr (c * 14 + n)) (fun c hc => ⟨GR.1 _ (by omega), fun x hx => ?_⟩) c hc
    refine GR.2.1 _ (by omega) x ⟨c, n, rfl, hc, Nat.le_refl _, ?_⟩
    rcases hx with ⟨k, hx⟩ | ⟨k, hx⟩ | ⟨k, hx | hx⟩ | ⟨k, hx⟩
    · exact Or.inl ⟨k, rfl, hx⟩
    · exact Or.inr (Or.inl ⟨k, rfl, hx⟩)
    · exact Or.inr (Or.inr (Or.inr (Or.inl ⟨k, Or.inl hx⟩)))
    · exact Or.inr (Or.inr (Or.inr (Or.inl ⟨k, Or.inr hx⟩)))
    · exact Or.inr (Or.inr (Or.inr (Or.inr ⟨k, Or.inl hx⟩)))
  have ge : ∀ d i, i + d = n → ∀ c, c < C → Dr (c * 14 + i) ≤ T i c := by
    intro d
    induction d using Nat.strongRecOn with
    | ind d ih =>
      intro i hd
      by_cases e : d = 0
      · have e2 : i = n := by omega
        rw [e2]
        exact hn0
      · intro c hc
        refine (hT i (by omega)).2.2.1 (fun c => Dr (c * 14 + i)) (fun c hc => ⟨GR.1 _ (by omega), fun x hx => ?_⟩) c hc
        have o : ∀ y, of_R C K L R tk (gr_Sp C K L R tk) n Dr (c * 14 + i) y → Dr (c * 14 + i) ≤ y := GR.2.1 _ (by omega)
        show Dr (c * 14 + i) ≤ x
        rcases hx with ⟨k, h1, h2, h3⟩ | ⟨k, hx | hx⟩ | ⟨k, hx | ⟨h1, h2⟩ | ⟨m, h1, h2, h3, h4⟩⟩
        · exact o x ⟨c, i, rfl, hc, by omega, Or.inr (Or.inr (Or.inl ⟨k, h1, h2, h3⟩))⟩
        · exact o x ⟨c, i, rfl, hc, by omega, Or.inr (Or.inr (Or.inr (Or.inl ⟨k, Or.inl hx⟩)))⟩
        · exact o x ⟨c, i, rfl, hc, by omega, Or.inr (Or.inr (Or.inr (Or.inl ⟨k, Or.inr hx⟩)))⟩
        · have a := o _ ⟨c, i, rfl, hc, by omega, Or.inr (Or.inr (Or.inr (Or.inr ⟨k, Or.inl rfl⟩)))⟩
          have b := hn0 _ (wf c hc (Or.inr k)).2
          rw [h0 _ (wf c hc (Or.inr k)).2] at b
          try dsimp only at hx
          omega
        · exact o x ⟨c, i, rfl, hc, by omega, Or.inr (Or.inr (Or.inr (Or.inr ⟨k, Or.inr ⟨i, Nat.le_refl _, by omega, h1, h2⟩⟩)))⟩
        · have a := o _ ⟨c, i, rfl, hc, by omega, Or.inr (Or.inr (Or.inr (Or.inr ⟨k, Or.inr ⟨m, by omega, by omega, h3, rfl⟩⟩)))⟩
          have b := ih (n - m) (by omega) m (by omega) _ (wf c hc (Or.inr k)).2
          omega
  have bT : ∀ i c, i ≤ n → c < C → T i c ≤ B := by
    intro i c hi hc
    by_cases e : i = n
    · rw [e, h0 c hc]; exact GL.1 c hc
    · exact (hT i (by omega)).1 c hc
  have hp : ∀ v, v < N → gr_pT C n T v ≤ B ∧ ∀ x, of_R C K L R tk (gr_Sp C K L R tk) n (gr_pT C n T) v x → gr_pT C n T v ≤ x := by
    intro v _
    refine ⟨?_, fun x hx => ?_⟩
    · unfold gr_pT
      by_cases e1 : v % 14 ≤ n
      · rw [if_pos e1]
        by_cases e2 : v / 14 < C
        · rw [if_pos e2]; exact bT _ _ e1 e2
        · rw [if_neg e2]; omega
      · rw [if_neg e1]; omega
    · have q := fun a p => gr_pT_at (C := C) (T := T) hn a p
      obtain ⟨c, i, ev, hc, hi, hx⟩ := hx
      rw [ev, q c i hc hi]
      by_cases e : i = n
      · subst e
        have o : ∀ y, of_L K L R Ls c y → T i c ≤ y := fun y hy => by rw [h0 c hc]; exact GL.2.1 c hc y hy
        rcases hx with ⟨k, _, hx⟩ | ⟨k, _, hx⟩ | ⟨k, hx, _⟩ | ⟨k, hx | hx⟩ | ⟨k, hx | ⟨m, h1, h2, h3, h4⟩⟩
        · exact o x (Or.inl ⟨k, hx⟩)
        · exact o x (Or.inr (Or.inl ⟨k, hx⟩))
        · omega
        · rw [q _ _ (wf c hc (Or.inl k)).1 hi] at hx
          rw [hx, h0 _ (wf c hc (Or.inl k)).1]
          exact o _ (Or.inr (Or.inr (Or.inl ⟨k, Or.inl rfl⟩)))
        · rw [q _ _ (wf c hc (Or.inl k)).2 hi] at hx
          rw [hx, h0 _ (wf c hc (Or.inl k)).2]
          exact o _ (Or.inr (Or.inr (Or.inl ⟨k, Or.inr rfl⟩)))
        · rw [q _ _ (wf c hc (Or.inr k)).1 hi, q _ _ (wf c hc (Or.inr k)).2 hi] at hx
          rw [hx, h0 _ (wf c hc (Or.inr k)).1, h0 _ (wf c hc (Or.inr k)).2]
          exact o _ (Or.inr (Or.inr (Or.inr ⟨k, rfl⟩)))
        · have em : m = i := by omega
          subst em
          rw [q _ _ (wf c hc (Or.inr k)).2 hi] at h4
          have a := o _ (Or.inr (Or.inr (Or.inr ⟨k, rfl⟩)))
          have b := (gr_null hB wf GL (wf c hc (Or.inr k)).1 m (tk := tk)).2 h3
          rw [h0 _ (wf c hc (Or.inr k)).2] at h4
          omega
      · have o : ∀ y, of_T K L R tk (gr_Sp C K L R tk) Ls T i n (T i) c y → T i c ≤ y := fun y hy => (hT i (by omega)).2.1 c hc y hy
        rcases hx with ⟨k, hx, _⟩ | ⟨k, hx, _⟩ | ⟨k, h1, h2, h3⟩ | ⟨k, hx | hx⟩ | ⟨k, hx | ⟨m, h1, h2, h3, h4⟩⟩
        · exact absurd hx e
        · exact absurd hx e
        · exact o x (Or.inl ⟨k, h1, h2, h3⟩)
        · rw [q _ _ (wf c hc (Or.inl k)).1 hi] at hx
          exact o x (Or.inr (Or.inl ⟨k, Or.inl hx⟩))
        · rw [q _ _ (wf c hc (Or.inl k)).2 hi] at hx
          exact o x (Or.inr (Or.inl ⟨k, Or.inr hx⟩))
        · rw [q _ _ (wf c hc (Or.inr k)).1 hi, q _ _ (wf c hc (Or.inr k)).2 (Nat.le_refl _)] at hx
          rw [h0 _ (wf c hc (Or.inr k)).2] at hx
          exact o x (Or.inr (Or.inr ⟨k, Or.inl hx⟩))
        · rw [q _ _ (wf c hc (Or.inr k)).2 h2] at h4
          by_cases e1 : m = i
          · subst e1
            exact o x (Or.inr (Or.inr ⟨k, Or.inr (Or.inl ⟨h3, h4⟩)⟩))
          · by_cases e2 : m = n
            · subst e2
              have a := o _ (Or.inr (Or.inr ⟨k, Or.inl rfl⟩))
              have b := gr_zero hB wf GL h0 hT (wf c hc (Or.inr k)).1 hi h3
              rw [h0 _ (wf c hc (Or.inr k)).2] at h4
              omega
            · exact o x (Or.inr (Or.inr ⟨k, Or.inr (Or.inr ⟨m, by omega, by omega, h3, h4⟩)⟩))
  have h1 := GR.2.2.1 (gr_pT C n T) hp (c * 14 + i) (by omega)
  rw [gr_pT_at hn c i hc hi] at h1
  have := ge (n - i) i (by omega) c hc
  omega
end
