/-! words as lists of tokens; a tail is the least number of tokens that complete -/
theorem fx_bound {N B : Nat} {Of : (Nat → Nat) → Nat → Nat → Prop} {D : Nat → Nat} (G : fx_Good N B Of D) (hm : fx_Mono N Of) (b : Nat → Nat) (hb : ∀ k, b k ≤ b (k + 1))
    (hs : ∀ k v x, v < N → Of (fun u => if D u ≤ b k then D u else B) v x → x < B → x ≤ b (k + 1)) : ∀ v, v < N → D v < B → D v ≤ b N := by
  have key : ∀ k, k ≤ fx_cnt (fun v => decide (D v ≤ b k)) N ∨ ∀ v, v < N → D v < B → D v ≤ b k := by
    intro k
    induction k with
    | zero => exact Or.inl (Nat.zero_le _)
    | succ k ih =>
      by_cases h : ∀ v, v < N → D v < B → D v ≤ b k
      · exact Or.inr (fun v hv hl => Nat.le_trans (h v hv hl) (hb k))
      · rcases ih with ih | ih
        · left
          have hx : ∃ v, v < N ∧ (fun u => if D u ≤ b k then D u else B) v ≠ D v := by
            by_cases h2 : ∃ v, v < N ∧ D v < B ∧ ¬ D v ≤ b k
            · obtain ⟨v, h3, h4, h5⟩ := h2
              refine ⟨v, h3, ?_⟩
              try dsimp only
              rw [if_neg h5]
              omega
            · exact absurd (fun v h3 h4 => Classical.byContradiction (fun z => h2 ⟨v, h3, h4, z⟩)) h
          obtain ⟨v, hv, hn, x, hxD, ho⟩ := G.2.2.2 _ (fun v hv => by
            have := G.1 v hv
            try dsimp only
            by_cases e : D v ≤ b k
            · rw [if_pos e]; omega
            · rw [if_neg e]; omega) hx
          try dsimp only at hn
          have h1 : ¬ D v ≤ b k := fun e => hn (if_pos e)
          rw [if_neg h1] at hn
          have h2 := G.1 v hv
          have h3 := hs k v x hv ho (by omega)
          obtain ⟨y, hy, oy⟩ := hm _ D v x hv (fun u hu => by
            have := G.1 u hu
            try dsimp only
            by_cases e : D u ≤ b k
            · rw [if_pos e]; exact Nat.le_refl _
            · rw [if_neg e]; exact this) ho
          have h4 := G.2.1 v hv y oy
          refine Nat.lt_of_le_of_lt ih (fx_cnt_lt N (fun u _ h => ?_) ⟨v, hv, decide_eq_false h1, decide_eq_true (by omega)⟩)
          rw [decide_eq_true_eq] at h ⊢
          exact Nat.le_trans h (hb k)
        · exact absurd ih h
  intro v hv hl
  rcases key N with h | h
  · have := fx_cnt_full (p := fun v => decide (D v ≤ b N)) (q := fun _ => true) (n := N) (fun _ _ _ => rfl) (by rw [fx_cnt_all]; exact h) v hv rfl
    exact of_decide_eq_true this
  · exact h v hv hl
def wd_s (w : Nat → Int32) : Nat → Nat → List Int32
  | _, 0 => []
  | i, k + 1 => w i :: wd_s w (i + 1) k
theorem wd_len (w : Nat → Int32) : ∀ k i, (wd_s w i k).length = k := by
  intro k
  induction k with
  | zero => intro i; rfl
  | succ k ih => intro i; exact congrArg (· + 1) (ih (i + 1))
theorem wd_add (w : Nat → Int32) : ∀ a i b, wd_s w i (a + b) = wd_s w i a ++ wd_s w (i + a) b := by
  intro a
  induction a with
  | zero => intro i b; rw [Nat.zero_add]; rfl
  | succ a ih =>
    intro i b
    rw [show a + 1 + b = (a + b) + 1 from by omega]
    show w i :: wd_s w (i + 1) (a + b) = w i :: (wd_s w (i + 1) a ++ wd_s w (i + (a + 1)) b)
    rw [ih (i + 1) b, show i + 1 + a = i + (a + 1) from by omega]
theorem wd_split {w : Nat → Int32} {i m : Nat} {a b : List Int32} (h : wd_s w i m = a ++ b) : a.length ≤ m ∧ a = wd_s w i a.length ∧ b = wd_s w (i + a.length) (m - a.length) := by
  have hl : m = a.length + b.length := by
    have := congrArg List.length h
    rw [wd_len, List.length_append] at this
    exact this
  have e : wd_s w i m = wd_s w i a.length ++ wd_s w (i + a.length) (m - a.length) := by
    rw [← wd_add]
    exact congrArg (wd_s w i) (by omega)
  have := List.append_inj (h.symm.trans e) (by rw [wd_len])
  exact ⟨by omega, this.1, this.2⟩
theorem wd_ext {w w' : Nat → Int32} : ∀ k i, (∀ t, i ≤ t → t < i + k → w t = w' t) → wd_s w i k = wd_s w' i k := by
  intro k
  induction k with
  | zero => intro i _; rfl
  | succ k ih =>
    intro i h
    show w i :: wd_s w (i + 1) k = w' i :: wd_s w' (i + 1) k
    rw [h i (Nat.le_refl _) (by omega), ih (i + 1) (fun t a b => h t (by omega) (by omega))]
theorem wd_upd (w : Nat → Int32) (n : Nat) (x : Int32) : wd_s (upd w n x) 0 (n + 1) = wd_s w 0 n ++ [x] := by
  rw [wd_add, wd_ext (w := upd w n x) (w' := w) n 0 (fun t _ h => pk_un (by omega))]
  show _ ++ [upd w n x (0 + n)] = _
  rw [Nat.zero_add, pk_us]
section
variable (C : Nat) (K L R : Nat → Nat) (lf : Nat → Int32)
def la_cl (P : Nat → List Int32 → Prop) : Prop :=
  ∀ c u, c < C → ((K c = 1 ∧ u = []) ∨ (K c = 2 ∧ u = [lf c]) ∨ (K c = 3 ∧ (P (L c) u ∨ P (R c) u)) ∨ (K c = 4 ∧ ∃ a b, u = a ++ b ∧ P (L c) a ∧ P (R c) b)) → P c u
def la_In (c : Nat) (u : List Int32) : Prop := ∀ P, la_cl C K L R lf P → P c u
/-- x tokens complete the first n of w to a word of c, and no fewer; 16777216 if none do -/
def la_V (w : Nat → Int32) (n c x : Nat) : Prop :=
  x ≤ 16777216 ∧ (x < 16777216 → ∃ q : List Int32, q.length = x ∧ la_In C K L R lf c (wd_s w 0 n ++ q)) ∧ ∀ q, la_In C K L R lf c (wd_s w 0 n ++ q) → x ≤ q.length ∧ x < 16777216
end
section
variable {C : Nat} {K L R : Nat → Nat} {lf w : Nat → Int32}
theorem la_in : la_cl C K L R lf (la_In C K L R lf) := by
  intro c u hc h P hP
  refine hP c u hc ?_
  rcases h with h | h | ⟨k, h | h⟩ | ⟨k, a, b, e, h1, h2⟩
  · exact Or.inl h
  · exact Or.inr (Or.inl h)
  · exact Or.inr (Or.inr (Or.inl ⟨k, Or.inl (h P hP)⟩))
  · exact Or.inr (Or.inr (Or.inl ⟨k, Or.inr (h P hP)⟩))
  · exact Or.inr (Or.inr (Or.inr ⟨k, a, b, e, h1 P hP, h2 P hP⟩))
theorem la_V_u {n c x y : Nat} (h : la_V C K L R lf w n c x) (g : la_V C K L R lf w n c y) : x = y := by
  by_cases hx : x < 16777216
  · obtain ⟨q, e, o⟩ := h.2.1 hx
    have a := g.2.2 q o
    obtain ⟨q2, e2, o2⟩ := g.2.1 a.2
    have b := h.2.2 q2 o2
    omega
  · by_cases hy : y < 16777216
    · obtain ⟨q, e, o⟩ := g.2.1 hy
      have a := h.2.2 q o
      omega
    · have := h.1
      have := g.1
      omega
theorem la_V_w {n c x : Nat} {w' : Nat → Int32} (h : la_V C K L R lf w n c x) (e : ∀ t, t < n → w t = w' t) : la_V C K L R lf w' n c x := by
  unfold la_V at h ⊢
  rw [← wd_ext (w := w) (w' := w') n 0 (fun t _ b => e t (by omega))]
  exact h
theorem la_sp {c i j : Nat} (h : gr_Sp C K L R (fun i c => w i = lf c) c i j) : la_In C K L R lf c (wd_s w i (j - i)) := by
  refine h (fun c i j => la_In C K L R lf c (wd_s w i (j - i))) ?_
  intro c i j hc hij h
  refine la_in c _ hc ?_
  rcases h with ⟨k, e⟩ | ⟨k, e, t⟩ | ⟨k, h | h⟩ | ⟨k, m, h1, h2, h3, h4⟩
  · rw [e, Nat.sub_self]
    exact Or.inl ⟨k, rfl⟩
  · rw [e, Nat.add_sub_cancel_left, ← t]
    exact Or.inr (Or.inl ⟨k, rfl⟩)
  · exact Or.inr (Or.inr (Or.inl ⟨k, Or.inl h⟩))
  · exact Or.inr (Or.inr (Or.inl ⟨k, Or.inr h⟩))
  · refine Or.inr (Or.inr (Or.inr ⟨k, _, _, ?_, h3, h4⟩))
    have := wd_add w (m - i) i (j - m)
    rw [show m - i + (j - m) = j - i from by omega, show i + (m - i) = m from by omega] at this
    exact this
theorem la_ps {c : Nat} {u : List Int32} (h : la_In C K L R lf c u) : ∀ i, u = wd_s w i u.length → gr_Sp C K L R (fun i c => w i = lf c) c i (i + u.length) := by
  refine h (fun c u => ∀ i, u = wd_s w i u.length → gr_Sp C K L R (fun i c => w i = lf c) c i (i + u.length)) ?_
  intro c u hc h i e
  refine gr_sp_cl c i (i + u.length) hc (by omega) ?_
  rcases h with ⟨k, e2⟩ | ⟨k, e2⟩ | ⟨k, h | h⟩ | ⟨k, a, b, e2, h1, h2⟩
  · rw [e2]
    exact Or.inl ⟨k, rfl⟩
  · rw [e2] at e ⊢
    have : [lf c] = [w i] := e
    exact Or.inr (Or.inl ⟨k, rfl, by injection this with h; exact h.symm⟩)
  · exact Or.inr (Or.inr (Or.inl ⟨k, Or.inl (h i e)⟩))
  · exact Or.inr (Or.inr (Or.inl ⟨k, Or.inr (h i e)⟩))
  · have s := wd_split (w := w) (i := i) (m := u.length) (a := a) (b := b) (by rw [← e]; exact e2)
    have hl : u.length = a.length + b.length := by rw [e2, List.length_append]
    refine Or.inr (Or.inr (Or.inr ⟨k, i + a.length, by omega, by omega, h1 i s.2.1, ?_⟩))
    have := h2 (i + a.length) (by rw [← show u.length - a.length = b.length from by omega]; exact s.2.2)
    rw [hl, ← Nat.add_assoc]
    exact this
theorem la_tok {A : Nat} (hA : ∀ c, c < C → K c = 2 → ∃ a, a < A ∧ lf c = nI a) {c : Nat} {u : List Int32} (h : la_In C K L R lf c u) : ∀ t, t ∈ u → ∃ a, a < A ∧ t = nI a := by
  refine h (fun c u => ∀ t, t ∈ u → ∃ a, a < A ∧ t = nI a) ?_
  intro c u hc h t ht
  rcases h with ⟨k, e⟩ | ⟨k, e⟩ | ⟨k, h | h⟩ | ⟨k, a, b, e, h1, h2⟩
  · rw [e] at ht
    exact absurd ht (List.not_mem_nil)
  · rw [e, List.mem_singleton] at ht
    rw [ht]
    exact hA c hc k
  · exact h t ht
  · exact h t ht
  · rw [e, List.mem_append] at ht
    rcases ht with ht | ht
    · exact h1 t ht
    · exact h2 t ht
theorem la_bL {D : Nat → Nat} (wf : gr_wf C K L R) (G : fx_Good C 16777216 (of_L K L R) D) {c : Nat} (hc : c < C) (h : D c < 16777216) : D c ≤ 2 ^ C := by
  refine fx_bound G (of_L_m wf) (fun k => 2 ^ k) (fun k => Nat.pow_le_pow_right (by omega) (by omega)) (fun k v x hv ho hx => ?_) c hc h
  have p : 1 ≤ 2 ^ k := Nat.one_le_two_pow
  have e : 2 ^ (k + 1) = 2 ^ k * 2 := Nat.pow_succ 2 k
  have q : ∀ u, (if D u ≤ 2 ^ k then D u else 16777216) < 16777216 → (if D u ≤ 2 ^ k then D u else 16777216) ≤ 2 ^ k := by
    intro u hu
    by_cases z : D u ≤ 2 ^ k
    · rw [if_pos z]; exact z
    · rw [if_neg z] at hu; omega
  show x ≤ 2 ^ (k + 1)
  rw [e]
  rcases ho with ⟨_, ho⟩ | ⟨_, ho⟩ | ⟨_, ho | ho⟩ | ⟨_, ho⟩
  · omega
  · omega
  · dsimp only at ho
    have := q (L v) (by omega); omega
  · dsimp only at ho
    have := q (R v) (by omega); omega
  · dsimp only at ho
    have := q (L v) (by omega)
    have := q (R v) (by omega)
    omega
theorem la_bT {D : Nat → Nat} {T : Nat → Nat → Nat} {n : Nat} (hC : C = 8) (wf : gr_wf C K L R) (G : fx_Good C 16777216 (of_L K L R) D)
    (h0 : ∀ c, c < C → T n c = D c) (hT : ∀ i, i < n → fx_Good C 16777216 (of_T K L R (fun i c => w i = lf c) (gr_Sp C K L R (fun i c => w i = lf c)) D T i n) (T i)) :
    ∀ d i, i + d = n → ∀ c, c < C → T i c < 16777216 → T i c ≤ 256 + d * 2048 := by
  have bL : ∀ c, c < C → D c < 16777216 → D c ≤ 256 := fun c hc h => by
    have := la_bL wf G hc h
    rw [hC] at this
    exact this
  intro d
  induction d using Nat.strongRecOn with
  | ind d ih =>
    intro i hd c hc h
    by_cases e : d = 0
    · have e2 : i = n := by omega
      rw [e2, h0 c hc] at h ⊢
      have := bL c hc h
      omega
    · have key := fx_bound (hT i (by omega)) (of_T_m _ _ _ i n wf) (fun k => (256 + (d - 1) * 2048) + k * 256) (fun k => by omega) (fun k v x hv ho hx => ?_) c hc h
      · rw [hC] at key
        omega
      · have q : ∀ u, (if T i u ≤ (256 + (d - 1) * 2048) + k * 256 then T i u else 16777216) < 16777216 → (if T i u ≤ (256 + (d - 1) * 2048) + k * 256 then T i u else 16777216) ≤ (256 + (d - 1) * 2048) + k * 256 := by
          intro u hu
          by_cases z : T i u ≤ (256 + (d - 1) * 2048) + k * 256
          · rw [if_pos z]; exact z
          · rw [if_neg z] at hu; omega
        show x ≤ (256 + (d - 1) * 2048) + (k + 1) * 256
        rcases ho with ⟨_, _, _, ho⟩ | ⟨_, ho | ho⟩ | ⟨kk, ho | ⟨_, ho⟩ | ⟨m, h1, h2, h3, ho⟩⟩
        · omega
        · dsimp only at ho
          have := q (L v) (by omega); omega
        · dsimp only at ho
          have := q (R v) (by omega); omega
        · dsimp only at ho
          have a := q (L v) (by omega)
          have b := bL (R v) (wf v hv (Or.inr kk)).2 (by omega)
          omega
        · dsimp only at ho
          have := q (R v) (by omega); omega
        · have := ih (n - m) (by omega) m (by omega) (R v) (wf v hv (Or.inr kk)).2 (by omega)
          omega
theorem la_up {D : Nat → Nat} {T : Nat → Nat → Nat} {n : Nat} (hC : C = 8) (hn : n ≤ 13) (wf : gr_wf C K L R) (G : fx_Good C 16777216 (of_L K L R) D)
    (h0 : ∀ c, c < C → T n c = D c) (hT : ∀ i, i < n → fx_Good C 16777216 (of_T K L R (fun i c => w i = lf c) (gr_Sp C K L R (fun i c => w i = lf c)) D T i n) (T i))
    {c : Nat} {u : List Int32} (hc : c < C) (h : la_In C K L R lf c u) : ∀ i q, i ≤ n → u = wd_s w i (n - i) ++ q → T i c ≤ q.length ∧ T i c < 16777216 := by
  refine (h (fun c u => la_In C K L R lf c u ∧ (c < C → ∀ i q, i ≤ n → u = wd_s w i (n - i) ++ q → T i c ≤ q.length ∧ T i c < 16777216)) ?_).2 hc
  intro c u hc h
  constructor
  · refine la_in c u hc ?_
    rcases h with h | h | ⟨k, h | h⟩ | ⟨k, a, b, e, h1, h2⟩
    · exact Or.inl h
    · exact Or.inr (Or.inl h)
    · exact Or.inr (Or.inr (Or.inl ⟨k, Or.inl h.1⟩))
    · exact Or.inr (Or.inr (Or.inl ⟨k, Or.inr h.1⟩))
    · exact Or.inr (Or.inr (Or.inr ⟨k, a, b, e, h1.1, h2.1⟩))
  · intro _ i q hi e
    have oL : i = n → ∀ y, of_L K L R D c y → T i c ≤ y := fun e y hy => by rw [e, h0 c hc]; exact G.2.1 c hc y hy
    have oT : i < n → ∀ y, of_T K L R (fun i c => w i = lf c) (gr_Sp C K L R (fun i c => w i = lf c)) D T i n (T i) c y → T i c ≤ y := fun e y hy => (hT i e).2.1 c hc y hy
    have hlen : u.length = (n - i) + q.length := by rw [e, List.length_append, wd_len]
    rcases h with ⟨k, e2⟩ | ⟨k, e2⟩ | ⟨k, h | h⟩ | ⟨k, a, b, e2, h1, h2⟩
    · rw [e2] at hlen
      have : ([] : List Int32).length = 0 := rfl
      have := oL (by omega) 0 (Or.inl ⟨k, rfl⟩)
      omega
    · have e3 : u.length = 1 := by rw [e2]; rfl
      by_cases z : i = n
      · have := oL z 1 (Or.inr (Or.inl ⟨k, rfl⟩))
        omega
      · have e4 : n - i = 1 := by omega
        rw [e4, e2] at e
        have e5 : [lf c] = w i :: ([] ++ q) := e
        injection e5 with e6 _
        have := oT (by omega) 0 (Or.inl ⟨k, by omega, e6.symm, rfl⟩)
        omega
    · have a := h.2 (wf c hc (Or.inl k)).1 i q hi e
      by_cases z : i = n
      · have := oL z _ (Or.inr (Or.inr (Or.inl ⟨k, Or.inl rfl⟩)))
        rw [← h0 _ (wf c hc (Or.inl k)).1, ← z] at this
        omega
      · have := oT (by omega) _ (Or.inr (Or.inl ⟨k, Or.inl rfl⟩))
        omega
    · have a := h.2 (wf c hc (Or.inl k)).2 i q hi e
      by_cases z : i = n
      · have := oL z _ (Or.inr (Or.inr (Or.inl ⟨k, Or.inr rfl⟩)))
        rw [← h0 _ (wf c hc (Or.inl k)).2, ← z] at this
        omega
      · have := oT (by omega) _ (Or.inr (Or.inl ⟨k, Or.inr rfl⟩))
        omega
    · have wl := (wf c hc (Or.inr k)).1
      have wr := (wf c hc (Or.inr k)).2
      rcases List.append_eq_append_iff.mp (e2.symm.trans e) with ⟨a', p1, p2⟩ | ⟨c', p1, p2⟩
      · obtain ⟨s1, s2, s3⟩ := wd_split p1
        have vr := h2.2 wr (i + a.length) q (by omega) (by rw [p2, s3, show n - (i + a.length) = n - i - a.length from by omega])
        by_cases z : i = n
        · have e3 : a.length = 0 := by omega
          have vl := h1.2 wl i [] hi (by rw [List.append_nil, show n - i = a.length from by omega]; exact s2)
          have := oL z _ (Or.inr (Or.inr (Or.inr ⟨k, rfl⟩)))
          rw [← h0 _ wl, ← h0 _ wr, ← z] at this
          rw [e3, Nat.add_zero] at vr
          have : ([] : List Int32).length = 0 := rfl
          omega
        · by_cases z2 : a.length = n - i
          · have vl := h1.2 wl i [] hi (by rw [List.append_nil, ← z2]; exact s2)
            have bl := la_bT hC wf G h0 hT (n - i) i (by omega) _ wl vl.2
            have a1 := oT (by omega) _ (Or.inr (Or.inr ⟨k, Or.inl rfl⟩))
            rw [← h0 _ wr] at a1
            rw [show i + a.length = n from by omega] at vr
            have : ([] : List Int32).length = 0 := rfl
            have br := la_bT hC wf G h0 hT 0 n (by omega) _ wr vr.2
            omega
          · have sp := la_ps h1.1 i s2
            by_cases z3 : a.length = 0
            · rw [z3, Nat.add_zero] at sp vr
              have a1 := oT (by omega) _ (Or.inr (Or.inr ⟨k, Or.inr (Or.inl ⟨sp, rfl⟩)⟩))
              omega
            · have a1 := oT (by omega) _ (Or.inr (Or.inr ⟨k, Or.inr (Or.inr ⟨i + a.length, by omega, by omega, sp, rfl⟩)⟩))
              omega
      · have vl := h1.2 wl i c' hi p1
        have vr := h2.2 wr n b (Nat.le_refl _) (by rw [Nat.sub_self]; rfl)
        have bl := la_bT hC wf G h0 hT (n - i) i (by omega) _ wl vl.2
        have br := la_bT hC wf G h0 hT 0 n (by omega) _ wr vr.2
        have hq : q.length = c'.length + b.length := by rw [p2, List.length_append]
        by_cases z : i = n
        · have := oL z _ (Or.inr (Or.inr (Or.inr ⟨k, rfl⟩)))
          rw [← h0 _ wl, ← h0 _ wr, ← z] at this
          rw [← z] at vr br
          omega
        · have a1 := oT (by omega) _ (Or.inr (Or.inr ⟨k, Or.inl rfl⟩))
          rw [← h0 _ wr] at a1
          omega
end
