section
/-! counting, and least solutions of systems of offers (values up to B) by rounds -/
theorem pk_least (P : Nat → Prop) (h : ∃ k, P k) : ∃ k, P k ∧ ∀ j, j < k → ¬ P j := by
  obtain ⟨k, hk⟩ := h
  induction k using Nat.strongRecOn with
  | ind k ih =>
    by_cases h : ∃ j, j < k ∧ P j
    · obtain ⟨j, hj, hp⟩ := h
      exact ih j hj hp
    · exact ⟨k, hk, fun j hj hp => h ⟨j, hj, hp⟩⟩
def fx_cnt (p : Nat → Bool) : Nat → Nat
  | 0 => 0
  | n + 1 => fx_cnt p n + (p n).toNat
theorem fx_tn {a b : Bool} (h : a = true → b = true) : a.toNat ≤ b.toNat := by
  cases a with
  | false => exact Nat.zero_le _
  | true => rw [h rfl]; first | done | exact Nat.le_refl _
theorem fx_cnt_mono {p q : Nat → Bool} : ∀ n, (∀ v, v < n → p v = true → q v = true) → fx_cnt p n ≤ fx_cnt q n := by
  intro n
  induction n with
  | zero => intro _; exact Nat.le_refl _
  | succ n ih =>
    intro h
    have h1 := ih (fun v hv => h v (by omega))
    have h2 := fx_tn (h n (by omega))
    show fx_cnt p n + (p n).toNat ≤ fx_cnt q n + (q n).toNat
    omega
theorem fx_cnt_lt {p q : Nat → Bool} : ∀ n, (∀ v, v < n → p v = true → q v = true) → (∃ v, v < n ∧ p v = false ∧ q v = true) → fx_cnt p n < fx_cnt q n := by
  intro n
  induction n with
  | zero => intro _ h; obtain ⟨v, hv, _⟩ := h; omega
  | succ n ih =>
    intro h hx
    obtain ⟨v, hv, hp, hq⟩ := hx
    have h1 := fx_cnt_mono n (fun v hv => h v (by omega))
    show fx_cnt p n + (p n).toNat < fx_cnt q n + (q n).toNat
    by_cases e : v = n
    · rw [e] at hp hq
      rw [hp, hq]
      show fx_cnt p n + 0 < fx_cnt q n + 1
      omega
    · have h2 := ih (fun v hv => h v (by omega)) ⟨v, by omega, hp, hq⟩
      have h3 := fx_tn (h n (by omega))
      omega
theorem fx_cnt_full {p q : Nat → Bool} {n : Nat} (h : ∀ v, v < n → p v = true → q v = true) (hc : fx_cnt q n ≤ fx_cnt p n) : ∀ v, v < n → q v = true → p v = true := by
  intro v hv hq
  cases hp : p v with
  | true => rfl
  | false => have := fx_cnt_lt n h ⟨v, hv, hp, hq⟩; omega
theorem fx_cnt_add (p : Nat → Bool) (a : Nat) : ∀ b, fx_cnt p (a + b) = fx_cnt p a + fx_cnt (fun u => p (a + u)) b := by
  intro b
  induction b with
  | zero => rfl
  | succ b ih =>
    show fx_cnt p (a + b) + (p (a + b)).toNat = fx_cnt p a + (fx_cnt (fun u => p (a + u)) b + (p (a + b)).toNat)
    omega
theorem fx_cnt_all : ∀ n, fx_cnt (fun _ => true) n = n := by
  intro n
  induction n with
  | zero => rfl
  | succ n ih => show fx_cnt (fun _ => true) n + 1 = n + 1; omega
def fx_tri (v : Nat) : Bool := decide (v / 14 % 14 ≤ v % 14)
theorem fx_tri_196 : fx_cnt fx_tri 196 = 105 := by decide +kernel
theorem fx_tri_cnt : ∀ c, fx_cnt fx_tri (c * 196) = c * 105 := by
  intro c
  induction c with
  | zero => rfl
  | succ c ih =>
    have e : (fun u => fx_tri (c * 196 + u)) = fx_tri := by
      funext u
      have h1 : (c * 196 + u) / 14 % 14 = u / 14 % 14 := by omega
      have h2 : (c * 196 + u) % 14 = u % 14 := by omega
      show decide ((c * 196 + u) / 14 % 14 ≤ (c * 196 + u) % 14) = decide (u / 14 % 14 ≤ u % 14)
      rw [h1, h2]
    rw [show (c + 1) * 196 = c * 196 + 196 from by omega, fx_cnt_add, e, ih, fx_tri_196]
    omega
section
variable {N B : Nat} {Of : (Nat → Nat) → Nat → Nat → Prop}
noncomputable def fx_F (B : Nat) (Of : (Nat → Nat) → Nat → Nat → Prop) (s : Nat → Nat) (v : Nat) : Nat :=
  Classical.choose (pk_least (fun x => x = B ∨ Of s v x) ⟨B, Or.inl rfl⟩)
theorem fx_F_spec (B : Nat) (Of : (Nat → Nat) → Nat → Nat → Prop) (s : Nat → Nat) (v : Nat) :
    (fx_F B Of s v = B ∨ Of s v (fx_F B Of s v)) ∧ ∀ j, j < fx_F B Of s v → ¬ (j = B ∨ Of s v j) :=
  Classical.choose_spec (pk_least (fun x => x = B ∨ Of s v x) ⟨B, Or.inl rfl⟩)
theorem fx_F_B (s : Nat → Nat) (v : Nat) : fx_F B Of s v ≤ B := by
  by_cases h : fx_F B Of s v ≤ B
  · exact h
  · exact absurd (Or.inl rfl) ((fx_F_spec B Of s v).2 B (by omega))
theorem fx_F_le {s : Nat → Nat} {v x : Nat} (ho : Of s v x) : fx_F B Of s v ≤ x := by
  by_cases h : fx_F B Of s v ≤ x
  · exact h
  · exact absurd (Or.inr ho) ((fx_F_spec B Of s v).2 x (by omega))
theorem fx_F_of {s : Nat → Nat} {v : Nat} (h : fx_F B Of s v < B) : Of s v (fx_F B Of s v) := by
  rcases (fx_F_spec B Of s v).1 with e | e
  · omega
  · exact e
noncomputable def fx_it (B : Nat) (Of : (Nat → Nat) → Nat → Nat → Prop) : Nat → Nat → Nat
  | 0 => fun _ => B
  | k + 1 => fun v => fx_F B Of (fx_it B Of k) v
def fx_Mono (N : Nat) (Of : (Nat → Nat) → Nat → Nat → Prop) : Prop :=
  ∀ (s t : Nat → Nat) (v x : Nat), v < N → (∀ u, u < N → t u ≤ s u) → Of s v x → ∃ y, y ≤ x ∧ Of t v y
def fx_Wit (N B : Nat) (Of : (Nat → Nat) → Nat → Nat → Prop) : Prop :=
  ∀ (D s : Nat → Nat) (v x : Nat), v < N → (∀ u, u < N → D u ≤ s u) → Of s v x → (∀ y, Of D v y → x ≤ y) → Of (fun u => if s u = D u then s u else B) v x
theorem fx_F_mono (hm : fx_Mono N Of) {s t : Nat → Nat} {v : Nat} (hv : v < N) (h : ∀ u, u < N → t u ≤ s u) : fx_F B Of t v ≤ fx_F B Of s v := by
  by_cases hB : fx_F B Of s v < B
  · obtain ⟨y, hy, oy⟩ := hm s t v _ hv h (fx_F_of hB)
    exact Nat.le_trans (fx_F_le oy) hy
  · have := fx_F_B (B := B) (Of := Of) t v
    omega
theorem fx_anti {f : Nat → Nat} (h : ∀ k, f (k + 1) ≤ f k) (k : Nat) : ∀ d, f (k + d) ≤ f k := by
  intro d
  induction d with
  | zero => exact Nat.le_refl _
  | succ d ih => exact Nat.le_trans (h (k + d)) ih
theorem fx_stab (f : Nat → Nat) (h : ∀ k, f (k + 1) ≤ f k) : ∃ K, ∀ k, K ≤ k → f k = f K := by
  obtain ⟨x, ⟨K, hK⟩, hmin⟩ := pk_least (fun x => ∃ k, f k = x) ⟨f 0, 0, rfl⟩
  refine ⟨K, fun k hk => ?_⟩
  have h1 := fx_anti h K (k - K)
  rw [show K + (k - K) = k from by omega] at h1
  by_cases h2 : f k < x
  · exact absurd ⟨k, rfl⟩ (hmin _ h2)
  · omega
theorem fx_stabN (f : Nat → Nat → Nat) : ∀ N, (∀ v, v < N → ∀ k, f (k + 1) v ≤ f k v) → ∃ K, ∀ k, K ≤ k → ∀ v, v < N → f k v = f K v := by
  intro N
  induction N with
  | zero => intro _; exact ⟨0, fun k _ v hv => absurd hv (by omega)⟩
  | succ N ih =>
    intro h
    obtain ⟨K1, h1⟩ := ih (fun v hv => h v (by omega))
    obtain ⟨K2, h2⟩ := fx_stab (fun k => f k N) (fun k => h N (by omega) k)
    refine ⟨K1 + K2, fun k hk v hv => ?_⟩
    by_cases e : v = N
    · rw [e]
      have a := h2 k (by omega)
      have b := h2 (K1 + K2) (by omega)
      rw [a, b]
    · rw [h1 k (by omega) v (by omega), h1 (K1 + K2) (by omega) v (by omega)]
def fx_Good (N B : Nat) (Of : (Nat → Nat) → Nat → Nat → Prop) (D : Nat → Nat) : Prop :=
  (∀ v, v < N → D v ≤ B) ∧ (∀ v, v < N → ∀ x, Of D v x → D v ≤ x) ∧
  (∀ p : Nat → Nat, (∀ v, v < N → p v ≤ B ∧ ∀ x, Of p v x → p v ≤ x) → ∀ v, v < N → p v ≤ D v) ∧
  (∀ s : Nat → Nat, (∀ v, v < N → D v ≤ s v ∧ s v ≤ B) → (∃ v, v < N ∧ s v ≠ D v) → ∃ v, v < N ∧ s v ≠ D v ∧ ∃ x, x ≤ D v ∧ Of s v x)
theorem fx_good (hm : fx_Mono N Of) (hw : fx_Wit N B Of) : ∃ D, fx_Good N B Of D := by
  have anti : ∀ k v, v < N → fx_it B Of (k + 1) v ≤ fx_it B Of k v := by
    intro k
    induction k with
    | zero => intro v _; exact fx_F_B _ v
    | succ k ih => intro v hv; exact fx_F_mono hm hv ih
  have anti2 : ∀ k d v, v < N → fx_it B Of (k + d) v ≤ fx_it B Of k v := fun k d v hv =>
    fx_anti (f := fun k => fx_it B Of k v) (fun k => anti k v hv) k d
  obtain ⟨K, hK⟩ := fx_stabN (fx_it B Of) N (fun v hv k => anti k v hv)
  have hB : ∀ k v, fx_it B Of k v ≤ B := by
    intro k v
    cases k with
    | zero => exact Nat.le_refl _
    | succ k => exact fx_F_B _ v
  have hF : ∀ v, v < N → fx_F B Of (fx_it B Of K) v = fx_it B Of K v := fun v hv => hK (K + 1) (by omega) v hv
  have h2 : ∀ v, v < N → ∀ x, Of (fx_it B Of K) v x → fx_it B Of K v ≤ x := by
    intro v hv x hx
    rw [← hF v hv]
    exact fx_F_le hx
  refine ⟨fx_it B Of K, fun v _ => hB K v, h2, ?_, ?_⟩
  · intro p hp
    have : ∀ k v, v < N → p v ≤ fx_it B Of k v := by
      intro k
      induction k with
      | zero => intro v hv; exact (hp v hv).1
      | succ k ih =>
        intro v hv
        show p v ≤ fx_F B Of (fx_it B Of k) v
        by_cases h : fx_F B Of (fx_it B Of k) v < B
        · obtain ⟨y, hy, oy⟩ := hm (fx_it B Of k) p v _ hv ih (fx_F_of h)
          exact Nat.le_trans ((hp v hv).2 y oy) hy
        · have := (hp v hv).1
          omega
    exact this K
  · intro s hs hx
    obtain ⟨v0, hv0, hne⟩ := hx
    obtain ⟨k, ⟨v, hv, hn, he⟩, hmin⟩ := pk_least (fun k => ∃ v, v < N ∧ s v ≠ fx_it B Of K v ∧ fx_it B Of k v = fx_it B Of K v) ⟨K, v0, hv0, hne, rfl⟩
    have hsv := hs v hv
    cases k with
    | zero =>
      have : fx_it B Of 0 v = B := rfl
      omega
    | succ j =>
      have h1 : fx_F B Of (fx_it B Of j) v = fx_it B Of K v := he
      have ho := fx_F_of (B := B) (Of := Of) (s := fx_it B Of j) (v := v) (by omega)
      rw [h1] at ho
      have hle : ∀ u, u < N → fx_it B Of K u ≤ fx_it B Of j u := by
        intro u hu
        rw [← hK (K + j) (by omega) u hu, Nat.add_comm K j]
        exact anti2 j K u hu
      have hc := hw (fx_it B Of K) (fx_it B Of j) v _ hv hle ho (fun y hy => h2 v hv y hy)
      obtain ⟨y, hy, oy⟩ := hm _ s v _ hv (fun u hu => by
        show s u ≤ if fx_it B Of j u = fx_it B Of K u then fx_it B Of j u else B
        by_cases e : fx_it B Of j u = fx_it B Of K u
        · rw [if_pos e]
          by_cases e2 : s u = fx_it B Of K u
          · omega
          · exact absurd ⟨u, hu, e2, e⟩ (hmin j (by omega))
        · rw [if_neg e]
          exact (hs u hu).2) hc
      exact ⟨v, hv, hn, y, hy, oy⟩
theorem fx_same {D E : Nat → Nat} (G : fx_Good N B Of D) (H : fx_Good N B Of E) : ∀ v, v < N → D v = E v := by
  intro v hv
  have h1 := H.2.2.1 D (fun v hv => ⟨G.1 v hv, G.2.1 v hv⟩) v hv
  have h2 := G.2.2.1 E (fun v hv => ⟨H.1 v hv, H.2.1 v hv⟩) v hv
  omega
/-- after k rounds: s between D and B, and k nodes settled (or all) -/
def fx_R (N B : Nat) (dm : Nat → Bool) (D : Nat → Nat) (k : Nat) (s : Nat → Nat) : Prop :=
  (∀ v, v < N → D v ≤ s v ∧ s v ≤ B) ∧ (k ≤ fx_cnt (fun v => dm v && decide (s v = D v)) N ∨ ∀ v, v < N → s v = D v)
def fx_In (N : Nat) (Of : (Nat → Nat) → Nat → Nat → Prop) (D s : Nat → Nat) (v : Nat) (t : Nat → Nat) : Prop :=
  (∀ u, u < N → D u ≤ t u ∧ t u ≤ s u) ∧ ∀ u, u < v → u < N → ∀ x, Of s u x → t u ≤ x
variable {D : Nat → Nat} {dm : Nat → Bool}
theorem fx_R0 (G : fx_Good N B Of D) {s : Nat → Nat} (h : ∀ v, v < N → s v = B) : fx_R N B dm D 0 s :=
  ⟨fun v hv => by rw [h v hv]; exact ⟨G.1 v hv, Nat.le_refl _⟩, Or.inl (Nat.zero_le _)⟩
theorem fx_R_ext {k : Nat} {s t : Nat → Nat} (h : fx_R N B dm D k s) (e : ∀ v, v < N → t v = s v) : fx_R N B dm D k t := by
  refine ⟨fun v hv => by rw [e v hv]; exact h.1 v hv, ?_⟩
  rcases h.2 with a | a
  · left
    refine Nat.le_trans a (fx_cnt_mono N (fun v hv => ?_))
    rw [e v hv]
    exact fun z => z
  · right
    exact fun v hv => by rw [e v hv]; exact a v hv
theorem fx_step (G : fx_Good N B Of D) (hd : ∀ s v x, v < N → Of s v x → dm v = true) {k : Nat} {s t : Nat → Nat} (hR : fx_R N B dm D k s)
    (ht : ∀ v, v < N → D v ≤ t v ∧ t v ≤ s v ∧ ∀ x, Of s v x → t v ≤ x) : fx_R N B dm D (k + 1) t := by
  have b : ∀ v, v < N → D v ≤ t v ∧ t v ≤ B := fun v hv => ⟨(ht v hv).1, Nat.le_trans (ht v hv).2.1 (hR.1 v hv).2⟩
  refine ⟨b, ?_⟩
  by_cases hs : ∀ v, v < N → s v = D v
  · right
    intro v hv
    have h1 := ht v hv
    have h2 := hs v hv
    omega
  · rcases hR.2 with hk | hk
    · left
      have hx : ∃ v, v < N ∧ s v ≠ D v := by
        by_cases h : ∃ v, v < N ∧ s v ≠ D v
        · exact h
        · exact absurd (fun v hv => Classical.byContradiction (fun z => h ⟨v, hv, z⟩)) hs
      obtain ⟨v, hv, hn, x, hx, ho⟩ := G.2.2.2 s hR.1 hx
      refine Nat.lt_of_le_of_lt hk (fx_cnt_lt N (fun u hu h => ?_) ⟨v, hv, ?_, ?_⟩)
      · have h0 := ht u hu
        rw [Bool.and_eq_true, decide_eq_true_eq] at h ⊢
        exact ⟨h.1, by omega⟩
      · rw [decide_eq_false hn, Bool.and_false]
      · have h0 := ht v hv
        have h3 := h0.2.2 x ho
        rw [Bool.and_eq_true, decide_eq_true_eq]
        exact ⟨hd s v x hv ho, by omega⟩
    · exact absurd hk hs
theorem fx_fin (G : fx_Good N B Of D) (hd : ∀ s v x, v < N → Of s v x → dm v = true) {k : Nat} {s : Nat → Nat} (hR : fx_R N B dm D k s) (hk : fx_cnt dm N ≤ k) :
    ∀ v, v < N → s v = D v := by
  rcases hR.2 with h | h
  · intro v hv
    by_cases e : s v = D v
    · exact e
    · obtain ⟨u, hu, hn, x, _, ho⟩ := G.2.2.2 s hR.1 ⟨v, hv, e⟩
      have h1 := fx_cnt_full (p := fun v => dm v && decide (s v = D v)) (q := dm) (n := N) (fun v _ h => by rw [Bool.and_eq_true] at h; exact h.1) (Nat.le_trans hk h) u hu (hd s u x hu ho)
      rw [Bool.and_eq_true, decide_eq_true_eq] at h1
      exact absurd h1.2 hn
  · exact h
theorem fx_in0 {k : Nat} {s : Nat → Nat} (h : fx_R N B dm D k s) : fx_In N Of D s 0 s :=
  ⟨fun u hu => ⟨(h.1 u hu).1, Nat.le_refl _⟩, fun u hu => absurd hu (by omega)⟩
theorem fx_in_ext {s t t' : Nat → Nat} {v : Nat} (h : fx_In N Of D s v t) (e : ∀ u, u < N → t' u = t u) : fx_In N Of D s v t' :=
  ⟨fun u hu => by rw [e u hu]; exact h.1 u hu, fun u hu hn x hx => by rw [e u hn]; exact h.2 u hu hn x hx⟩
theorem fx_in_set (G : fx_Good N B Of D) (hm : fx_Mono N Of) {s t : Nat → Nat} {v x : Nat} (h : fx_In N Of D s v t) (hv : v < N) (hx : x < t v) (ho : Of t v x) (hl : ∀ y, Of t v y → x ≤ y) :
    fx_In N Of D s (v + 1) (fun u => if u = v then x else t u) := by
  constructor
  · intro u hu
    dsimp only
    by_cases e : u = v
    · rw [if_pos e, e]
      obtain ⟨y, hy, oy⟩ := hm t D v x hv (fun u hu => (h.1 u hu).1) ho
      have h1 := G.2.1 v hv y oy
      have h2 := h.1 v hv
      omega
    · rw [if_neg e]
      exact h.1 u hu
  · intro u hu hn z hz
    dsimp only
    by_cases e : u = v
    · rw [if_pos e]
      rw [e] at hz
      obtain ⟨y, hy, oy⟩ := hm s t v z hv (fun u hu => (h.1 u hu).2) hz
      exact Nat.le_trans (hl y oy) hy
    · rw [if_neg e]
      exact h.2 u (by omega) hn z hz
theorem fx_in_skip (hm : fx_Mono N Of) {s t : Nat → Nat} {v : Nat} (h : fx_In N Of D s v t) (hl : ∀ y, Of t v y → t v ≤ y) : fx_In N Of D s (v + 1) t := by
  refine ⟨h.1, fun u hu hn z hz => ?_⟩
  by_cases e : u = v
  · rw [e] at hz hn ⊢
    obtain ⟨y, hy, oy⟩ := hm s t v z hn (fun u hu => (h.1 u hu).2) hz
    exact Nat.le_trans (hl y oy) hy
  · exact h.2 u (by omega) hn z hz
theorem fx_in_gap {s t : Nat → Nat} {v w : Nat} (h : fx_In N Of D s v t) (hg : ∀ u, v ≤ u → u < w → ∀ x, ¬ Of s u x) : fx_In N Of D s w t := by
  refine ⟨h.1, fun u hu hn z hz => ?_⟩
  by_cases e : u < v
  · exact h.2 u e hn z hz
  · exact absurd hz (hg u (by omega) hu z)
theorem fx_in_end (G : fx_Good N B Of D) (hd : ∀ s v x, v < N → Of s v x → dm v = true) {k : Nat} {s t : Nat → Nat} (hR : fx_R N B dm D k s) (h : fx_In N Of D s N t) : fx_R N B dm D (k + 1) t :=
  fx_step G hd hR (fun v hv => ⟨(h.1 v hv).1, (h.1 v hv).2, h.2 v hv hv⟩)
theorem fx_in_stop (G : fx_Good N B Of D) {k : Nat} {s t : Nat → Nat} (hR : fx_R N B dm D k s) (h : fx_In N Of D s N t) (e : ∀ u, u < N → t u = s u) : ∀ u, u < N → t u = D u := by
  have h1 := G.2.2.1 s (fun v hv => ⟨(hR.1 v hv).2, fun x hx => by rw [← e v hv]; exact h.2 v hv hv x hx⟩)
  intro u hu
  have := h1 u hu
  have := h.1 u hu
  have := e u hu
  omega
end
end
section
/-! the languages on stretches of a word (gr_Sp), and the systems of offers of both sides -/
noncomputable def gr_ind (P : Prop) : Nat := @ite Nat P (Classical.propDecidable P) 0 1
theorem gr_ind_t {P : Prop} (h : P) : gr_ind P = 0 := by
  unfold gr_ind
  exact if_pos h
theorem gr_ind_f {P : Prop} (h : ¬ P) : gr_ind P = 1 := by
  unfold gr_ind
  exact if_neg h
theorem gr_ind_0 {P : Prop} (h : gr_ind P = 0) : P := by
  by_cases hp : P
  · exact hp
  · rw [gr_ind_f hp] at h
    omega
theorem gr_ind_1 (P : Prop) : gr_ind P ≤ 1 := by
  by_cases hp : P
  · rw [gr_ind_t hp]; omega
  · rw [gr_ind_f hp]; omega
theorem gr_ind_m {P Q : Prop} (h : Q → P) : gr_ind P ≤ gr_ind Q := by
  by_cases hq : Q
  · rw [gr_ind_t (h hq)]; omega
  · rw [gr_ind_f hq]; exact gr_ind_1 P
theorem gr_ind_a {P Q R : Prop} (h : Q → R → P) : gr_ind P ≤ gr_ind Q + gr_ind R := by
  by_cases hq : Q
  · by_cases hr : R
    · rw [gr_ind_t (h hq hr)]; omega
    · have := gr_ind_1 P
      rw [gr_ind_f hr]; omega
  · have := gr_ind_1 P
    rw [gr_ind_f hq]; omega
section
variable (C : Nat) (K L R : Nat → Nat) (tk : Nat → Nat → Prop)
def gr_wf : Prop := ∀ c, c < C → (K c = 3 ∨ K c = 4) → L c < C ∧ R c < C
def gr_cl (P : Nat → Nat → Nat → Prop) : Prop :=
  ∀ c i j, c < C → i ≤ j → ((K c = 1 ∧ i = j) ∨ (K c = 2 ∧ j = i + 1 ∧ tk i c) ∨ (K c = 3 ∧ (P (L c) i j ∨ P (R c) i j)) ∨
    (K c = 4 ∧ ∃ k, i ≤ k ∧ k ≤ j ∧ P (L c) i k ∧ P (R c) k j)) → P c i j
def gr_Sp (c i j : Nat) : Prop := ∀ P, gr_cl C K L R tk P → P c i j
/-- the least lengths -/
def of_L (s : Nat → Nat) (c x : Nat) : Prop :=
  (K c = 1 ∧ x = 0) ∨ (K c = 2 ∧ x = 1) ∨ (K c = 3 ∧ (x = s (L c) ∨ x = s (R c))) ∨ (K c = 4 ∧ x = s (L c) + s (R c))
/-- one stretch f .. t of the component: 0 for a word -/
def of_M (Mt : Nat → Nat → Nat → Prop) (f t : Nat) (s : Nat → Nat) (c x : Nat) : Prop :=
  x = 0 ∧ ((K c = 2 ∧ f + 1 = t ∧ tk f c) ∨ (K c = 3 ∧ (s (L c) = 0 ∨ s (R c) = 0)) ∨
    (K c = 4 ∧ ∃ k, f ≤ k ∧ k ≤ t ∧ ((k = t ∧ s (L c) = 0) ∨ (k ≠ t ∧ Mt (L c) f k)) ∧ ((k = f ∧ s (R c) = 0) ∨ (k ≠ f ∧ Mt (R c) k t))))
/-- one row of tails of the component -/
def of_T (Mt : Nat → Nat → Nat → Prop) (Ls : Nat → Nat) (T : Nat → Nat → Nat) (f e : Nat) (s : Nat → Nat) (c x : Nat) : Prop :=
  (K c = 2 ∧ f + 1 = e ∧ tk f c ∧ x = 0) ∨ (K c = 3 ∧ (x = s (L c) ∨ x = s (R c))) ∨
    (K c = 4 ∧ (x = s (L c) + Ls (R c) ∨ (Mt (L c) f f ∧ x = s (R c)) ∨ ∃ k, f < k ∧ k < e ∧ Mt (L c) f k ∧ x = T k (R c)))
/-- the reference's spans -/
def of_S (n : Nat) (s : Nat → Nat) (v x : Nat) : Prop :=
  ∃ c i j, v = (c * 14 + i) * 14 + j ∧ c < C ∧ i ≤ j ∧ j ≤ n ∧ x = 0 ∧
    ((K c = 1 ∧ i = j) ∨ (K c = 2 ∧ j = i + 1 ∧ tk i c) ∨ (K c = 3 ∧ (s ((L c * 14 + i) * 14 + j) = 0 ∨ s ((R c * 14 + i) * 14 + j) = 0)) ∨
      (K c = 4 ∧ ∃ k, i ≤ k ∧ k ≤ j ∧ s ((L c * 14 + i) * 14 + k) = 0 ∧ s ((R c * 14 + k) * 14 + j) = 0))
/-- the reference's rests -/
def of_R (Mt : Nat → Nat → Nat → Prop) (n : Nat) (s : Nat → Nat) (v x : Nat) : Prop :=
  ∃ c i, v = c * 14 + i ∧ c < C ∧ i ≤ n ∧
    ((K c = 1 ∧ i = n ∧ x = 0) ∨ (K c = 2 ∧ i = n ∧ x = 1) ∨ (K c = 2 ∧ i + 1 = n ∧ tk i c ∧ x = 0) ∨
      (K c = 3 ∧ (x = s (L c * 14 + i) ∨ x = s (R c * 14 + i))) ∨
      (K c = 4 ∧ (x = s (L c * 14 + i) + s (R c * 14 + n) ∨ ∃ k, i ≤ k ∧ k ≤ n ∧ Mt (L c) i k ∧ x = s (R c * 14 + k))))
end
section
variable {C : Nat} {K L R : Nat → Nat} {tk tk' : Nat → Nat → Prop}
theorem gr_sp_cl : gr_cl C K L R tk (gr_Sp C K L R tk) := by
  intro c i j hc hij h P hP
  refine hP c i j hc hij ?_
  rcases h with h | h | ⟨k, h | h⟩ | ⟨h0, k, h1, h2, h3, h4⟩
  · exact Or.inl h
  · exact Or.inr (Or.inl h)
  · exact Or.inr (Or.inr (Or.inl ⟨k, Or.inl (h P hP)⟩))
  · exact Or.inr (Or.inr (Or.inl ⟨k, Or.inr (h P hP)⟩))
  · exact Or.inr (Or.inr (Or.inr ⟨h0, k, h1, h2, h3 P hP, h4 P hP⟩))
theorem gr_sp_ext {c i j : Nat} (h : gr_Sp C K L R tk c i j) (e : ∀ t, i ≤ t → t < j → ∀ c, tk t c → tk' t c) : gr_Sp C K L R tk' c i j := by
  refine h (fun c i j => (∀ t, i ≤ t → t < j → ∀ c, tk t c → tk' t c) → gr_Sp C K L R tk' c i j) ?_ e
  intro c i j hc hij h e
  refine gr_sp_cl c i j hc hij ?_
  rcases h with h | ⟨h1, h2, h3⟩ | ⟨k, h | h⟩ | ⟨h0, k, h1, h2, h3, h4⟩
  · exact Or.inl h
  · exact Or.inr (Or.inl ⟨h1, h2, e i (Nat.le_refl _) (by omega) c h3⟩)
  · exact Or.inr (Or.inr (Or.inl ⟨k, Or.inl (h e)⟩))
  · exact Or.inr (Or.inr (Or.inl ⟨k, Or.inr (h e)⟩))
  · exact Or.inr (Or.inr (Or.inr ⟨h0, k, h1, h2, h3 (fun t a b => e t a (by omega)), h4 (fun t a b => e t (by omega) b)⟩))
theorem gr_sp_iff {c i j : Nat} (e : ∀ t, i ≤ t → t < j → ∀ c, tk t c ↔ tk' t c) : gr_Sp C K L R tk c i j ↔ gr_Sp C K L R tk' c i j :=
  ⟨fun h => gr_sp_ext h (fun t a b c => (e t a b c).1), fun h => gr_sp_ext h (fun t a b c => (e t a b c).2)⟩
/-! each system is monotone and has witnesses -/
theorem of_L_m (wf : gr_wf C K L R) : fx_Mono C (of_L K L R) := by
  intro s t c x hc hts h
  rcases h with ⟨k, h⟩ | ⟨k, h⟩ | ⟨k, h | h⟩ | ⟨k, h⟩
  · exact ⟨x, Nat.le_refl _, Or.inl ⟨k, h⟩⟩
  · exact ⟨x, Nat.le_refl _, Or.inr (Or.inl ⟨k, h⟩)⟩
  · exact ⟨t (L c), by rw [h]; exact hts _ (wf c hc (Or.inl k)).1, Or.inr (Or.inr (Or.inl ⟨k, Or.inl rfl⟩))⟩
  · exact ⟨t (R c), by rw [h]; exact hts _ (wf c hc (Or.inl k)).2, Or.inr (Or.inr (Or.inl ⟨k, Or.inr rfl⟩))⟩
  · have h1 := hts _ (wf c hc (Or.inr k)).1
    have h2 := hts _ (wf c hc (Or.inr k)).2
    exact ⟨t (L c) + t (R c), by omega, Or.inr (Or.inr (Or.inr ⟨k, rfl⟩))⟩
theorem of_L_w (B : Nat) (wf : gr_wf C K L R) : fx_Wit C B (of_L K L R) := by
  intro D s c x hc hD h hy
  rcases h with ⟨k, h⟩ | ⟨k, h⟩ | ⟨k, h | h⟩ | ⟨k, h⟩
  · exact Or.inl ⟨k, h⟩
  · exact Or.inr (Or.inl ⟨k, h⟩)
  · have h1 := hD _ (wf c hc (Or.inl k)).1
    have h2 := hy _ (Or.inr (Or.inr (Or.inl ⟨k, Or.inl rfl⟩)))
    have e : s (L c) = D (L c) := by omega
    exact Or.inr (Or.inr (Or.inl ⟨k, Or.inl (h.trans (if_pos e).symm)⟩))
  · have h1 := hD _ (wf c hc (Or.inl k)).2
    have h2 := hy _ (Or.inr (Or.inr (Or.inl ⟨k, Or.inr rfl⟩)))
    have e : s (R c) = D (R c) := by omega
    exact Or.inr (Or.inr (Or.inl ⟨k, Or.inr (h.trans (if_pos e).symm)⟩))
  · have h1 := hD _ (wf c hc (Or.inr k)).1
    have h2 := hD _ (wf c hc (Or.inr k)).2
    have h3 := hy _ (Or.inr (Or.inr (Or.inr ⟨k, rfl⟩)))
    have e1 : s (L c) = D (L c) := by omega
    have e2 : s (R c) = D (R c) := by omega
    refine Or.inr (Or.inr (Or.inr ⟨k, ?_⟩))
    show x = (if s (L c) = D (L c) then s (L c) else B) + (if s (R c) = D (R c) then s (R c) else B)
    rw [if_pos e1, if_pos e2, h]
theorem of_M_m (Mt : Nat → Nat → Nat → Prop) (f t : Nat) (wf : gr_wf C K L R) : fx_Mono C (of_M K L R tk Mt f t) := by
  intro s u c x hc hts h
  obtain ⟨h0, h⟩ := h
  refine ⟨x, Nat.le_refl _, h0, ?_⟩
  have z : ∀ a, a < C → s a = 0 → u a = 0 := fun a ha e => by have := hts a ha; omega
  rcases h with h | ⟨k, h | h⟩ | ⟨k, m, h1, h2, h3, h4⟩
  · exact Or.inl h
  · exact Or.inr (Or.inl ⟨k, Or.inl (z _ (wf c hc (Or.inl k)).1 h)⟩)
  · exact Or.inr (Or.inl ⟨k, Or.inr (z _ (wf c hc (Or.inl k)).2 h)⟩)
  · refine Or.inr (Or.inr ⟨k, m, h1, h2, ?_, ?_⟩)
    · rcases h3 with ⟨a, b⟩ | h3
      · exact Or.inl ⟨a, z _ (wf c hc (Or.inr k)).1 b⟩
      · exact Or.inr h3
    · rcases h4 with ⟨a, b⟩ | h4
      · exact Or.inl ⟨a, z _ (wf c hc (Or.inr k)).2 b⟩
      · exact Or.inr h4
theorem of_M_w (B : Nat) (Mt : Nat → Nat → Nat → Prop) (f t : Nat) (wf : gr_wf C K L R) : fx_Wit C B (of_M K L R tk Mt f t) := by
  intro D s c x hc hD h _
  obtain ⟨h0, h⟩ := h
  refine ⟨h0, ?_⟩
  have z : ∀ a, a < C → s a = 0 → (if s a = D a then s a else B) = 0 := fun a ha e => by
    have := hD a ha
    rw [if_pos (by omega)]
    exact e
  rcases h with h | ⟨k, h | h⟩ | ⟨k, m, h1, h2, h3, h4⟩
  · exact Or.inl h
  · exact Or.inr (Or.inl ⟨k, Or.inl (z _ (wf c hc (Or.inl k)).1 h)⟩)
  · exact Or.inr (Or.inl ⟨k, Or.inr (z _ (wf c hc (Or.inl k)).2 h)⟩)
  · refine Or.inr (Or.inr ⟨k, m, h1, h2, ?_, ?_⟩)
    · rcases h3 with ⟨a, b⟩ | h3
      · exact Or.inl ⟨a, z _ (wf c hc (Or.inr k)).1 b⟩
      · exact Or.inr h3
    · rcases h4 with ⟨a, b⟩ | h4
      · exact Or.inl ⟨a, z _ (wf c hc (Or.inr k)).2 b⟩
      · exact Or.inr h4
theorem of_T_m (Mt : Nat → Nat → Nat → Prop) (Ls : Nat → Nat) (T : Nat → Nat → Nat) (f e : Nat) (wf : gr_wf C K L R) : fx_Mono C (of_T K L R tk Mt Ls T f e) := by
  intro s t c x hc hts h
  rcases h with h | ⟨k, h | h⟩ | ⟨k, h | ⟨h1, h2⟩ | h⟩
  · exact ⟨x, Nat.le_refl _, Or.inl h⟩
  · exact ⟨t (L c), by rw [h]; exact hts _ (wf c hc (Or.inl k)).1, Or.inr (Or.inl ⟨k, Or.inl rfl⟩)⟩
  · exact ⟨t (R c), by rw [h]; exact hts _ (wf c hc (Or.inl k)).2, Or.inr (Or.inl ⟨k, Or.inr rfl⟩)⟩
  · have h1 := hts _ (wf c hc (Or.inr k)).1
    exact ⟨t (L c) + Ls (R c), by omega, Or.inr (Or.inr ⟨k, Or.inl rfl⟩)⟩
  · exact ⟨t (R c), by rw [h2]; exact hts _ (wf c hc (Or.inr k)).2, Or.inr (Or.inr ⟨k, Or.inr (Or.inl ⟨h1, rfl⟩)⟩)⟩
  · exact ⟨x, Nat.le_refl _, Or.inr (Or.inr ⟨k, Or.inr (Or.inr h)⟩)⟩
theorem of_T_w (B : Nat) (Mt : Nat → Nat → Nat → Prop) (Ls : Nat → Nat) (T : Nat → Nat → Nat) (f e : Nat) (wf : gr_wf C K L R) : fx_Wit C B (of_T K L R tk Mt Ls T f e) := by
  intro D s c x hc hD h hy
  rcases h with h | ⟨k, h | h⟩ | ⟨k, h | ⟨h1, h2⟩ | h⟩
  · exact Or.inl h
  · have h1 := hD _ (wf c hc (Or.inl k)).1
    have h2 := hy _ (Or.inr (Or.inl ⟨k, Or.inl rfl⟩))
    have e : s (L c) = D (L c) := by omega
    exact Or.inr (Or.inl ⟨k, Or.inl (h.trans (if_pos e).symm)⟩)
  · have h1 := hD _ (wf c hc (Or.inl k)).2
    have h2 := hy _ (Or.inr (Or.inl ⟨k, Or.inr rfl⟩))
    have e : s (R c) = D (R c) := by omega
    exact Or.inr (Or.inl ⟨k, Or.inr (h.trans (if_pos e).symm)⟩)
  · have h1 := hD _ (wf c hc (Or.inr k)).1
    have h2 := hy _ (Or.inr (Or.inr ⟨k, Or.inl rfl⟩))
    have e : s (L c) = D (L c) := by omega
    refine Or.inr (Or.inr ⟨k, Or.inl ?_⟩)
    show x = (if s (L c) = D (L c) then s (L c) else B) + Ls (R c)
    rw [if_pos e, h]
  · have h3 := hD _ (wf c hc (Or.inr k)).2
    have h4 := hy _ (Or.inr (Or.inr ⟨k, Or.inr (Or.inl ⟨h1, rfl⟩)⟩))
    have e : s (R c) = D (R c) := by omega
    exact Or.inr (Or.inr ⟨k, Or.inr (Or.inl ⟨h1, h2.trans (if_pos e).symm⟩)⟩)
  · exact Or.inr (Or.inr ⟨k, Or.inr (Or.inr h)⟩)
theorem of_S_m {N n : Nat} (hn : n ≤ 13) (hN : C * 196 ≤ N) (wf : gr_wf C K L R) : fx_Mono N (of_S C K L R tk n) := by
  intro s u v x hv hts h
  obtain ⟨c, i, j, e, hc, hi, hj, h0, h⟩ := h
  refine ⟨x, Nat.le_refl _, c, i, j, e, hc, hi, hj, h0, ?_⟩
  have z : ∀ a p q, a < C → p ≤ 13 → q ≤ 13 → s ((a * 14 + p) * 14 + q) = 0 → u ((a * 14 + p) * 14 + q) = 0 := fun a p q ha hp hq e => by
    have := hts ((a * 14 + p) * 14 + q) (by omega)
    omega
  rcases h with h | h | ⟨k, h | h⟩ | ⟨k, m, h1, h2, h3, h4⟩
  · exact Or.inl h
  · exact Or.inr (Or.inl h)
  · exact Or.inr (Or.inr (Or.inl ⟨k, Or.inl (z _ _ _ (wf c hc (Or.inl k)).1 (by omega) (by omega) h)⟩))
  · exact Or.inr (Or.inr (Or.inl ⟨k, Or.inr (z _ _ _ (wf c hc (Or.inl k)).2 (by omega) (by omega) h)⟩))
  · exact Or.inr (Or.inr (Or.inr ⟨k, m, h1, h2, z _ _ _ (wf c hc (Or.inr k)).1 (by omega) (by omega) h3, z _ _ _ (wf c hc (Or.inr k)).2 (by omega) (by omega) h4⟩))
theorem of_S_w {N n : Nat} (B : Nat) (hn : n ≤ 13) (hN : C * 196 ≤ N) (wf : gr_wf C K L R) : fx_Wit N B (of_S C K L R tk n) := by
  intro D s v x hv hD h _
  obtain ⟨c, i, j, e, hc, hi, hj, h0, h⟩ := h
  refine ⟨c, i, j, e, hc, hi, hj, h0, ?_⟩
  have z : ∀ a p q, a < C → p ≤ 13 → q ≤ 13 → s ((a * 14 + p) * 14 + q) = 0 →
      (if s ((a * 14 + p) * 14 + q) = D ((a * 14 + p) * 14 + q) then s ((a * 14 + p) * 14 + q) else B) = 0 := fun a p q ha hp hq e => by
    have := hD ((a * 14 + p) * 14 + q) (by omega)
    rw [if_pos (by omega)]
    exact e
  rcases h with h | h | ⟨k, h | h⟩ | ⟨k, m, h1, h2, h3, h4⟩
  · exact Or.inl h
  · exact Or.inr (Or.inl h)
  · exact Or.inr (Or.inr (Or.inl ⟨k, Or.inl (z _ _ _ (wf c hc (Or.inl k)).1 (by omega) (by omega) h)⟩))
  · exact Or.inr (Or.inr (Or.inl ⟨k, Or.inr (z _ _ _ (wf c hc (Or.inl k)).2 (by omega) (by omega) h)⟩))
  · exact Or.inr (Or.inr (Or.inr ⟨k, m, h1, h2, z _ _ _ (wf c hc (Or.inr k)).1 (by omega) (by omega) h3, z _ _ _ (wf c hc (Or.inr k)).2 (by omega) (by omega) h4⟩))
theorem of_R_m {N n : Nat} (Mt : Nat → Nat → Nat → Prop) (hn : n ≤ 13) (hN : C * 14 ≤ N) (wf : gr_wf C K L R) : fx_Mono N (of_R C K L R tk Mt n) := by
  intro s u v x hv hts h
  obtain ⟨c, i, e, hc, hi, h⟩ := h
  have z : ∀ a p, a < C → p ≤ 13 → u (a * 14 + p) ≤ s (a * 14 + p) := fun a p ha hp => hts _ (by omega)
  rcases h with h | h | h | ⟨k, h | h⟩ | ⟨k, h | ⟨m, h1, h2, h3, h4⟩⟩
  · exact ⟨x, Nat.le_refl _, c, i, e, hc, hi, Or.inl h⟩
  · exact ⟨x, Nat.le_refl _, c, i, e, hc, hi, Or.inr (Or.inl h)⟩
  · exact ⟨x, Nat.le_refl _, c, i, e, hc, hi, Or.inr (Or.inr (Or.inl h))⟩
  · exact ⟨_, by rw [h]; exact z _ _ (wf c hc (Or.inl k)).1 (by omega), c, i, e, hc, hi, Or.inr (Or.inr (Or.inr (Or.inl ⟨k, Or.inl rfl⟩)))⟩
  · exact ⟨_, by rw [h]; exact z _ _ (wf c hc (Or.inl k)).2 (by omega), c, i, e, hc, hi, Or.inr (Or.inr (Or.inr (Or.inl ⟨k, Or.inr rfl⟩)))⟩
  · have h1 := z _ i (wf c hc (Or.inr k)).1 (by omega)
    have h2 := z _ n (wf c hc (Or.inr k)).2 (by omega)
    exact ⟨u (L c * 14 + i) + u (R c * 14 + n), by omega, c, i, e, hc, hi, Or.inr (Or.inr (Or.inr (Or.inr ⟨k, Or.inl rfl⟩)))⟩
  · exact ⟨u (R c * 14 + m), by rw [h4]; exact z _ _ (wf c hc (Or.inr k)).2 (by omega), c, i, e, hc, hi, Or.inr (Or.inr (Or.inr (Or.inr ⟨k, Or.inr ⟨m, h1, h2, h3, rfl⟩⟩)))⟩
theorem of_R_w {N n : Nat} (B : Nat) (Mt : Nat → Nat → Nat → Prop) (hn : n ≤ 13) (hN : C * 14 ≤ N) (wf : gr_wf C K L R) : fx_Wit N B (of_R C K L R tk Mt n) := by
  intro D s v x hv hD h hy
  obtain ⟨c, i, e, hc, hi, h⟩ := h
  have z : ∀ a p, a < C → p ≤ 13 → D (a * 14 + p) ≤ s (a * 14 + p) := fun a p ha hp => hD _ (by omega)
  refine ⟨c, i, e, hc, hi, ?_⟩
  rcases h with h | h | h | ⟨k, h | h⟩ | ⟨k, h | ⟨m, h1, h2, h3, h4⟩⟩
  · exact Or.inl h
  · exact Or.inr (Or.inl h)
  · exact Or.inr (Or.inr (Or.inl h))
  · have h1 := z _ i (wf c hc (Or.inl k)).1 (by omega)
    have h2 := hy _ ⟨c, i, e, hc, hi, Or.inr (Or.inr (Or.inr (Or.inl ⟨k, Or.inl rfl⟩)))⟩
    have e : s (L c * 14 + i) = D (L c * 14 + i) := by omega
    exact Or.inr (Or.inr (Or.inr (Or.inl ⟨k, Or.inl (h.trans (if_pos e).symm)⟩)))
  · have h1 := z _ i (wf c hc (Or.inl k)).2 (by omega)
    have h2 := hy _ ⟨c, i, e, hc, hi, Or.inr (Or.inr (Or.inr (Or.inl ⟨k, Or.inr rfl⟩)))⟩
    have e : s (R c * 14 + i) = D (R c * 14 + i) := by omega
    exact Or.inr (Or.inr (Or.inr (Or.inl ⟨k, Or.inr (h.trans (if_pos e).symm)⟩)))
  · have h1 := z _ i (wf c hc (Or.inr k)).1 (by omega)
    have h2 := z _ n (wf c hc (Or.inr k)).2 (by omega)
    have h3 := hy _ ⟨c, i, e, hc, hi, Or.inr (Or.inr (Or.inr (Or.inr ⟨k, Or.inl rfl⟩)))⟩
    have e1 : s (L c * 14 + i) = D (L c * 14 + i) := by omega
    have e2 : s (R c * 14 + n) = D (R c * 14 + n) := by omega
    refine Or.inr (Or.inr (Or.inr (Or.inr ⟨k, Or.inl ?_⟩)))
    show x = (if s (L c * 14 + i) = D (L c * 14 + i) then s (L c * 14 + i) else B) + (if s (R c * 14 + n) = D (R c * 14 + n) then s (R c * 14 + n) else B)
    rw [if_pos e1, if_pos e2, h]
  · have h5 := z _ m (wf c hc (Or.inr k)).2 (by omega)
    have h6 := hy _ ⟨c, i, e, hc, hi, Or.inr (Or.inr (Or.inr (Or.inr ⟨k, Or.inr ⟨m, h1, h2, h3, rfl⟩⟩)))⟩
    have e : s (R c * 14 + m) = D (R c * 14 + m) := by omega
    exact Or.inr (Or.inr (Or.inr (Or.inr ⟨k, Or.inr ⟨m, h1, h2, h3, h4.trans (if_pos e).symm⟩⟩)))
end
end
section
/-! what the systems' solutions say, and that both sides' tails are the same -/
section
variable {C : Nat} {K L R : Nat → Nat} {tk : Nat → Nat → Prop}
theorem gr_null {B : Nat} {Ls : Nat → Nat} (hB : 1 ≤ B) (wf : gr_wf C K L R) (G : fx_Good C B (of_L K L R) Ls) {c : Nat} (hc : c < C) (i : Nat) : Ls c = 0 ↔ gr_Sp C K L R tk c i i := by
  constructor
  · intro h
    have h1 := G.2.2.1 (fun c => gr_ind (gr_Sp C K L R tk c i i)) (fun c hc => ⟨Nat.le_trans (gr_ind_1 _) hB, fun x hx => by
      try dsimp only at hx ⊢
      rcases hx with ⟨k, hx⟩ | ⟨k, hx⟩ | ⟨k, hx | hx⟩ | ⟨k, hx⟩
      · rw [gr_ind_t (gr_sp_cl c i i hc (Nat.le_refl _) (Or.inl ⟨k, rfl⟩))]
        omega
      · rw [hx]; exact gr_ind_1 _
      · rw [hx]
        exact gr_ind_m (fun z => gr_sp_cl c i i hc (Nat.le_refl _) (Or.inr (Or.inr (Or.inl ⟨k, Or.inl z⟩))))
      · rw [hx]
        exact gr_ind_m (fun z => gr_sp_cl c i i hc (Nat.le_refl _) (Or.inr (Or.inr (Or.inl ⟨k, Or.inr z⟩))))
      · rw [hx]
        exact gr_ind_a (fun y z => gr_sp_cl c i i hc (Nat.le_refl _) (Or.inr (Or.inr (Or.inr ⟨k, i, Nat.le_refl _, Nat.le_refl _, y, z⟩))))⟩) c hc
    try dsimp only at h1
    exact gr_ind_0 (by omega)
  · intro h
    refine h (fun c i j => i = j → Ls c = 0) ?_ rfl
    intro c i j hc hij h e
    subst e
    rcases h with ⟨k, _⟩ | ⟨_, h, _⟩ | ⟨k, h | h⟩ | ⟨k, m, h1, h2, h3, h4⟩
    · have := G.2.1 c hc 0 (Or.inl ⟨k, rfl⟩); omega
    · omega
    · have := G.2.1 c hc _ (Or.inr (Or.inr (Or.inl ⟨k, Or.inl rfl⟩))); have := h rfl; omega
    · have := G.2.1 c hc _ (Or.inr (Or.inr (Or.inl ⟨k, Or.inr rfl⟩))); have := h rfl; omega
    · have := G.2.1 c hc _ (Or.inr (Or.inr (Or.inr ⟨k, rfl⟩)))
      have := h3 (by omega)
      have := h4 (by omega)
      omega
theorem gr_mask {Mt : Nat → Nat → Nat → Prop} {f t : Nat} {D : Nat → Nat} (wf : gr_wf C K L R) (G : fx_Good C 1 (of_M K L R tk Mt f t) D) (hft : f < t)
    (hl : ∀ l k, l < C → f ≤ k → k < t → (Mt l f k ↔ gr_Sp C K L R tk l f k)) (hr : ∀ r k, r < C → f < k → k ≤ t → (Mt r k t ↔ gr_Sp C K L R tk r k t))
    {c : Nat} (hc : c < C) : D c = 0 ↔ gr_Sp C K L R tk c f t := by
  constructor
  · intro h
    have h1 := G.2.2.1 (fun c => gr_ind (gr_Sp C K L R tk c f t)) (fun c hc => ⟨gr_ind_1 _, fun x hx => by
      try dsimp only at hx ⊢
      obtain ⟨h0, hx⟩ := hx
      rw [h0]
      refine Nat.le_of_eq (gr_ind_t (gr_sp_cl c f t hc (by omega) ?_))
      rcases hx with ⟨k, h1, h2⟩ | ⟨k, hx | hx⟩ | ⟨k, m, h1, h2, h3, h4⟩
      · exact Or.inr (Or.inl ⟨k, h1.symm, h2⟩)
      · exact Or.inr (Or.inr (Or.inl ⟨k, Or.inl (gr_ind_0 hx)⟩))
      · exact Or.inr (Or.inr (Or.inl ⟨k, Or.inr (gr_ind_0 hx)⟩))
      · refine Or.inr (Or.inr (Or.inr ⟨k, m, h1, h2, ?_, ?_⟩))
        · rcases h3 with ⟨a, b⟩ | ⟨a, b⟩
          · rw [a]; exact gr_ind_0 b
          · exact (hl _ m (wf c hc (Or.inr k)).1 h1 (by omega)).1 b
        · rcases h4 with ⟨a, b⟩ | ⟨a, b⟩
          · rw [a]; exact gr_ind_0 b
          · exact (hr _ m (wf c hc (Or.inr k)).2 (by omega) h2).1 b⟩) c hc
    try dsimp only at h1
    exact gr_ind_0 (by omega)
  · intro h
    refine (h (fun c i j => gr_Sp C K L R tk c i j ∧ (i = f → j = t → D c = 0)) ?_).2 rfl rfl
    intro c i j hc hij h
    constructor
    · refine gr_sp_cl c i j hc hij ?_
      rcases h with h | h | ⟨k, h | h⟩ | ⟨k, m, h1, h2, h3, h4⟩
      · exact Or.inl h
      · exact Or.inr (Or.inl h)
      · exact Or.inr (Or.inr (Or.inl ⟨k, Or.inl h.1⟩))
      · exact Or.inr (Or.inr (Or.inl ⟨k, Or.inr h.1⟩))
      · exact Or.inr (Or.inr (Or.inr ⟨k, m, h1, h2, h3.1, h4.1⟩))
    · intro ei ej
      subst ei ej
      refine Nat.le_zero.mp (G.2.1 c hc 0 ⟨rfl, ?_⟩)
      rcases h with ⟨k, h⟩ | ⟨k, h1, h2⟩ | ⟨k, h | h⟩ | ⟨k, m, h1, h2, h3, h4⟩
      · omega
      · exact Or.inl ⟨k, h1.symm, h2⟩
      · exact Or.inr (Or.inl ⟨k, Or.inl (h.2 rfl rfl)⟩)
      · exact Or.inr (Or.inl ⟨k, Or.inr (h.2 rfl rfl)⟩)
      · refine Or.inr (Or.inr ⟨k, m, h1, h2, ?_, ?_⟩)
        · by_cases e : m = j
          · exact Or.inl ⟨e, h3.2 rfl e⟩
          · exact Or.inr ⟨e, (hl _ m (wf c hc (Or.inr k)).1 h1 (by omega)).2 h3.1⟩
        · by_cases e : m = i
          · exact Or.inl ⟨e, h4.2 e rfl⟩
          · exact Or.inr ⟨e, (hr _ m (wf c hc (Or.inr k)).2 (by omega) h2).2 h4.1⟩
theorem gr_span {N n : Nat} {D : Nat → Nat} (hn : n ≤ 13) (hN : C * 196 ≤ N) (wf : gr_wf C K L R) (G : fx_Good N 1 (of_S C K L R tk n) D)
    {c i j : Nat} (hc : c < C) (hij : i ≤ j) (hj : j ≤ n) : D ((c * 14 + i) * 14 + j) = 0 ↔ gr_Sp C K L R tk c i j := by
  constructor
  · intro h
    have q : ∀ a p r, p ≤ 13 → r ≤ 13 → gr_ind (gr_Sp C K L R tk (((a * 14 + p) * 14 + r) / 196) (((a * 14 + p) * 14 + r) / 14 % 14) (((a * 14 + p) * 14 + r) % 14)) = gr_ind (gr_Sp C K L R tk a p r) := by
      intro a p r hp hr
      rw [show ((a * 14 + p) * 14 + r) / 196 = a from by omega, show ((a * 14 + p) * 14 + r) / 14 % 14 = p from by omega, show ((a * 14 + p) * 14 + r) % 14 = r from by omega]
    have h1 := G.2.2.1 (fun v => gr_ind (gr_Sp C K L R tk (v / 196) (v / 14 % 14) (v % 14))) (fun v _ => ⟨gr_ind_1 _, fun x hx => by
      try dsimp only at hx ⊢
      obtain ⟨c, i, j, e, hc, hi, hj, h0, h⟩ := hx
      rw [e, q c i j (by omega) (by omega), h0]
      refine Nat.le_of_eq (gr_ind_t (gr_sp_cl c i j hc hi ?_))
      rcases h with h | h | ⟨k, h | h⟩ | ⟨k, m, h1, h2, h3, h4⟩
      · exact Or.inl h
      · exact Or.inr (Or.inl h)
      · try dsimp only at h
        rw [q _ i j (by omega) (by omega)] at h
        exact Or.inr (Or.inr (Or.inl ⟨k, Or.inl (gr_ind_0 h)⟩))
      · try dsimp only at h
        rw [q _ i j (by omega) (by omega)] at h
        exact Or.inr (Or.inr (Or.inl ⟨k, Or.inr (gr_ind_0 h)⟩))
      · try dsimp only at h3 h4
        rw [q _ i m (by omega) (by omega)] at h3
        rw [q _ m j (by omega) (by omega)] at h4
        exact Or.inr (Or.inr (Or.inr ⟨k, m, h1, h2, gr_ind_0 h3, gr_ind_0 h4⟩))⟩) ((c * 14 + i) * 14 + j) (by omega)
    try dsimp only at h1
    rw [q c i j (by omega) (by omega)] at h1
    exact gr_ind_0 (by omega)
  · intro h
    refine h (fun c i j => j ≤ n → D ((c * 14 + i) * 14 + j) = 0) ?_ hj
    intro c i j hc hij h hj
    refine Nat.le_zero.mp (G.2.1 _ (by omega) 0 ⟨c, i, j, rfl, hc, hij, hj, rfl, ?_⟩)
    rcases h with h | h | ⟨k, h | h⟩ | ⟨k, m, h1, h2, h3, h4⟩
    · exact Or.inl h
    · exact Or.inr (Or.inl h)
    · exact Or.inr (Or.inr (Or.inl ⟨k, Or.inl (h hj)⟩))
    · exact Or.inr (Or.inr (Or.inl ⟨k, Or.inr (h hj)⟩))
    · exact Or.inr (Or.inr (Or.inr ⟨k, m, h1, h2, h3 (by omega), h4 hj⟩))
/-- an input's tails end at 0 where the rest of the input is a word -/
theorem gr_zero {B n : Nat} {Ls : Nat → Nat} {T : Nat → Nat → Nat} (hB : 1 ≤ B) (wf : gr_wf C K L R) (GL : fx_Good C B (of_L K L R) Ls)
    (h0 : ∀ c, c < C → T n c = Ls c) (hT : ∀ i, i < n → fx_Good C B (of_T K L R tk (gr_Sp C K L R tk) Ls T i n) (T i))
    {c i : Nat} (hc : c < C) (hi : i ≤ n) (h : gr_Sp C K L R tk c i n) : T i c = 0 := by
  refine (h (fun c i j => gr_Sp C K L R tk c i j ∧ (j = n → c < C → i ≤ n → T i c = 0)) ?_).2 rfl hc hi
  intro c i j hc hij h
  constructor
  · refine gr_sp_cl c i j hc hij ?_
    rcases h with h | h | ⟨k, h | h⟩ | ⟨k, m, h1, h2, h3, h4⟩
    · exact Or.inl h
    · exact Or.inr (Or.inl h)
    · exact Or.inr (Or.inr (Or.inl ⟨k, Or.inl h.1⟩))
    · exact Or.inr (Or.inr (Or.inl ⟨k, Or.inr h.1⟩))
    · exact Or.inr (Or.inr (Or.inr ⟨k, m, h1, h2, h3.1, h4.1⟩))
  · intro ej _ hi
    subst ej
    by_cases e : i = j
    · subst e
      rw [h0 c hc, gr_null hB wf GL hc i (tk := tk)]
      refine gr_sp_cl c i i hc hij ?_
      rcases h with h | h | ⟨k, h | h⟩ | ⟨k, m, h1, h2, h3, h4⟩
      · exact Or.inl h
      · exact Or.inr (Or.inl h)
      · exact Or.inr (Or.inr (Or.inl ⟨k, Or.inl h.1⟩))
      · exact Or.inr (Or.inr (Or.inl ⟨k, Or.inr h.1⟩))
      · exact Or.inr (Or.inr (Or.inr ⟨k, m, h1, h2, h3.1, h4.1⟩))
    · have GT := hT i (by omega)
      rcases h with ⟨k, h⟩ | ⟨k, h1, h2⟩ | ⟨k, h | h⟩ | ⟨k, m, h1, h2, h3, h4⟩
      · exact absurd h e
      · have := GT.2.1 c hc 0 (Or.inl ⟨k, h1.symm, h2, rfl⟩)
        omega
      · have := GT.2.1 c hc _ (Or.inr (Or.inl ⟨k, Or.inl rfl⟩))
        have := h.2 rfl (wf c hc (Or.inl k)).1 hi
        omega
      · have := GT.2.1 c hc _ (Or.inr (Or.inl ⟨k, Or.inr rfl⟩))
        have := h.2 rfl (wf c hc (Or.inl k)).2 hi
        omega
      · have hr := h4.2 rfl (wf c hc (Or.inr k)).2 h2
        by_cases e1 : m = i
        · subst e1
          have := GT.2.1 c hc _ (Or.inr (Or.inr ⟨k, Or.inr (Or.inl ⟨h3.1, rfl⟩)⟩))
          omega
        · by_cases e2 : m = j
          · subst e2
            have a := GT.2.1 c hc _ (Or.inr (Or.inr ⟨k, Or.inl rfl⟩))
            have b := h3.2 rfl (wf c hc (Or.inr k)).1 hi
            rw [← h0 _ (wf c hc (Or.inr k)).2] at a
            omega
          · have := GT.2.1 c hc _ (Or.inr (Or.inr ⟨k, Or.inr (Or.inr ⟨m, by omega, by omega, h3.1, rfl⟩)⟩))
            omega
def gr_pT (C n : Nat) (T : Nat → Nat → Nat) (v : Nat) : Nat := if v % 14 ≤ n then (if v / 14 < C then T (v % 14) (v / 14) else 0) else 0
theorem gr_pT_at {n : Nat} {T : Nat → Nat → Nat} (hn : n ≤ 13) (a p : Nat) (ha : a < C) (hp : p ≤ n) : gr_pT C n T (a * 14 + p) = T p a := by
  unfold gr_pT
  rw [show (a * 14 + p) % 14 = p from by omega, show (a * 14 + p) / 14 = a from by omega, if_pos hp, if_pos ha]
theorem gr_tail {B N n : Nat} {Ls Dr : Nat → Nat} {T : Nat → Nat → Nat} (hB : 1 ≤ B) (hn : n ≤ 13) (hN : C * 14 ≤ N) (wf : gr_wf C K L R) (GL : fx_Good C B (of_L K L R) Ls)
    (h0 : ∀ c, c < C → T n c = Ls c) (hT : ∀ i, i < n → fx_Good C B (of_T K L R tk (gr_Sp C K L R tk) Ls T i n) (T i))
    (GR : fx_Good N B (of_R C K L R tk (gr_Sp C K L R tk) n) Dr) {c i : Nat} (hc : c < C) (hi : i ≤ n) : T i c = Dr (c * 14 + i) := by
  have hn0 : ∀ c, c < C → Dr (c * 14 + n) ≤ T n c := by
    intro c hc
    rw [h0 c hc]
    refine GL.2.2.1 (fun c => Dr (c * 14 + n)) (fun c hc => ⟨GR.1 _ (by omega), fun x hx => ?_⟩) c hc
    refine GR.2.1 _ (by omega) x ⟨c, n, rfl, hc, Nat.le_refl _, ?_⟩
    rcases hx with ⟨k, hx⟩ | ⟨k, hx⟩ | ⟨k, hx | hx⟩ | ⟨k, hx⟩
    · exact Or.inl ⟨k, rfl, hx⟩
    · exact Or.inr (Or.inl ⟨k, rfl, hx⟩)
    · exact Or.inr (Or.inr (Or.inr (Or.inl ⟨k, Or.inl hx⟩)))
    · exact Or.inr (Or.inr (Or.inr (Or.inl ⟨k, Or.inr hx⟩)))
    · exact Or.inr (Or.inr (Or.inr (Or.inr ⟨k, Or.inl hx⟩)))
  have ge : ∀ d i, i + d = n → ∀ c, c < C → Dr (c * 14 + i) ≤ T i c := by
    intro d
    induction d using Nat.strongRecOn with
    | ind d ih =>
      intro i hd
      by_cases e : d = 0
      · have e2 : i = n := by omega
        rw [e2]
        exact hn0
      · intro c hc
        refine (hT i (by omega)).2.2.1 (fun c => Dr (c * 14 + i)) (fun c hc => ⟨GR.1 _ (by omega), fun x hx => ?_⟩) c hc
        have o : ∀ y, of_R C K L R tk (gr_Sp C K L R tk) n Dr (c * 14 + i) y → Dr (c * 14 + i) ≤ y := GR.2.1 _ (by omega)
        show Dr (c * 14 + i) ≤ x
        rcases hx with ⟨k, h1, h2, h3⟩ | ⟨k, hx | hx⟩ | ⟨k, hx | ⟨h1, h2⟩ | ⟨m, h1, h2, h3, h4⟩⟩
        · exact o x ⟨c, i, rfl, hc, by omega, Or.inr (Or.inr (Or.inl ⟨k, h1, h2, h3⟩))⟩
        · exact o x ⟨c, i, rfl, hc, by omega, Or.inr (Or.inr (Or.inr (Or.inl ⟨k, Or.inl hx⟩)))⟩
        · exact o x ⟨c, i, rfl, hc, by omega, Or.inr (Or.inr (Or.inr (Or.inl ⟨k, Or.inr hx⟩)))⟩
        · have a := o _ ⟨c, i, rfl, hc, by omega, Or.inr (Or.inr (Or.inr (Or.inr ⟨k, Or.inl rfl⟩)))⟩
          have b := hn0 _ (wf c hc (Or.inr k)).2
          rw [h0 _ (wf c hc (Or.inr k)).2] at b
          try dsimp only at hx
          omega
        · exact o x ⟨c, i, rfl, hc, by omega, Or.inr (Or.inr (Or.inr (Or.inr ⟨k, Or.inr ⟨i, Nat.le_refl _, by omega, h1, h2⟩⟩)))⟩
        · have a := o _ ⟨c, i, rfl, hc, by omega, Or.inr (Or.inr (Or.inr (Or.inr ⟨k, Or.inr ⟨m, by omega, by omega, h3, rfl⟩⟩)))⟩
          have b := ih (n - m) (by omega) m (by omega) _ (wf c hc (Or.inr k)).2
          omega
  have bT : ∀ i c, i ≤ n → c < C → T i c ≤ B := by
    intro i c hi hc
    by_cases e : i = n
    · rw [e, h0 c hc]; exact GL.1 c hc
    · exact (hT i (by omega)).1 c hc
  have hp : ∀ v, v < N → gr_pT C n T v ≤ B ∧ ∀ x, of_R C K L R tk (gr_Sp C K L R tk) n (gr_pT C n T) v x → gr_pT C n T v ≤ x := by
    intro v _
    refine ⟨?_, fun x hx => ?_⟩
    · unfold gr_pT
      by_cases e1 : v % 14 ≤ n
      · rw [if_pos e1]
        by_cases e2 : v / 14 < C
        · rw [if_pos e2]; exact bT _ _ e1 e2
        · rw [if_neg e2]; omega
      · rw [if_neg e1]; omega
    · have q := fun a p => gr_pT_at (C := C) (T := T) hn a p
      obtain ⟨c, i, ev, hc, hi, hx⟩ := hx
      rw [ev, q c i hc hi]
      by_cases e : i = n
      · subst e
        have o : ∀ y, of_L K L R Ls c y → T i c ≤ y := fun y hy => by rw [h0 c hc]; exact GL.2.1 c hc y hy
        rcases hx with ⟨k, _, hx⟩ | ⟨k, _, hx⟩ | ⟨k, hx, _⟩ | ⟨k, hx | hx⟩ | ⟨k, hx | ⟨m, h1, h2, h3, h4⟩⟩
        · exact o x (Or.inl ⟨k, hx⟩)
        · exact o x (Or.inr (Or.inl ⟨k, hx⟩))
        · omega
        · rw [q _ _ (wf c hc (Or.inl k)).1 hi] at hx
          rw [hx, h0 _ (wf c hc (Or.inl k)).1]
          exact o _ (Or.inr (Or.inr (Or.inl ⟨k, Or.inl rfl⟩)))
        · rw [q _ _ (wf c hc (Or.inl k)).2 hi] at hx
          rw [hx, h0 _ (wf c hc (Or.inl k)).2]
          exact o _ (Or.inr (Or.inr (Or.inl ⟨k, Or.inr rfl⟩)))
        · rw [q _ _ (wf c hc (Or.inr k)).1 hi, q _ _ (wf c hc (Or.inr k)).2 hi] at hx
          rw [hx, h0 _ (wf c hc (Or.inr k)).1, h0 _ (wf c hc (Or.inr k)).2]
          exact o _ (Or.inr (Or.inr (Or.inr ⟨k, rfl⟩)))
        · have em : m = i := by omega
          subst em
          rw [q _ _ (wf c hc (Or.inr k)).2 hi] at h4
          have a := o _ (Or.inr (Or.inr (Or.inr ⟨k, rfl⟩)))
          have b := (gr_null hB wf GL (wf c hc (Or.inr k)).1 m (tk := tk)).2 h3
          rw [h0 _ (wf c hc (Or.inr k)).2] at h4
          omega
      · have o : ∀ y, of_T K L R tk (gr_Sp C K L R tk) Ls T i n (T i) c y → T i c ≤ y := fun y hy => (hT i (by omega)).2.1 c hc y hy
        rcases hx with ⟨k, hx, _⟩ | ⟨k, hx, _⟩ | ⟨k, h1, h2, h3⟩ | ⟨k, hx | hx⟩ | ⟨k, hx | ⟨m, h1, h2, h3, h4⟩⟩
        · exact absurd hx e
        · exact absurd hx e
        · exact o x (Or.inl ⟨k, h1, h2, h3⟩)
        · rw [q _ _ (wf c hc (Or.inl k)).1 hi] at hx
          exact o x (Or.inr (Or.inl ⟨k, Or.inl hx⟩))
        · rw [q _ _ (wf c hc (Or.inl k)).2 hi] at hx
          exact o x (Or.inr (Or.inl ⟨k, Or.inr hx⟩))
        · rw [q _ _ (wf c hc (Or.inr k)).1 hi, q _ _ (wf c hc (Or.inr k)).2 (Nat.le_refl _)] at hx
          rw [h0 _ (wf c hc (Or.inr k)).2] at hx
          exact o x (Or.inr (Or.inr ⟨k, Or.inl hx⟩))
        · rw [q _ _ (wf c hc (Or.inr k)).2 h2] at h4
          by_cases e1 : m = i
          · subst e1
            exact o x (Or.inr (Or.inr ⟨k, Or.inr (Or.inl ⟨h3, h4⟩)⟩))
          · by_cases e2 : m = n
            · subst e2
              have a := o _ (Or.inr (Or.inr ⟨k, Or.inl rfl⟩))
              have b := gr_zero hB wf GL h0 hT (wf c hc (Or.inr k)).1 hi h3
              rw [h0 _ (wf c hc (Or.inr k)).2] at h4
              omega
            · exact o x (Or.inr (Or.inr ⟨k, Or.inr (Or.inr ⟨m, by omega, by omega, h3, h4⟩)⟩))
  have h1 := GR.2.2.1 (gr_pT C n T) hp (c * 14 + i) (by omega)
  rw [gr_pT_at hn c i hc hi] at h1
  have := ge (n - i) i (by omega) c hc
  omega
end
end
section
/-! rows of the kit's kit/rows (pasted), bits of a mask, small helps on Int32 -/
theorem pk_us {f : Nat → Int32} {k : Nat} {x : Int32} : upd f k x k = x := if_pos rfl
theorem pk_un {f : Nat → Int32} {k j : Nat} {x : Int32} (h : j ≠ k) : upd f k x j = f j := if_neg h
theorem pk_sub {a b : Nat} (h : b ≤ a) : nI a - nI b = nI (a - b) := by
  obtain ⟨c, rfl⟩ : ∃ c, a = c + b := ⟨a - b, by omega⟩
  rw [← nI_add, Int32.add_sub_cancel, Nat.add_sub_cancel]
theorem pk_m1 (n : Nat) : nI (n + 1) + (-1) = nI n := by
  rw [← nI_1, Int32.add_assoc, show (1 : Int32) + (-1) = 0 from rfl, Int32.add_zero]
theorem pk_mul (a b : Nat) : nI a * nI b = nI (a * b) := (Int32.ofNat_mul a b).symm
theorem pk_ix (x : Int32) {n : Nat} (hn : n < 2 ^ 31) : x < 0 ∨ nI n ≤ x ∨ ∃ j : Nat, j < n ∧ x = nI j := by
  by_cases h : x < 0
  · exact Or.inl h
  · obtain ⟨j, hj, rfl⟩ := nI_of h
    by_cases h2 : j < n
    · exact Or.inr (Or.inr ⟨j, h2, rfl⟩)
    · exact Or.inr (Or.inl (nI_le (by omega) hj))
theorem pk_le {x y : Int32} {A B : Prop} (a b : Nat) (f : a ≤ b → A) (g : b < a → B) (hx : x = nI a := by rfl) (hy : y = nI b := by rfl) (ha : a < 2 ^ 31 := by omega) (hb : b < 2 ^ 31 := by omega) : (x ≤ y → A) ∧ (¬ x ≤ y → B) := by
  subst hx hy
  rw [nI_leI ha hb]
  exact ⟨f, fun z => g (by omega)⟩
theorem pk_lt {x y : Int32} {A B : Prop} (a b : Nat) (f : a < b → A) (g : b ≤ a → B) (hx : x = nI a := by rfl) (hy : y = nI b := by rfl) (ha : a < 2 ^ 31 := by omega) (hb : b < 2 ^ 31 := by omega) : (x < y → A) ∧ (¬ x < y → B) := by
  subst hx hy
  rw [nI_ltI ha hb]
  exact ⟨f, fun z => g (by omega)⟩
theorem pk_eq {x y : Int32} {A B : Prop} (a b : Nat) (f : a = b → A) (g : a ≠ b → B) (hx : x = nI a := by rfl) (hy : y = nI b := by rfl) (ha : a < 2 ^ 31 := by omega) (hb : b < 2 ^ 31 := by omega) : (x = y → A) ∧ (¬ x = y → B) := by
  subst hx hy
  rw [nI_eq ha hb]
  exact ⟨f, g⟩
theorem pk_in {x : Int32} (n N : Nat) (h : n < N) (hx : x = nI n := by rfl) (hN : N < 2 ^ 31 := by omega) : vp_in x N := by
  subst hx
  exact vp_in_nI h hN
theorem pk_cl {x : Int32} (n : Nat) (hx : x = nI n := by rfl) (h : n < 2 ^ 31 := by omega) : x.toNatClampNeg = n := by
  subst hx
  exact nI_clamp h
theorem pk_loop {σ : Type} (W : Nat → Nat → σ → Prop) (I : Nat → σ → Prop) (e i0 : Nat) (s : σ) (hi : i0 ≤ e) (h0 : I i0 s) (hx : ∀ n s, I e s → W (n + 1) e s)
    (hs : ∀ n i s, i < e → I i s → (∀ s', I (i + 1) s' → W n (i + 1) s') → W (n + 1) i s) : ∃ n, W n i0 s :=
  ⟨e + 1, loop_i W I e hx hs (e + 1) i0 s hi (by omega) h0⟩
theorem pk_loopD {σ : Type} (W : Nat → Nat → σ → Prop) (I : Nat → σ → Prop) (hx : ∀ n s, I 0 s → W (n + 1) 0 s)
    (hs : ∀ n i s, I (i + 1) s → (∀ s', I i s' → W n i s') → W (n + 1) (i + 1) s) : ∀ (e : Nat) (s : σ), I e s → W (e + 1) e s := by
  intro e
  induction e with
  | zero => exact fun s h => hx 0 s h
  | succ e ih => exact fun s h => hs (e + 1) e s h (fun s' h' => ih s' h')
theorem ek_if {c d A B : Prop} (e : c ↔ d) (f : d → A) (g : ¬ d → B) : (c → A) ∧ (¬ c → B) :=
  ⟨fun z => f (e.mp z), fun z => g (fun y => z (e.mpr y))⟩
def bt (x : Int32) (i : Nat) : Bool := x.toBitVec.getLsbD i
theorem b_ext {x y : Int32} (h : ∀ i, i < 32 → bt x i = bt y i) : x = y := Int32.toBitVec_inj.mp (BitVec.eq_of_getLsbD_eq (fun i hi => h i hi))
theorem b_or (x y : Int32) (i : Nat) : bt (x ||| y) i = (bt x i || bt y i) := by unfold bt; rw [Int32.toBitVec_or, BitVec.getLsbD_or]
theorem b_and (x y : Int32) (i : Nat) : bt (x &&& y) i = (bt x i && bt y i) := by unfold bt; rw [Int32.toBitVec_and, BitVec.getLsbD_and]
theorem b_big {x : Int32} {i : Nat} (h : 32 ≤ i) : bt x i = false := BitVec.getLsbD_of_ge _ _ h
theorem b_0 (i : Nat) : bt 0 i = false := BitVec.getLsbD_zero
theorem s_l : ∀ n, n < 32 → ((nI n &&& 31).toBitVec.smod 32).toNat = n := by decide +kernel
theorem b_shl (n : Nat) (hn : n < 32) (x : Int32) {i : Nat} (hi : i < 32) : bt (x <<< (nI n &&& 31)) i = (decide (n ≤ i) && bt x (i - n)) := by
  unfold bt
  rw [Int32.toBitVec_shiftLeft]
  show (x.toBitVec <<< ((nI n &&& 31).toBitVec.smod 32).toNat).getLsbD i = _
  rw [s_l n hn, BitVec.getLsbD_shiftLeft]
  rcases Nat.lt_or_ge i n with h | h
  · simp [h, Nat.not_le.mpr h]
  · simp [hi, h, Nat.not_lt.mpr h]
theorem b_sshr (n : Nat) (hn : n < 32) (x : Int32) {i : Nat} (hi : i < 32) : bt (x >>> (nI n &&& 31)) i = if n + i < 32 then bt x (n + i) else bt x 31 := by
  unfold bt
  rw [Int32.toBitVec_shiftRight]
  show (x.toBitVec.sshiftRight ((nI n &&& 31).toBitVec.smod 32).toNat).getLsbD i = _
  rw [s_l n hn, BitVec.getLsbD_sshiftRight, BitVec.msb_eq_getLsbD_last]
  simp [hi]
theorem bm_1 : ∀ i, i < 32 → bt 1 i = decide (i = 0) := by decide +kernel
theorem bm_and1 (y : Int32) : (y &&& 1) = 0 ↔ bt y 0 = false := by
  constructor
  · intro h
    have e := b_and y 1 0
    rw [h, b_0, bm_1 0 (by omega)] at e
    simpa using e.symm
  · intro h
    apply b_ext
    intro i hi
    rw [b_and, b_0, bm_1 i hi]
    by_cases e : i = 0
    · rw [e, h]; rfl
    · rw [decide_eq_false e, Bool.and_false]
theorem bm_get (x : Int32) {c : Nat} (hc : c < 32) : ((x >>> (nI c &&& 31)) &&& 1) = 0 ↔ bt x c = false := by
  rw [bm_and1, b_sshr c hc x (by omega), if_pos (by omega), Nat.add_zero]
theorem bm_set (x : Int32) {c i : Nat} (hc : c < 32) (hi : i < 32) : bt (x ||| ((1 : Int32) <<< (nI c &&& 31))) i = (bt x i || decide (i = c)) := by
  rw [b_or, b_shl c hc 1 hi]
  by_cases h : c ≤ i
  · rw [bm_1 (i - c) (by omega), decide_eq_true h, Bool.true_and]
    by_cases e : i = c
    · rw [decide_eq_true e, decide_eq_true (by omega)]
    · rw [decide_eq_false e, decide_eq_false (by omega)]
  · rw [decide_eq_false h, Bool.false_and, decide_eq_false (by omega)]
end
section
/-! the component's cells: their least lengths -/
def gx_ok (C : Nat) (K L R : Nat → Nat) (kd lf rg : Nat → Int32) : Prop :=
  C ≤ 16 ∧ ∀ c, c < C → kd c = nI (K c) ∧ K c ≤ 4 ∧ ((K c = 3 ∨ K c = 4) → lf c = nI (L c) ∧ rg c = nI (R c) ∧ L c < C ∧ R c < C)
def gx_V (N : Nat) (a : Nat → Int32) (s : Nat → Nat) : Prop := ∀ v, v < N → a v = nI (s v) ∧ s v ≤ 16777216
theorem gx_wf {C : Nat} {K L R : Nat → Nat} {kd lf rg : Nat → Int32} (G : gx_ok C K L R kd lf rg) : gr_wf C K L R :=
  fun c hc h => ((G.2 c hc).2.2 h).2.2
theorem gx_K4 {k : Nat} (h : k ≤ 4) : k = 0 ∨ k = 1 ∨ k = 2 ∨ k = 3 ∨ k = 4 := by omega
theorem gx_V_upd {N : Nat} {a : Nat → Int32} {s : Nat → Nat} (h : gx_V N a s) {c x : Nat} (hx : x ≤ 16777216) : gx_V N (upd a c (nI x)) (fun u => if u = c then x else s u) := by
  intro u hu
  dsimp only
  by_cases e : u = c
  · rw [if_pos e, e, pk_us]; exact ⟨rfl, hx⟩
  · rw [if_neg e, pk_un e]; exact h u hu
theorem xs_smaller {a b : Nat} (ha : a ≤ 16777216) (hb : b ≤ 16777216) {post : Int32 → Prop} (h1 : b ≤ a → post (nI b)) (h2 : a < b → post (nI a)) : wpX_smaller post (nI a) (nI b) :=
  pk_le b a h1 h2
theorem xs_joined {a b : Nat} (ha : a ≤ 16777216) (hb : b ≤ 16777216) {post : Int32 → Prop} (h1 : 16777216 ≤ a + b → post (nI 16777216)) (h2 : a + b < 16777216 → post (nI (a + b))) : wpX_joined post (nI a) (nI b) :=
  nm_r (nI_add a b) (pk_le 16777216 (a + b) h1 h2)
section
variable {C : Nat} {K L R : Nat → Nat} {fl ft fo fr fi : Int32} {kd lf rg tok st ta : Nat → Int32}
theorem xl_rule (G : gx_ok C K L R kd lf rg) {ls : Nat → Int32} {s : Nat → Nat} (hV : gx_V C ls s) {c : Nat} (hc : c < C) (post : Int32 → Prop)
    (h : ∀ x, x ≤ 16777216 → (∀ y, of_L K L R s c y → x ≤ y) → (x < 16777216 → of_L K L R s c x) → post (nI x)) :
    wpX_leastByRule post (nI C, fl, ft, fo, fr, fi, kd, lf, rg, ls, tok, st, ta) (nI c) := by
  have hC := G.1
  obtain ⟨hk, h4, hlr⟩ := G.2 c hc
  have hi : vp_in (nI c) 16 := vp_in_nI (by omega) (by omega)
  unfold wpX_leastByRule
  dsimp only
  rw [show (nI c).toNatClampNeg = c from nI_clamp (by omega)]
  refine ⟨hi, nm_r hk ?_⟩
  rcases gx_K4 h4 with e | e | e | e | e
  · rw [e]
    refine br_t (by decide) (h 16777216 (Nat.le_refl _) (fun y hy => ?_) (fun z => absurd z (by omega)))
    rcases hy with ⟨k, hy⟩ | ⟨k, hy⟩ | ⟨k, hy | hy⟩ | ⟨k, hy⟩ <;> omega
  · rw [e]
    exact br_f (by decide) (br_f (by decide) (br_t rfl (h 0 (by omega) (fun y _ => by omega) (fun _ => Or.inl ⟨e, rfl⟩))))
  · rw [e]
    refine br_f (by decide) (br_f (by decide) (br_f (by decide) (br_t rfl (h 1 (by omega) (fun y hy => ?_) (fun _ => Or.inr (Or.inl ⟨e, rfl⟩))))))
    rcases hy with ⟨k, hy⟩ | ⟨k, hy⟩ | ⟨k, hy | hy⟩ | ⟨k, hy⟩ <;> omega
  · obtain ⟨el, er, hl, hr⟩ := hlr (Or.inl e)
    have vl := hV _ hl
    have vr := hV _ hr
    rw [e, el, er, show (nI (L c)).toNatClampNeg = L c from nI_clamp (by omega), show (nI (R c)).toNatClampNeg = R c from nI_clamp (by omega), vl.1, vr.1]
    refine br_f (by decide) (br_f (by decide) (br_f (by decide) (br_f (by decide) (br_t rfl ⟨hi, vp_in_nI (by omega) (by omega), hi, vp_in_nI (by omega) (by omega), ?_⟩))))
    refine xs_smaller vl.2 vr.2 (fun z => h _ vr.2 (fun y hy => ?_) (fun _ => Or.inr (Or.inr (Or.inl ⟨e, Or.inr rfl⟩)))) (fun z => h _ vl.2 (fun y hy => ?_) (fun _ => Or.inr (Or.inr (Or.inl ⟨e, Or.inl rfl⟩))))
    · rcases hy with ⟨k, hy⟩ | ⟨k, hy⟩ | ⟨k, hy | hy⟩ | ⟨k, hy⟩ <;> omega
    · rcases hy with ⟨k, hy⟩ | ⟨k, hy⟩ | ⟨k, hy | hy⟩ | ⟨k, hy⟩ <;> omega
  · obtain ⟨el, er, hl, hr⟩ := hlr (Or.inr e)
    have vl := hV _ hl
    have vr := hV _ hr
    rw [e, el, er, show (nI (L c)).toNatClampNeg = L c from nI_clamp (by omega), show (nI (R c)).toNatClampNeg = R c from nI_clamp (by omega), vl.1, vr.1]
    refine br_f (by decide) (br_f (by decide) (br_f (by decide) (br_f (by decide) (br_f (by decide) (br_t rfl ⟨hi, vp_in_nI (by omega) (by omega), hi, vp_in_nI (by omega) (by omega), ?_⟩)))))
    refine xs_joined vl.2 vr.2 (fun z => h _ (by omega) (fun y hy => ?_) (fun z2 => absurd z2 (by omega))) (fun z => h _ (by omega) (fun y hy => ?_) (fun _ => Or.inr (Or.inr (Or.inr ⟨e, rfl⟩))))
    · rcases hy with ⟨k, hy⟩ | ⟨k, hy⟩ | ⟨k, hy | hy⟩ | ⟨k, hy⟩ <;> omega
    · rcases hy with ⟨k, hy⟩ | ⟨k, hy⟩ | ⟨k, hy | hy⟩ | ⟨k, hy⟩ <;> omega
theorem xc_44 (G : gx_ok C K L R kd lf rg) {D s : Nat → Nat} (GD : fx_Good C 16777216 (of_L K L R) D) (hs : ∀ v, v < C → s v ≤ 16777216) (post : SX → Prop)
    (J28 : Int32 → Int32 → (Nat → Int32) → (Nat → Int32) → (Nat → Int32) → (Nat → Int32) → (Nat → Int32) → (Nat → Int32) → (Nat → Int32) → Prop) (x2 : Int32)
    (hJ : ∀ x1 ls t, gx_V C ls t → fx_In C (of_L K L R) D s C t → (x1 = 0 → ∀ u, u < C → t u = s u) → J28 x1 (x2 + 1) kd lf rg ls tok st ta) :
    ∀ f c x1 ls t, c ≤ C → C - c < f → gx_V C ls t → fx_In C (of_L K L R) D s c t → (x1 = 0 → ∀ u, u < C → t u = s u) →
      wX_measureCells_44 post J28 x2 (nI C) fl ft fo fr fi f x1 (nI c) kd lf rg ls tok st ta := by
  have hC := G.1
  intro f
  induction f with
  | zero => intro c x1 ls t _ h; omega
  | succ f ih =>
    intro c x1 ls t hc hf hV hI hx
    by_cases z : c < C
    · refine br_f (nI_ge z (by omega)) (xl_rule G hV z _ (fun x hxB hl ho => ?_))
      rw [show (nI c).toNatClampNeg = c from nI_clamp (by omega), (hV c z).1]
      refine ⟨vp_in_nI (by omega) (by omega), ?_⟩
      have hB := (hV c z).2
      refine pk_le (t c) x (fun hle => nm_r (nI_1 c) (ih (c + 1) x1 ls t z (by omega) hV (fx_in_skip (of_L_m (gx_wf G)) hI (fun y hy => Nat.le_trans hle (hl y hy))) hx))
        (fun hlt => ⟨vp_in_nI (by omega) (by omega), nm_e (nm_r (nI_1 c) (ih (c + 1) 1 (upd ls c (nI x)) (fun u => if u = c then x else t u) z (by omega) (gx_V_upd hV hxB)
          (fx_in_set GD (of_L_m (gx_wf G)) hI z hlt (ho (by omega)) hl) (fun h => absurd h (by decide))))⟩)
    · have e : c = C := by omega
      subst e
      exact br_t (nI_le (Nat.le_refl _) (by omega)) (nm_e (hJ x1 ls t hV hI hx))
theorem xc_28 (G : gx_ok C K L R kd lf rg) {D : Nat → Nat} (GD : fx_Good C 16777216 (of_L K L R) D) (post : SX → Prop)
    (hp : ∀ ls, gx_V C ls D → post (nI C, fl, ft, fo, fr, fi, kd, lf, rg, ls, tok, st, ta)) :
    ∀ f k x1 ls s, k ≤ C → C - k < f → gx_V C ls s → fx_R C 16777216 (fun _ => true) D k s → (x1 = 0 → ∀ u, u < C → s u = D u) →
      wX_measureCells_28 post (nI C) fl ft fo fr fi f x1 (nI k) kd lf rg ls tok st ta := by
  have hC := G.1
  have fin : ∀ ls s, gx_V C ls s → (∀ u, u < C → s u = D u) → post (nI C, fl, ft, fo, fr, fi, kd, lf, rg, ls, tok, st, ta) :=
    fun ls s hV e => hp ls (fun v hv => by rw [← e v hv]; exact hV v hv)
  intro f
  induction f with
  | zero => intro k x1 ls s _ h; omega
  | succ f ih =>
    intro k x1 ls s hk hf hV hR hx
    by_cases z : x1 = 0
    · exact br_t z (fin ls s hV (hx z))
    · refine br_f z (pk_le C k (fun h => fin ls s hV (fx_fin GD (fun _ _ _ _ _ => rfl) hR (by rw [fx_cnt_all]; exact h))) (fun h => ⟨C + 1, ?_⟩))
      refine xc_44 G GD (fun v hv => (hV v hv).2) post _ (nI k) (fun y ls' t hV' hI hy => ?_) (C + 1) 0 0 ls s (by omega) (by omega) hV (fx_in0 hR) (fun _ u _ => rfl)
      rw [nI_1]
      exact ih (k + 1) y ls' t (by omega) (by omega) hV' (fx_in_end GD (fun _ _ _ _ _ => rfl) hR hI) (fun e => fx_in_stop GD hR hI (hy e))
theorem xc_2 (G : gx_ok C K L R kd lf rg) {D : Nat → Nat} (GD : fx_Good C 16777216 (of_L K L R) D) (post : SX → Prop)
    (hp : ∀ ls, gx_V C ls D → post (nI C, fl, ft, fo, fr, fi, kd, lf, rg, ls, tok, st, ta)) :
    ∀ f c ls, c ≤ C → C - c < f → (∀ u, u < c → ls u = nI 16777216) → wX_measureCells_2 post (nI C) fl ft fo fr fi f (nI c) kd lf rg ls tok st ta := by
  have hC := G.1
  intro f
  induction f with
  | zero => intro c ls _ h; omega
  | succ f ih =>
    intro c ls hc hf hu
    refine pk_le C c (fun h => ⟨C + 1, ?_⟩) (fun h => ⟨vp_in_nI (by omega) (by omega), nm_e (nm_r (nI_1 c) (ih (c + 1) _ (by omega) (by omega) ?_))⟩)
    · have e : c = C := by omega
      subst e
      exact xc_28 G GD post hp (c + 1) 0 1 ls (fun _ => 16777216) (by omega) (by omega) (fun v hv => ⟨hu v hv, Nat.le_refl _⟩) (fx_R0 GD (fun _ _ => rfl)) (fun h => absurd h (by decide))
    · intro u hu'
      rw [nI_clamp (by omega)]
      by_cases e : u = c
      · rw [e, pk_us]; rfl
      · rw [pk_un e]; exact hu u (by omega)
theorem xc_all (G : gx_ok C K L R kd lf rg) {ls : Nat → Int32} (post : SX → Prop)
    (hp : ∀ ls D, fx_Good C 16777216 (of_L K L R) D → gx_V C ls D → post (nI C, fl, ft, fo, fr, fi, kd, lf, rg, ls, tok, st, ta)) :
    wpX_measureCells post (nI C, fl, ft, fo, fr, fi, kd, lf, rg, ls, tok, st, ta) := by
  obtain ⟨D, GD⟩ := fx_good (B := 16777216) (of_L_m (gx_wf G)) (of_L_w _ (gx_wf G))
  exact ⟨C + 1, xc_2 G GD post (fun ls hV => hp ls D GD hV) (C + 1) 0 ls (by omega) (by omega) (fun u hu => absurd hu (by omega))⟩
end
end
section
/-! the component's stretches: a bit mask each -/
def gx_S (C : Nat) (K L R : Nat → Nat) (tk : Nat → Nat → Prop) (st : Nat → Int32) (n : Nat) : Prop :=
  ∀ c i j, c < C → i ≤ j → j < n → (bt (st (i * 13 + j)) c = true ↔ gr_Sp C K L R tk c i j)
theorem nx_13 (f t : Nat) : nI f * 13 + nI t = nI (f * 13 + t) := by
  show nI f * nI 13 + nI t = _
  rw [pk_mul, nI_add]
theorem bm_nf {b : Bool} (h : ¬ b = false) : b = true := by
  cases b with
  | true => rfl
  | false => exact absurd rfl h
theorem bm_nt {b : Bool} (h : b = false) : ¬ b = true := by
  rw [h]
  exact Bool.false_ne_true
section
variable {C : Nat} {K L R : Nat → Nat} {cc fl ft fo fr fi : Int32} {kd lf rg ls tok st ta : Nat → Int32}
theorem xm_at {c f t : Nat} (hc : c < 16) (ht : f * 13 + t < 169) {post : Int32 → Prop} (h1 : bt (st (f * 13 + t)) c = true → post 1) (h0 : bt (st (f * 13 + t)) c = false → post 0) :
    wpX_matches post (cc, fl, ft, fo, fr, fi, kd, lf, rg, ls, tok, st, ta) (nI c) (nI f) (nI t) := by
  unfold wpX_matches
  dsimp only
  rw [nx_13, show (nI (f * 13 + t)).toNatClampNeg = f * 13 + t from nI_clamp (by omega)]
  exact ⟨vp_in_nI ht (by omega), ek_if (bm_get _ (by omega)) h0 (fun h => h1 (bm_nf h))⟩
theorem xm_two3 {l r f t : Nat} (hl : l < 16) (hr : r < 16) (ht : t ≤ 12) (post : Int32 → Prop)
    (h1 : ∀ k, f ≤ k → k ≤ t → bt (st (f * 13 + k)) l = true → bt (st (k * 13 + t)) r = true → post 1)
    (h0 : (∀ k, f ≤ k → k ≤ t → ¬ (bt (st (f * 13 + k)) l = true ∧ bt (st (k * 13 + t)) r = true)) → post 0) :
    ∀ n k, f ≤ k → k ≤ t + 1 → t + 1 - k < n → (∀ m, f ≤ m → m < k → ¬ (bt (st (f * 13 + m)) l = true ∧ bt (st (m * 13 + t)) r = true)) →
      wX_matchesInTwo_3 post (nI l) (nI r) (nI f) (nI t) cc fl ft fo fr fi kd lf rg ls tok st ta n (nI k) := by
  intro n
  induction n with
  | zero => intro k _ _ h; omega
  | succ n ih =>
    intro k hfk hkt hn hm
    have next : k ≤ t → ¬ (bt (st (f * 13 + k)) l = true ∧ bt (st (k * 13 + t)) r = true) → wX_matchesInTwo_3 post (nI l) (nI r) (nI f) (nI t) cc fl ft fo fr fi kd lf rg ls tok st ta n (nI (k + 1)) := fun hk z =>
      ih (k + 1) (by omega) (by omega) (by omega) (fun m a b => by
        by_cases e : m = k
        · rw [e]; exact z
        · exact hm m a (by omega))
    refine pk_lt t k (fun h => h0 (fun m a b => hm m a (by omega))) (fun h => xm_at hl (by omega) (fun b1 => ?_) (fun b0 => ?_))
    · refine br_f (by decide) (xm_at hr (by omega) (fun c1 => br_f (by decide) (h1 k hfk h b1 c1)) (fun c0 => br_t rfl (nm_r (nI_1 k) (next h (fun z => bm_nt c0 z.2)))))
    · exact br_t rfl (nm_r (nI_1 k) (next h (fun z => bm_nt b0 z.1)))
theorem xm_two {l r f t : Nat} (hl : l < 16) (hr : r < 16) (hft : f ≤ t) (ht : t ≤ 12) (post : Int32 → Prop)
    (h1 : ∀ k, f ≤ k → k ≤ t → bt (st (f * 13 + k)) l = true → bt (st (k * 13 + t)) r = true → post 1)
    (h0 : (∀ k, f ≤ k → k ≤ t → ¬ (bt (st (f * 13 + k)) l = true ∧ bt (st (k * 13 + t)) r = true)) → post 0) :
    wpX_matchesInTwo post (cc, fl, ft, fo, fr, fi, kd, lf, rg, ls, tok, st, ta) (nI l) (nI r) (nI f) (nI t) :=
  ⟨t + 2, xm_two3 hl hr ht post h1 h0 (t + 2) f (Nat.le_refl _) (by omega) (by omega) (fun m a b => absurd a (by omega))⟩
theorem xm_rule (G : gx_ok C K L R kd lf rg) {c f t : Nat} (hc : c < C) (hft : f < t) (ht : t ≤ 12) {s : Nat → Nat} {Mt : Nat → Nat → Nat → Prop}
    (hs : ∀ l, l < C → (bt (st (f * 13 + t)) l = true ↔ s l = 0))
    (hm1 : ∀ l k, l < C → f ≤ k → k < t → (bt (st (f * 13 + k)) l = true ↔ Mt l f k)) (hm2 : ∀ r k, r < C → f < k → k ≤ t → (bt (st (k * 13 + t)) r = true ↔ Mt r k t))
    (post : Int32 → Prop) (h1 : of_M K L R (fun i c => tok i = lf c) Mt f t s c 0 → post 1) (h0 : (∀ x, ¬ of_M K L R (fun i c => tok i = lf c) Mt f t s c x) → post 0) :
    wpX_matchesByRule post (nI C, fl, ft, fo, fr, fi, kd, lf, rg, ls, tok, st, ta) (nI c) (nI f) (nI t) := by
  have hC := G.1
  obtain ⟨hk, h4, hlr⟩ := G.2 c hc
  have hi : vp_in (nI c) 16 := vp_in_nI (by omega) (by omega)
  unfold wpX_matchesByRule
  dsimp only
  rw [show (nI c).toNatClampNeg = c from nI_clamp (by omega), show (nI f).toNatClampNeg = f from nI_clamp (by omega)]
  refine ⟨hi, nm_r hk ?_⟩
  rcases gx_K4 h4 with e | e | e | e | e
  · rw [e]
    refine br_t (by decide) (h0 (fun x hx => ?_))
    obtain ⟨_, hx⟩ := hx
    rcases hx with ⟨k, _⟩ | ⟨k, _⟩ | ⟨k, _⟩ <;> omega
  · rw [e]
    refine br_t (by decide) (h0 (fun x hx => ?_))
    obtain ⟨_, hx⟩ := hx
    rcases hx with ⟨k, _⟩ | ⟨k, _⟩ | ⟨k, _⟩ <;> omega
  · rw [e]
    refine br_f (by decide) (br_f (by decide) (br_t rfl (pk_eq (f + 1) t (fun e2 => ⟨vp_in_nI (by omega) (by omega), hi, br_c (fun w => h1 ⟨rfl, Or.inl ⟨e, e2, w⟩⟩) (fun w => h0 (fun x hx => ?_))⟩) (fun e2 => h0 (fun x hx => ?_)) (nI_1 f))))
    · obtain ⟨_, hx⟩ := hx
      rcases hx with ⟨k, _, h⟩ | ⟨k, _⟩ | ⟨k, _⟩
      · exact w h
      · omega
      · omega
    · obtain ⟨_, hx⟩ := hx
      rcases hx with ⟨k, h, _⟩ | ⟨k, _⟩ | ⟨k, _⟩ <;> omega
  · obtain ⟨el, er, hl, hr⟩ := hlr (Or.inl e)
    rw [e, el, er]
    refine br_f (by decide) (br_f (by decide) (br_f (by decide) (br_t rfl ⟨hi, xm_at (by omega) (by omega) (fun b1 => ?_) (fun b0 => ?_)⟩)))
    · exact br_f (by decide) (h1 ⟨rfl, Or.inr (Or.inl ⟨e, Or.inl ((hs _ hl).1 b1)⟩)⟩)
    · refine br_t rfl ⟨hi, xm_at (by omega) (by omega) (fun c1 => ?_) (fun c0 => ?_)⟩
      · exact br_f (by decide) (h1 ⟨rfl, Or.inr (Or.inl ⟨e, Or.inr ((hs _ hr).1 c1)⟩)⟩)
      · refine br_t rfl (h0 (fun x hx => ?_))
        obtain ⟨_, hx⟩ := hx
        rcases hx with ⟨k, _⟩ | ⟨k, h | h⟩ | ⟨k, _⟩
        · omega
        · exact bm_nt b0 ((hs _ hl).2 h)
        · exact bm_nt c0 ((hs _ hr).2 h)
        · omega
  · obtain ⟨el, er, hl, hr⟩ := hlr (Or.inr e)
    rw [e, el, er]
    refine br_f (by decide) (br_f (by decide) (br_f (by decide) (br_f (by decide) (br_t rfl ⟨hi, hi, xm_two (by omega) (by omega) (by omega) ht _ (fun k a b b1 b2 => ⟨rfl, h1 ⟨rfl, Or.inr (Or.inr ⟨e, k, a, b, ?_, ?_⟩)⟩⟩) (fun hn => ⟨rfl, h0 (fun x hx => ?_)⟩)⟩))))
    · by_cases e2 : k = t
      · rw [e2] at b1
        exact Or.inl ⟨e2, (hs _ hl).1 b1⟩
      · exact Or.inr ⟨e2, (hm1 _ k hl a (by omega)).1 b1⟩
    · by_cases e2 : k = f
      · rw [e2] at b2
        exact Or.inl ⟨e2, (hs _ hr).1 b2⟩
      · exact Or.inr ⟨e2, (hm2 _ k hr (by omega) b).1 b2⟩
    · obtain ⟨_, hx⟩ := hx
      rcases hx with ⟨k, _⟩ | ⟨k, _⟩ | ⟨k, m, a, b, p, q⟩
      · omega
      · omega
      · refine hn m a b ⟨?_, ?_⟩
        · rcases p with ⟨e2, p⟩ | ⟨e2, p⟩
          · rw [e2]; exact (hs _ hl).2 p
          · exact (hm1 _ m hl a (by omega)).2 p
        · rcases q with ⟨e2, q⟩ | ⟨e2, q⟩
          · rw [e2]; exact (hs _ hr).2 q
          · exact (hm2 _ m hr (by omega) b).2 q
/-- the mask at place p of st against the values t (0: set); elsewhere st is st0 -/
def xm_rel (C p : Nat) (st0 st : Nat → Int32) (t : Nat → Nat) : Prop := (∀ i, i ≠ p → st i = st0 i) ∧ ∀ l, l < C → (bt (st p) l = true ↔ t l = 0) ∧ t l ≤ 1
theorem xm_45 (G : gx_ok C K L R kd lf rg) {f t : Nat} (hft : f < t) (ht : t ≤ 12) {st0 : Nat → Int32} {D s : Nat → Nat}
    (GD : fx_Good C 1 (of_M K L R (fun i c => tok i = lf c) (fun l i j => bt (st0 (i * 13 + j)) l = true) f t) D) (post : SX → Prop)
    (J20 : Int32 → Int32 → (Nat → Int32) → (Nat → Int32) → (Nat → Int32) → (Nat → Int32) → (Nat → Int32) → (Nat → Int32) → (Nat → Int32) → Prop) (x5 x6 : Int32)
    (hJ : ∀ x4 st w, xm_rel C (f * 13 + t) st0 st w → fx_In C (of_M K L R (fun i c => tok i = lf c) (fun l i j => bt (st0 (i * 13 + j)) l = true) f t) D s C w →
      (x4 = 0 → st (f * 13 + t) = x6) → J20 x4 (x5 + 1) kd lf rg ls tok st ta) :
    ∀ n c st w, c ≤ C → C - c < n → xm_rel C (f * 13 + t) st0 st w → fx_In C (of_M K L R (fun i c => tok i = lf c) (fun l i j => bt (st0 (i * 13 + j)) l = true) f t) D s c w →
      wX_matchStretch_45 post J20 (nI f) (nI t) (nI (f * 13 + t)) x5 x6 (nI C) fl ft fo fr fi n (nI c) kd lf rg ls tok st ta := by
  have hC := G.1
  have hat : (nI (f * 13 + t)).toNatClampNeg = f * 13 + t := nI_clamp (by omega)
  have hin : vp_in (nI (f * 13 + t)) 169 := vp_in_nI (by omega) (by omega)
  intro n
  induction n with
  | zero => intro c st w _ h; omega
  | succ n ih =>
    intro c st w hc hn hr hI
    by_cases z : c < C
    · refine br_f (nI_ge z (by omega)) (xm_rule G z hft ht (s := w) (Mt := fun l i j => bt (st0 (i * 13 + j)) l = true) (fun l hl => (hr.2 l hl).1) (fun l k _ _ h => ?_) (fun r k _ h _ => ?_) _ (fun ho => ?_) (fun hno => ?_))
      · rw [hr.1 (f * 13 + k) (by omega)]
      · rw [hr.1 (k * 13 + t) (by omega)]
      · refine br_f (by decide) ⟨hin, hin, ?_⟩
        rw [hat]
        refine nm_e (nm_r (nI_1 c) (ih (c + 1) _ (fun u => if u = c then 0 else w u) z (by omega) ⟨fun i hi => by rw [pk_un hi]; exact hr.1 i hi, fun l hl => ?_⟩ ?_))
        · rw [pk_us, bm_set _ (by omega) (by omega)]
          dsimp only
          by_cases e : l = c
          · rw [if_pos e, decide_eq_true e, Bool.or_true]
            exact ⟨⟨fun _ => rfl, fun _ => rfl⟩, Nat.zero_le _⟩
          · rw [if_neg e, decide_eq_false e, Bool.or_false]
            exact hr.2 l hl
        · by_cases e : w c = 0
          · refine fx_in_ext (fx_in_skip (of_M_m _ f t (gx_wf G)) hI (fun y _ => by omega)) (fun u _ => ?_)
            by_cases e2 : u = c
            · rw [if_pos e2, e2, e]
            · rw [if_neg e2]
          · exact fx_in_set GD (of_M_m _ f t (gx_wf G)) hI z (by omega) ho (fun y _ => Nat.zero_le _)
      · exact br_t rfl (nm_r (nI_1 c) (ih (c + 1) st w z (by omega) hr (fx_in_skip (of_M_m _ f t (gx_wf G)) hI (fun y hy => absurd hy (hno y)))))
    · have e : c = C := by omega
      subst e
      refine br_t (nI_le (Nat.le_refl _) (by omega)) ⟨hin, ?_⟩
      rw [hat]
      exact br_c (fun e => nm_e (hJ 0 st w hr hI (fun _ => e))) (fun e => nm_e (hJ 1 st w hr hI (fun z => absurd z (by decide))))
theorem xm_20 (G : gx_ok C K L R kd lf rg) {f t : Nat} (hft : f < t) (ht : t ≤ 12) {st0 : Nat → Int32} {D : Nat → Nat}
    (GD : fx_Good C 1 (of_M K L R (fun i c => tok i = lf c) (fun l i j => bt (st0 (i * 13 + j)) l = true) f t) D) (post : SX → Prop)
    (hp : ∀ st, xm_rel C (f * 13 + t) st0 st D → post (nI C, fl, ft, fo, fr, fi, kd, lf, rg, ls, tok, st, ta)) :
    ∀ n k x4 st s, k ≤ C → C - k < n → xm_rel C (f * 13 + t) st0 st s → fx_R C 1 (fun _ => true) D k s → (x4 = 0 → ∀ u, u < C → s u = D u) →
      wX_matchStretch_20 post (nI f) (nI t) (nI (f * 13 + t)) (nI C) fl ft fo fr fi n x4 (nI k) kd lf rg ls tok st ta := by
  have hC := G.1
  have hat : (nI (f * 13 + t)).toNatClampNeg = f * 13 + t := nI_clamp (by omega)
  have hin : vp_in (nI (f * 13 + t)) 169 := vp_in_nI (by omega) (by omega)
  have fin : ∀ st s, xm_rel C (f * 13 + t) st0 st s → (∀ u, u < C → s u = D u) → post (nI C, fl, ft, fo, fr, fi, kd, lf, rg, ls, tok, st, ta) :=
    fun st s hr e => hp st ⟨hr.1, fun l hl => by rw [← e l hl]; exact hr.2 l hl⟩
  intro n
  induction n with
  | zero => intro k x4 st s _ h; omega
  | succ n ih =>
    intro k x4 st s hk hn hr hR hx
    by_cases z : x4 = 0
    · exact br_t z (fin st s hr (hx z))
    · refine br_f z (pk_le C k (fun h => fin st s hr (fx_fin GD (fun _ _ _ _ _ => rfl) hR (by rw [fx_cnt_all]; exact h))) (fun h => ⟨hin, ?_⟩))
      rw [hat]
      refine nm_e ⟨C + 1, xm_45 G hft ht GD post _ (nI k) _ (fun y st' w hr' hI hy => ?_) (C + 1) 0 st s (by omega) (by omega) hr (fx_in0 hR)⟩
      rw [nI_1]
      refine ih (k + 1) y st' w (by omega) (by omega) hr' (fx_in_end GD (fun _ _ _ _ _ => rfl) hR hI) (fun e => fx_in_stop GD hR hI (fun u hu => ?_))
      have a := hr.2 u hu
      have b := hr'.2 u hu
      rw [hy e] at b
      have q : s u = 0 ↔ w u = 0 := a.1.symm.trans b.1
      omega
theorem xm_stretch (G : gx_ok C K L R kd lf rg) {f t : Nat} (hft : f < t) (ht : t ≤ 12)
    (hl : ∀ l k, l < C → f ≤ k → k < t → (bt (st (f * 13 + k)) l = true ↔ gr_Sp C K L R (fun i c => tok i = lf c) l f k))
    (hr : ∀ r k, r < C → f < k → k ≤ t → (bt (st (k * 13 + t)) r = true ↔ gr_Sp C K L R (fun i c => tok i = lf c) r k t)) (post : SX → Prop)
    (hp : ∀ st', (∀ i, i ≠ f * 13 + t → st' i = st i) → (∀ c, c < C → (bt (st' (f * 13 + t)) c = true ↔ gr_Sp C K L R (fun i c => tok i = lf c) c f t)) →
      post (nI C, fl, ft, fo, fr, fi, kd, lf, rg, ls, tok, st', ta)) :
    wpX_matchStretch post (nI C, fl, ft, fo, fr, fi, kd, lf, rg, ls, tok, st, ta) (nI f) (nI t) := by
  have hC := G.1
  obtain ⟨D, GD⟩ := fx_good (B := 1) (of_M_m (tk := fun i c => tok i = lf c) (fun l i j => bt (st (i * 13 + j)) l = true) f t (gx_wf G)) (of_M_w _ _ f t (gx_wf G))
  unfold wpX_matchStretch
  dsimp only
  refine nm_r (nx_13 f t) ⟨vp_in_nI (by omega) (by omega), ?_⟩
  rw [show (nI (f * 13 + t)).toNatClampNeg = f * 13 + t from nI_clamp (by omega)]
  refine nm_e ⟨C + 1, xm_20 G hft ht GD post (fun st' h => hp st' h.1 (fun c hc => (h.2 c hc).1.trans (gr_mask (gx_wf G) GD hft hl hr hc))) (C + 1) 0 1 _ (fun _ => 1) (by omega) (by omega)
    ⟨fun i hi => pk_un hi, fun l hl => ?_⟩ (fx_R0 GD (fun _ _ => rfl)) (fun z => absurd z (by decide))⟩
  rw [pk_us, b_0]
  exact ⟨⟨fun z => absurd z (by decide), fun z => absurd (show (1 : Nat) = 0 from z) (by decide)⟩, Nat.le_refl _⟩
theorem xm_49 (G : gx_ok C K L R kd lf rg) {t : Nat} (ht : t ≤ 12) (post : SX → Prop)
    (hp : ∀ st, gx_S C K L R (fun i c => tok i = lf c) st (t + 1) → post (nI C, fl, ft, fo, fr, fi, kd, lf, rg, ls, tok, st, ta)) :
    ∀ n k st, k ≤ t → k < n → gx_S C K L R (fun i c => tok i = lf c) st t → (∀ c i, c < C → k ≤ i → i ≤ t → (bt (st (i * 13 + t)) c = true ↔ gr_Sp C K L R (fun i c => tok i = lf c) c i t)) →
      wX_matchUpTo_49 post (nI t) n (nI k + (-1)) (nI C) fl ft fo fr fi kd lf rg ls tok st ta := by
  intro n
  induction n with
  | zero => intro k st _ h; omega
  | succ n ih =>
    intro k st hk hn hS hT
    cases k with
    | zero =>
      refine br_t (by decide) (hp st (fun c i j hc hij hj => ?_))
      by_cases e : j = t
      · rw [e]
        exact hT c i hc (Nat.zero_le _) (by omega)
      · exact hS c i j hc hij (by omega)
    | succ j =>
      rw [pk_m1]
      refine br_f (nI_pos (by omega)) (xm_stretch G (by omega) ht (fun l k hl a b => hS l j k hl a b) (fun r k hr a b => hT r k hr (by omega) b) _ (fun st' h1 h2 => ?_))
      refine nm_e (ih j st' (by omega) (by omega) (fun c i j2 hc hij hj => ?_) (fun c i hc hi hit => ?_))
      · rw [h1 _ (by omega)]
        exact hS c i j2 hc hij hj
      · by_cases e : i = j
        · rw [e]
          exact h2 c hc
        · rw [h1 _ (by omega)]
          exact hT c i hc (by omega) hit
theorem xm_4 (G : gx_ok C K L R kd lf rg) {D : Nat → Nat} (GD : fx_Good C 16777216 (of_L K L R) D) (hV : gx_V C ls D) {t : Nat} (ht : t ≤ 12)
    (hS : gx_S C K L R (fun i c => tok i = lf c) st t) (post : SX → Prop)
    (hp : ∀ st, gx_S C K L R (fun i c => tok i = lf c) st (t + 1) → post (nI C, fl, ft, fo, fr, fi, kd, lf, rg, ls, tok, st, ta)) :
    ∀ n c x2, c ≤ C → C - c < n → (∀ l, l < C → (bt x2 l = true ↔ l < c ∧ D l = 0)) → wX_matchUpTo_4 post (nI t) (nI C) fl ft fo fr fi kd lf rg ls tok st ta n x2 (nI c) := by
  have hC := G.1
  intro n
  induction n with
  | zero => intro c x2 _ h; omega
  | succ n ih =>
    intro c x2 hc hn hx
    refine pk_le C c (fun h => ?_) (fun h => ⟨vp_in_nI (by omega) (by omega), ?_⟩)
    · rw [nx_13, show (nI (t * 13 + t)).toNatClampNeg = t * 13 + t from nI_clamp (by omega)]
      refine ⟨vp_in_nI (by omega) (by omega), nm_e (nm_r (Int32.sub_eq_add_neg _ _) ⟨t + 1, xm_49 G ht post hp (t + 1) t _ (Nat.le_refl _) (by omega) (fun l i j hl hij hj => ?_) (fun l i hl hi hit => ?_)⟩)⟩
      · rw [pk_un (by omega)]
        exact hS l i j hl hij hj
      · have e : i = t := by omega
        rw [e, pk_us, hx l hl, ← gr_null (by omega) (gx_wf G) GD hl t]
        exact ⟨fun z => z.2, fun z => ⟨by omega, z⟩⟩
    · rw [show (nI c).toNatClampNeg = c from nI_clamp (by omega), (hV c h).1]
      have hB := (hV c h).2
      refine pk_eq (D c) 0 (fun e => nm_e (nm_r (nI_1 c) (ih (c + 1) _ (by omega) (by omega) (fun l hl => ?_)))) (fun e => nm_r (nI_1 c) (ih (c + 1) x2 (by omega) (by omega) (fun l hl => ?_)))
      · rw [bm_set _ (by omega) (by omega), Bool.or_eq_true, hx l hl, decide_eq_true_eq]
        constructor
        · intro q
          rcases q with q | q
          · exact ⟨by omega, q.2⟩
          · rw [q]; exact ⟨by omega, e⟩
        · intro q
          by_cases e2 : l = c
          · exact Or.inr e2
          · exact Or.inl ⟨by omega, q.2⟩
      · rw [hx l hl]
        constructor
        · intro q
          exact ⟨by omega, q.2⟩
        · intro q
          refine ⟨?_, q.2⟩
          by_cases e2 : l = c
          · rw [e2] at q
            exact absurd q.2 e
          · omega
theorem xm_upto (G : gx_ok C K L R kd lf rg) {D : Nat → Nat} (GD : fx_Good C 16777216 (of_L K L R) D) (hV : gx_V C ls D) {t : Nat} (ht : t ≤ 12)
    (hS : gx_S C K L R (fun i c => tok i = lf c) st t) (post : SX → Prop)
    (hp : ∀ st, gx_S C K L R (fun i c => tok i = lf c) st (t + 1) → post (nI C, fl, ft, fo, fr, fi, kd, lf, rg, ls, tok, st, ta)) :
    wpX_matchUpTo post (nI C, fl, ft, fo, fr, fi, kd, lf, rg, ls, tok, st, ta) (nI t) :=
  ⟨C + 1, xm_4 G GD hV ht hS post hp (C + 1) 0 0 (by omega) (by omega) (fun l _ => by
    rw [b_0]
    exact ⟨fun z => absurd z (by decide), fun z => absurd z.1 (by omega)⟩)⟩
end
end
section
/-! the component's tails, row by row from the input's end -/
theorem nx_16m (f : Nat) : nI f * 16 = nI (f * 16) := pk_mul f 16
theorem nx_16 (f t : Nat) : nI f * 16 + nI t = nI (f * 16 + t) := by rw [nx_16m, nI_add]
theorem of_T_ext {K L R : Nat → Nat} {tk : Nat → Nat → Prop} {Mt : Nat → Nat → Nat → Prop} {Ls : Nat → Nat} {T U : Nat → Nat → Nat} {f e : Nat} (h : ∀ k, f < k → T k = U k) :
    of_T K L R tk Mt Ls T f e = of_T K L R tk Mt Ls U f e := by
  funext s c x
  apply propext
  constructor
  · intro o
    rcases o with o | o | ⟨k, o | o | ⟨m, h1, h2, h3, h4⟩⟩
    · exact Or.inl o
    · exact Or.inr (Or.inl o)
    · exact Or.inr (Or.inr ⟨k, Or.inl o⟩)
    · exact Or.inr (Or.inr ⟨k, Or.inr (Or.inl o)⟩)
    · exact Or.inr (Or.inr ⟨k, Or.inr (Or.inr ⟨m, h1, h2, h3, by rw [← h m h1]; exact h4⟩)⟩)
  · intro o
    rcases o with o | o | ⟨k, o | o | ⟨m, h1, h2, h3, h4⟩⟩
    · exact Or.inl o
    · exact Or.inr (Or.inl o)
    · exact Or.inr (Or.inr ⟨k, Or.inl o⟩)
    · exact Or.inr (Or.inr ⟨k, Or.inr (Or.inl o)⟩)
    · exact Or.inr (Or.inr ⟨k, Or.inr (Or.inr ⟨m, h1, h2, h3, by rw [h m h1]; exact h4⟩)⟩)
section
variable {C : Nat} {K L R : Nat → Nat} {cc fl ft fo fr fi : Int32} {kd lf rg ls tok st : Nat → Int32}
theorem xt_25 {ta : Nat → Int32} {l r f e b0 : Nat} (hl : l < 16) (hr : r < 16) (he : e ≤ 13) {P : Nat → Prop} {tv : Nat → Nat}
    (hS : ∀ k, f ≤ k → k < e → (bt (st (f * 13 + k)) l = true ↔ P k)) (hta : ∀ k, f ≤ k → k < e → ta (k * 16 + r) = nI (tv k) ∧ tv k ≤ 16777216) (post : Int32 → Prop)
    (h : ∀ x, x ≤ 16777216 → x ≤ b0 → (∀ k, f ≤ k → k < e → P k → x ≤ tv k) → (x = b0 ∨ ∃ k, f ≤ k ∧ k < e ∧ P k ∧ x = tv k) → post (nI x)) :
    ∀ n k b, f ≤ k → k ≤ e → e - k < n → b ≤ 16777216 → b ≤ b0 → (∀ m, f ≤ m → m < k → P m → b ≤ tv m) → (b = b0 ∨ ∃ m, f ≤ m ∧ m < k ∧ P m ∧ b = tv m) →
      wX_tailInTwo_25 post (nI l) (nI r) (nI f) (nI e) cc fl ft fo fr fi kd lf rg ls tok st ta n (nI b) (nI k) := by
  intro n
  induction n with
  | zero => intro k b _ _ h; omega
  | succ n ih =>
    intro k b hfk hke hn hb hb0 hm hw
    refine pk_le e k (fun z => h b hb hb0 (fun m a c => hm m a (by omega)) ?_) (fun z => xm_at hl (by omega) (fun b1 => ?_) (fun b1 => ?_))
    · rcases hw with hw | ⟨m, a, c, d⟩
      · exact Or.inl hw
      · exact Or.inr ⟨m, a, by omega, d⟩
    · have hv := hta k hfk z
      refine br_f (by decide) ?_
      rw [nx_16, show (nI (k * 16 + r)).toNatClampNeg = k * 16 + r from nI_clamp (by omega), hv.1]
      refine ⟨vp_in_nI (by omega) (by omega), xs_smaller hb hv.2 (fun w => nm_r (nI_1 k) (ih (k + 1) (tv k) (by omega) (by omega) (by omega) hv.2 (by omega) (fun m a c d => ?_) (Or.inr ⟨k, hfk, by omega, (hS k hfk z).1 b1, rfl⟩)))
        (fun w => nm_r (nI_1 k) (ih (k + 1) b (by omega) (by omega) (by omega) hb hb0 (fun m a c d => ?_) ?_))⟩
      · by_cases e2 : m = k
        · rw [e2]; exact Nat.le_refl _
        · exact Nat.le_trans w (hm m a (by omega) d)
      · by_cases e2 : m = k
        · rw [e2]; omega
        · exact hm m a (by omega) d
      · rcases hw with hw | ⟨m, a, c, d⟩
        · exact Or.inl hw
        · exact Or.inr ⟨m, a, by omega, d⟩
    · refine br_t rfl (nm_r (nI_1 k) (ih (k + 1) b (by omega) (by omega) (by omega) hb hb0 (fun m a c d => ?_) ?_))
      · by_cases e2 : m = k
        · rw [e2] at d
          exact absurd ((hS k hfk z).2 d) (bm_nt b1)
        · exact hm m a (by omega) d
      · rcases hw with hw | ⟨m, a, c, d⟩
        · exact Or.inl hw
        · exact Or.inr ⟨m, a, by omega, d⟩
theorem xt_two {ta : Nat → Int32} {D s : Nat → Nat} {T : Nat → Nat → Nat} {l r f e : Nat} (hC : C ≤ 16) (hl : l < C) (hr : r < C) (hfe : f < e) (he : e ≤ 13) {P : Nat → Prop}
    (hS : ∀ k, f ≤ k → k < e → (bt (st (f * 13 + k)) l = true ↔ P k)) (hV : gx_V C ls D) (hs : ∀ c, c < C → ta (f * 16 + c) = nI (s c) ∧ s c ≤ 16777216)
    (hT : ∀ k c, f < k → k < e → c < C → ta (k * 16 + c) = nI (T k c) ∧ T k c ≤ 16777216) (post : Int32 → Prop)
    (h : ∀ x, x ≤ 16777216 → x ≤ s l + D r → (P f → x ≤ s r) → (∀ k, f < k → k < e → P k → x ≤ T k r) → (x < 16777216 → x = s l + D r ∨ (P f ∧ x = s r) ∨ ∃ k, f < k ∧ k < e ∧ P k ∧ x = T k r) → post (nI x)) :
    wpX_tailInTwo post (cc, fl, ft, fo, fr, fi, kd, lf, rg, ls, tok, st, ta) (nI l) (nI r) (nI f) (nI e) := by
  have hsl := hs l hl
  have hsr := hs r hr
  have hD := hV r hr
  have key : ∀ b0, b0 ≤ 16777216 → b0 ≤ s l + D r → (b0 < 16777216 → b0 = s l + D r) → ∃ n, wX_tailInTwo_25 post (nI l) (nI r) (nI f) (nI e) cc fl ft fo fr fi kd lf rg ls tok st ta n (nI b0) (nI f) := by
    intro b0 hb hb1 hb2
    refine ⟨e + 1, xt_25 (P := P) (tv := fun k => if k = f then s r else T k r) (by omega) (by omega) he hS (fun k a b => ?_) post (fun x hx h1 h2 h3 => ?_) (e + 1) f b0 (Nat.le_refl _) (by omega) (by omega) hb (Nat.le_refl _) (fun m a b => absurd a (by omega)) (Or.inl rfl)⟩
    · try dsimp only
      by_cases e2 : k = f
      · rw [if_pos e2, e2]; exact hsr
      · rw [if_neg e2]; exact hT k r (by omega) b hr
    · refine h x hx (by omega) (fun p => ?_) (fun k a b p => ?_) (fun hlt => ?_)
      · have := h2 f (Nat.le_refl _) hfe p
        try dsimp only at this
        rw [if_pos rfl] at this
        exact this
      · have := h2 k (by omega) b p
        try dsimp only at this
        rw [if_neg (by omega)] at this
        exact this
      · rcases h3 with h3 | ⟨k, a, b, p, q⟩
        · exact Or.inl (by omega)
        · try dsimp only at q
          by_cases e2 : k = f
          · rw [if_pos e2] at q
            rw [e2] at p
            exact Or.inr (Or.inl ⟨p, q⟩)
          · rw [if_neg e2] at q
            exact Or.inr (Or.inr ⟨k, by omega, b, p, q⟩)
  unfold wpX_tailInTwo
  try dsimp only
  rw [nx_16, show (nI (f * 16 + l)).toNatClampNeg = f * 16 + l from nI_clamp (by omega), show (nI r).toNatClampNeg = r from nI_clamp (by omega), hsl.1, hD.1]
  exact ⟨vp_in_nI (by omega) (by omega), vp_in_nI (by omega) (by omega), xs_joined hsl.2 hD.2 (fun z => key _ (Nat.le_refl _) z (fun w => absurd w (by omega))) (fun z => key _ (by omega) (Nat.le_refl _) (fun _ => rfl))⟩
theorem xt_rule (G : gx_ok C K L R kd lf rg) {ta : Nat → Int32} {D s : Nat → Nat} {T : Nat → Nat → Nat} {c f e : Nat} (hc : c < C) (hfe : f < e) (he : e ≤ 13)
    (hS : gx_S C K L R (fun i c => tok i = lf c) st e) (hV : gx_V C ls D) (hs : ∀ c, c < C → ta (f * 16 + c) = nI (s c) ∧ s c ≤ 16777216)
    (hT : ∀ k c, f < k → k < e → c < C → ta (k * 16 + c) = nI (T k c) ∧ T k c ≤ 16777216) (post : Int32 → Prop)
    (h : ∀ x, x ≤ 16777216 → (∀ y, of_T K L R (fun i c => tok i = lf c) (gr_Sp C K L R (fun i c => tok i = lf c)) D T f e s c y → x ≤ y) →
      (x < 16777216 → of_T K L R (fun i c => tok i = lf c) (gr_Sp C K L R (fun i c => tok i = lf c)) D T f e s c x) → post (nI x)) :
    wpX_tailByRule post (nI C, fl, ft, fo, fr, fi, kd, lf, rg, ls, tok, st, ta) (nI c) (nI f) (nI e) := by
  have hC := G.1
  obtain ⟨hk, h4, hlr⟩ := G.2 c hc
  have hi : vp_in (nI c) 16 := vp_in_nI (by omega) (by omega)
  unfold wpX_tailByRule
  try dsimp only
  rw [show (nI c).toNatClampNeg = c from nI_clamp (by omega), show (nI f).toNatClampNeg = f from nI_clamp (by omega)]
  refine nm_r (nx_16m f) ⟨hi, nm_r hk ?_⟩
  rcases gx_K4 h4 with e0 | e0 | e0 | e0 | e0
  · rw [e0]
    refine br_t (by decide) (h 16777216 (Nat.le_refl _) (fun y hy => ?_) (fun z => absurd z (by omega)))
    rcases hy with ⟨k, hy⟩ | ⟨k, hy⟩ | ⟨k, hy⟩ <;> omega
  · rw [e0]
    refine br_t (by decide) (h 16777216 (Nat.le_refl _) (fun y hy => ?_) (fun z => absurd z (by omega)))
    rcases hy with ⟨k, hy⟩ | ⟨k, hy⟩ | ⟨k, hy⟩ <;> omega
  · rw [e0]
    refine br_f (by decide) (br_f (by decide) (br_t rfl (pk_eq (f + 1) e (fun e2 => ⟨vp_in_nI (by omega) (by omega), hi, br_c (fun w => h 0 (by omega) (fun y _ => by omega) (fun _ => Or.inl ⟨e0, e2, w, rfl⟩)) (fun w => h 16777216 (Nat.le_refl _) (fun y hy => ?_) (fun z => absurd z (by omega)))⟩)
      (fun e2 => h 16777216 (Nat.le_refl _) (fun y hy => ?_) (fun z => absurd z (by omega))) (nI_1 f))))
    · rcases hy with ⟨k, _, q, _⟩ | ⟨k, hy⟩ | ⟨k, hy⟩
      · exact absurd q w
      · omega
      · omega
    · rcases hy with ⟨k, q, _⟩ | ⟨k, hy⟩ | ⟨k, hy⟩ <;> omega
  · obtain ⟨el, er, hl, hr⟩ := hlr (Or.inl e0)
    have vl := hs _ hl
    have vr := hs _ hr
    rw [e0, el, er, nI_add, nI_add, show (nI (f * 16 + L c)).toNatClampNeg = f * 16 + L c from nI_clamp (by omega), show (nI (f * 16 + R c)).toNatClampNeg = f * 16 + R c from nI_clamp (by omega), vl.1, vr.1]
    refine br_f (by decide) (br_f (by decide) (br_f (by decide) (br_t rfl ⟨hi, vp_in_nI (by omega) (by omega), hi, vp_in_nI (by omega) (by omega), ?_⟩)))
    refine xs_smaller vl.2 vr.2 (fun z => h _ vr.2 (fun y hy => ?_) (fun _ => Or.inr (Or.inl ⟨e0, Or.inr rfl⟩))) (fun z => h _ vl.2 (fun y hy => ?_) (fun _ => Or.inr (Or.inl ⟨e0, Or.inl rfl⟩)))
    · rcases hy with ⟨k, hy⟩ | ⟨k, hy | hy⟩ | ⟨k, hy⟩ <;> omega
    · rcases hy with ⟨k, hy⟩ | ⟨k, hy | hy⟩ | ⟨k, hy⟩ <;> omega
  · obtain ⟨el, er, hl, hr⟩ := hlr (Or.inr e0)
    rw [e0, el, er]
    refine br_f (by decide) (br_f (by decide) (br_f (by decide) (br_f (by decide) (br_t rfl ⟨hi, hi, ?_⟩))))
    refine xt_two hC hl hr hfe he (P := fun k => gr_Sp C K L R (fun i c => tok i = lf c) (L c) f k) (fun k a b => hS _ f k hl a b) hV hs hT _ (fun x hx h1 h2 h3 h5 => h x hx (fun y hy => ?_) (fun w => ?_))
    · rcases hy with ⟨k, hy⟩ | ⟨k, hy⟩ | ⟨k, hy | ⟨p, hy⟩ | ⟨m, a, b, p, hy⟩⟩
      · omega
      · omega
      · rw [hy]; exact h1
      · rw [hy]; exact h2 p
      · rw [hy]; exact h3 m a b p
    · exact Or.inr (Or.inr ⟨e0, h5 w⟩)
/-- row f of the tails against the values t; the other rows are ta0's -/
def xt_rel (C f : Nat) (ta0 ta : Nat → Int32) (t : Nat → Nat) : Prop := (∀ k c, c < 16 → k ≠ f → ta (k * 16 + c) = ta0 (k * 16 + c)) ∧ ∀ c, c < C → ta (f * 16 + c) = nI (t c) ∧ t c ≤ 16777216
theorem xt_60 (G : gx_ok C K L R kd lf rg) {ta0 : Nat → Int32} {D E s : Nat → Nat} {T : Nat → Nat → Nat} {f e : Nat} (hfe : f < e) (he : e ≤ 13)
    (hS : gx_S C K L R (fun i c => tok i = lf c) st e) (hV : gx_V C ls D)
    (hT : ∀ k c, f < k → k < e → c < C → ta0 (k * 16 + c) = nI (T k c) ∧ T k c ≤ 16777216)
    (GE : fx_Good C 16777216 (of_T K L R (fun i c => tok i = lf c) (gr_Sp C K L R (fun i c => tok i = lf c)) D T f e) E) (post : SX → Prop)
    (J40 : Int32 → Int32 → (Nat → Int32) → (Nat → Int32) → (Nat → Int32) → (Nat → Int32) → (Nat → Int32) → (Nat → Int32) → (Nat → Int32) → Prop) (x5 : Int32)
    (hJ : ∀ x4 ta t, xt_rel C f ta0 ta t → fx_In C (of_T K L R (fun i c => tok i = lf c) (gr_Sp C K L R (fun i c => tok i = lf c)) D T f e) E s C t → (x4 = 0 → ∀ u, u < C → t u = s u) →
      J40 x4 (x5 + 1) kd lf rg ls tok st ta) :
    ∀ n c x4 ta t, c ≤ C → C - c < n → xt_rel C f ta0 ta t → fx_In C (of_T K L R (fun i c => tok i = lf c) (gr_Sp C K L R (fun i c => tok i = lf c)) D T f e) E s c t → (x4 = 0 → ∀ u, u < C → t u = s u) →
      wX_measureTails_60 post J40 (nI f) (nI e) (nI (f * 16)) x5 (nI C) fl ft fo fr fi n x4 (nI c) kd lf rg ls tok st ta := by
  have hC := G.1
  intro n
  induction n with
  | zero => intro c x4 ta t _ h; omega
  | succ n ih =>
    intro c x4 ta t hc hn hr hI hx
    by_cases z : c < C
    · refine br_f (nI_ge z (by omega)) (xt_rule G z hfe he hS hV hr.2 (T := T) (fun k c a b d => by rw [hr.1 k c (by omega) (by omega)]; exact hT k c a b d) _ (fun x hxB hl ho => ?_))
      rw [nI_add, show (nI (f * 16 + c)).toNatClampNeg = f * 16 + c from nI_clamp (by omega), (hr.2 c z).1]
      have hin : vp_in (nI (f * 16 + c)) 224 := vp_in_nI (by omega) (by omega)
      have hB := (hr.2 c z).2
      refine ⟨hin, pk_le (t c) x (fun hle => nm_r (nI_1 c) (ih (c + 1) x4 ta t z (by omega) hr (fx_in_skip (of_T_m _ _ _ f e (gx_wf G)) hI (fun y hy => Nat.le_trans hle (hl y hy))) hx))
        (fun hlt => ⟨hin, nm_e (nm_r (nI_1 c) (ih (c + 1) 1 _ (fun u => if u = c then x else t u) z (by omega) ⟨fun k c' a b => ?_, fun c' hc' => ?_⟩
          (fx_in_set GE (of_T_m _ _ _ f e (gx_wf G)) hI z hlt (ho (by omega)) hl) (fun h => absurd h (by decide))))⟩)⟩
      · rw [pk_un (by omega)]
        exact hr.1 k c' a b
      · try dsimp only
        by_cases e2 : c' = c
        · rw [if_pos e2, e2, pk_us]; exact ⟨rfl, hxB⟩
        · rw [if_neg e2, pk_un (by omega)]; exact hr.2 c' hc'
    · have e2 : c = C := by omega
      subst e2
      exact br_t (nI_le (Nat.le_refl _) (by omega)) (nm_e (hJ x4 ta t hr hI hx))
theorem xt_40 (G : gx_ok C K L R kd lf rg) {ta0 : Nat → Int32} {D E : Nat → Nat} {T : Nat → Nat → Nat} {f e : Nat} (hfe : f < e) (he : e ≤ 13)
    (hS : gx_S C K L R (fun i c => tok i = lf c) st e) (hV : gx_V C ls D)
    (hT : ∀ k c, f < k → k < e → c < C → ta0 (k * 16 + c) = nI (T k c) ∧ T k c ≤ 16777216)
    (GE : fx_Good C 16777216 (of_T K L R (fun i c => tok i = lf c) (gr_Sp C K L R (fun i c => tok i = lf c)) D T f e) E) (post : SX → Prop)
    (hp : ∀ ta, xt_rel C f ta0 ta E → post (nI C, fl, ft, fo, fr, fi, kd, lf, rg, ls, tok, st, ta)) :
    ∀ n k x4 ta s, k ≤ C → C - k < n → xt_rel C f ta0 ta s → fx_R C 16777216 (fun _ => true) E k s → (x4 = 0 → ∀ u, u < C → s u = E u) →
      wX_measureTails_40 post (nI f) (nI e) (nI (f * 16)) (nI C) fl ft fo fr fi n x4 (nI k) kd lf rg ls tok st ta := by
  have hC := G.1
  have fin : ∀ ta s, xt_rel C f ta0 ta s → (∀ u, u < C → s u = E u) → post (nI C, fl, ft, fo, fr, fi, kd, lf, rg, ls, tok, st, ta) :=
    fun ta s hr e => hp ta ⟨hr.1, fun l hl => by rw [← e l hl]; exact hr.2 l hl⟩
  intro n
  induction n with
  | zero => intro k x4 ta s _ h; omega
  | succ n ih =>
    intro k x4 ta s hk hn hr hR hx
    by_cases z : x4 = 0
    · exact br_t z (fin ta s hr (hx z))
    · refine br_f z (pk_le C k (fun h => fin ta s hr (fx_fin GE (fun _ _ _ _ _ => rfl) hR (by rw [fx_cnt_all]; exact h))) (fun h => ⟨C + 1, ?_⟩))
      refine xt_60 G hfe he hS hV hT GE post _ (nI k) (fun y ta' t hr' hI hy => ?_) (C + 1) 0 0 ta s (by omega) (by omega) hr (fx_in0 hR) (fun _ u _ => rfl)
      rw [nI_1]
      exact ih (k + 1) y ta' t (by omega) (by omega) hr' (fx_in_end GE (fun _ _ _ _ _ => rfl) hR hI) (fun e => fx_in_stop GE hR hI (hy e))
theorem xt_8 (G : gx_ok C K L R kd lf rg) {ta0 : Nat → Int32} {D E : Nat → Nat} {T : Nat → Nat → Nat} {f e : Nat} (hfe : f < e) (he : e ≤ 13)
    (hS : gx_S C K L R (fun i c => tok i = lf c) st e) (hV : gx_V C ls D)
    (hT : ∀ k c, f < k → k < e → c < C → ta0 (k * 16 + c) = nI (T k c) ∧ T k c ≤ 16777216)
    (GE : fx_Good C 16777216 (of_T K L R (fun i c => tok i = lf c) (gr_Sp C K L R (fun i c => tok i = lf c)) D T f e) E) (post : SX → Prop)
    (hp : ∀ ta, xt_rel C f ta0 ta E → post (nI C, fl, ft, fo, fr, fi, kd, lf, rg, ls, tok, st, ta)) :
    ∀ n c ta, c ≤ C → C - c < n → (∀ k c, c < 16 → k ≠ f → ta (k * 16 + c) = ta0 (k * 16 + c)) → (∀ u, u < c → ta (f * 16 + u) = nI 16777216) →
      wX_measureTails_8 post (nI f) (nI e) (nI (f * 16)) (nI C) fl ft fo fr fi n (nI c) kd lf rg ls tok st ta := by
  have hC := G.1
  intro n
  induction n with
  | zero => intro c ta _ h; omega
  | succ n ih =>
    intro c ta hc hn h0 hu
    refine pk_le C c (fun h => ⟨C + 1, ?_⟩) (fun h => ?_)
    · have e2 : c = C := by omega
      subst e2
      exact xt_40 G hfe he hS hV hT GE post hp (c + 1) 0 1 ta (fun _ => 16777216) (by omega) (by omega) ⟨h0, fun v hv => ⟨hu v hv, Nat.le_refl _⟩⟩ (fx_R0 GE (fun _ _ => rfl)) (fun h => absurd h (by decide))
    · rw [nI_add, show (nI (f * 16 + c)).toNatClampNeg = f * 16 + c from nI_clamp (by omega)]
      refine ⟨vp_in_nI (by omega) (by omega), nm_e (nm_r (nI_1 c) (ih (c + 1) _ (by omega) (by omega) (fun k c' a b => ?_) (fun u hu' => ?_)))⟩
      · rw [pk_un (by omega)]
        exact h0 k c' a b
      · by_cases e2 : u = c
        · rw [e2, pk_us]; rfl
        · rw [pk_un (by omega)]; exact hu u (by omega)
theorem xt_row (G : gx_ok C K L R kd lf rg) {ta : Nat → Int32} {D : Nat → Nat} {T : Nat → Nat → Nat} {f e : Nat} (hfe : f < e) (he : e ≤ 13)
    (hS : gx_S C K L R (fun i c => tok i = lf c) st e) (hV : gx_V C ls D)
    (hT : ∀ k c, f < k → k < e → c < C → ta (k * 16 + c) = nI (T k c) ∧ T k c ≤ 16777216) (post : SX → Prop)
    (hp : ∀ ta' E, fx_Good C 16777216 (of_T K L R (fun i c => tok i = lf c) (gr_Sp C K L R (fun i c => tok i = lf c)) D T f e) E → xt_rel C f ta ta' E →
      post (nI C, fl, ft, fo, fr, fi, kd, lf, rg, ls, tok, st, ta')) :
    wpX_measureTails post (nI C, fl, ft, fo, fr, fi, kd, lf, rg, ls, tok, st, ta) (nI f) (nI e) := by
  obtain ⟨E, GE⟩ := fx_good (B := 16777216) (of_T_m (tk := fun i c => tok i = lf c) (gr_Sp C K L R (fun i c => tok i = lf c)) D T f e (gx_wf G)) (of_T_w _ _ _ _ f e (gx_wf G))
  exact nm_r (nx_16m f) ⟨C + 1, xt_8 G hfe he hS hV hT GE post (fun ta' h => hp ta' E GE h) (C + 1) 0 ta (by omega) (by omega) (fun _ _ _ _ => rfl) (fun u hu => absurd hu (by omega))⟩
theorem xt_37 (G : gx_ok C K L R kd lf rg) {D : Nat → Nat} {e ro : Nat} (he : e ≤ 13) (hro : ro < C)
    (hS : gx_S C K L R (fun i c => tok i = lf c) st e) (hV : gx_V C ls D) (post : Int32 → SX → Prop)
    (hp : ∀ ta T, (∀ c, c < C → T e c = D c) → (∀ i, i < e → fx_Good C 16777216 (of_T K L R (fun i c => tok i = lf c) (gr_Sp C K L R (fun i c => tok i = lf c)) D T i e) (T i)) →
      T 0 ro ≤ 16777216 → post (nI (T 0 ro)) (nI C, fl, ft, fo, nI ro, fi, kd, lf, rg, ls, tok, st, ta)) :
    ∀ n k ta T, k ≤ e → k < n → (∀ i c, k ≤ i → i ≤ e → c < C → ta (i * 16 + c) = nI (T i c) ∧ T i c ≤ 16777216) → (∀ c, c < C → T e c = D c) →
      (∀ i, k ≤ i → i < e → fx_Good C 16777216 (of_T K L R (fun i c => tok i = lf c) (gr_Sp C K L R (fun i c => tok i = lf c)) D T i e) (T i)) →
      wX_tokensMissing_37 post (nI e) n (nI k + (-1)) (nI C) fl ft fo (nI ro) fi kd lf rg ls tok st ta := by
  have hC := G.1
  intro n
  induction n with
  | zero => intro k ta T _ h; omega
  | succ n ih =>
    intro k ta T hk hn hv hD hG
    cases k with
    | zero =>
      have h0 := hv 0 ro (Nat.le_refl _) (by omega) hro
      rw [show 0 * 16 + ro = ro from by omega] at h0
      refine br_t (by decide) ⟨vp_in_nI (by omega) (by omega), ?_⟩
      rw [show (nI ro).toNatClampNeg = ro from nI_clamp (by omega), h0.1]
      exact hp ta T hD (fun i hi => hG i (Nat.zero_le _) hi) h0.2
    | succ j =>
      rw [pk_m1]
      refine br_f (nI_pos (by omega)) (xt_row G (by omega) he hS hV (T := T) (fun k c a b d => hv k c (by omega) (by omega) d) _ (fun ta' E GE hr => ?_))
      have up : ∀ k, j < k → (fun i => if i = j then E else T i) k = T k := fun k h => if_neg (by omega)
      refine nm_e (ih j ta' (fun i => if i = j then E else T i) (by omega) (by omega) (fun i c a b d => ?_) (fun c d => ?_) (fun i a b => ?_))
      · try dsimp only
        by_cases e2 : i = j
        · rw [if_pos e2, e2]; exact hr.2 c d
        · rw [if_neg e2, hr.1 i c (by omega) e2]; exact hv i c (by omega) b d
      · try dsimp only
        rw [if_neg (by omega)]
        exact hD c d
      · rw [of_T_ext (U := T) (fun k h => up k (by omega))]
        try dsimp only
        by_cases e2 : i = j
        · rw [if_pos e2, e2]; exact GE
        · rw [if_neg e2]; exact hG i (by omega) b
theorem xt_2 (G : gx_ok C K L R kd lf rg) {D : Nat → Nat} {e ro : Nat} (he : e ≤ 13) (hro : ro < C)
    (hS : gx_S C K L R (fun i c => tok i = lf c) st e) (hV : gx_V C ls D) (post : Int32 → SX → Prop)
    (hp : ∀ ta T, (∀ c, c < C → T e c = D c) → (∀ i, i < e → fx_Good C 16777216 (of_T K L R (fun i c => tok i = lf c) (gr_Sp C K L R (fun i c => tok i = lf c)) D T i e) (T i)) →
      T 0 ro ≤ 16777216 → post (nI (T 0 ro)) (nI C, fl, ft, fo, nI ro, fi, kd, lf, rg, ls, tok, st, ta)) :
    ∀ n c ta, c ≤ C → C - c < n → (∀ u, u < c → ta (e * 16 + u) = nI (D u)) → wX_tokensMissing_2 post (nI e) (nI C) fl ft fo (nI ro) fi n (nI c) kd lf rg ls tok st ta := by
  have hC := G.1
  intro n
  induction n with
  | zero => intro c ta _ h; omega
  | succ n ih =>
    intro c ta hc hn hu
    refine pk_le C c (fun h => ?_) (fun h => ⟨vp_in_nI (by omega) (by omega), ?_⟩)
    · have e2 : c = C := by omega
      subst e2
      refine nm_r (Int32.sub_eq_add_neg _ _) ⟨e + 1, xt_37 G he hro hS hV post hp (e + 1) e ta (fun _ => D) (Nat.le_refl _) (by omega) (fun i c' a b d => ?_) (fun _ _ => rfl) (fun i a b => absurd a (by omega))⟩
      have e3 : i = e := by omega
      rw [e3]
      exact ⟨hu c' d, (hV c' d).2⟩
    · rw [nx_16, show (nI (e * 16 + c)).toNatClampNeg = e * 16 + c from nI_clamp (by omega), show (nI c).toNatClampNeg = c from nI_clamp (by omega), (hV c h).1]
      refine ⟨vp_in_nI (by omega) (by omega), nm_e (nm_r (nI_1 c) (ih (c + 1) _ (by omega) (by omega) (fun u hu' => ?_)))⟩
      by_cases e2 : u = c
      · rw [e2, pk_us]
      · rw [pk_un (by omega)]; exact hu u (by omega)
theorem xt_missing (G : gx_ok C K L R kd lf rg) {ta : Nat → Int32} {D : Nat → Nat} {e ro : Nat} (he : e ≤ 13) (hro : ro < C)
    (hS : gx_S C K L R (fun i c => tok i = lf c) st e) (hV : gx_V C ls D) (post : Int32 → SX → Prop)
    (hp : ∀ ta T, (∀ c, c < C → T e c = D c) → (∀ i, i < e → fx_Good C 16777216 (of_T K L R (fun i c => tok i = lf c) (gr_Sp C K L R (fun i c => tok i = lf c)) D T i e) (T i)) →
      T 0 ro ≤ 16777216 → post (nI (T 0 ro)) (nI C, fl, ft, fo, nI ro, fi, kd, lf, rg, ls, tok, st, ta)) :
    wpX_tokensMissing post (nI C, fl, ft, fo, nI ro, fi, kd, lf, rg, ls, tok, st, ta) (nI e) :=
  ⟨C + 1, xt_2 G he hro hS hV post hp (C + 1) 0 ta (by omega) (by omega) (fun u hu => absurd hu (by omega))⟩
end
end
section
/-! the reference's spans -/
theorem nx_14 (a b : Nat) : nI a * 14 + nI b = nI (a * 14 + b) := by
  show nI a * nI 14 + nI b = _
  rw [pk_mul, nI_add]
theorem nx_196 (a b c : Nat) : (nI a * 14 + nI b) * 14 + nI c = nI ((a * 14 + b) * 14 + c) := by rw [nx_14, nx_14]
theorem nx_b1 : vp_nar .boolean 1 = 1 := rfl
theorem nx_b0 : vp_nar .boolean 0 = 0 := rfl
def ys_rel (sp : Nat → Int32) (t : Nat → Nat) : Prop := ∀ v, v < 3136 → (sp v = 0 → t v = 1) ∧ (¬ sp v = 0 → t v = 0)
theorem of_S_inv {C : Nat} {K L R : Nat → Nat} {tk : Nat → Nat → Prop} {n : Nat} {s : Nat → Nat} {c i j x : Nat} (hn : n ≤ 13) (hi : i ≤ 13) (hj : j ≤ 13) (h : of_S C K L R tk n s ((c * 14 + i) * 14 + j) x) :
    ((K c = 1 ∧ i = j) ∨ (K c = 2 ∧ j = i + 1 ∧ tk i c) ∨ (K c = 3 ∧ (s ((L c * 14 + i) * 14 + j) = 0 ∨ s ((R c * 14 + i) * 14 + j) = 0)) ∨
      (K c = 4 ∧ ∃ k, i ≤ k ∧ k ≤ j ∧ s ((L c * 14 + i) * 14 + k) = 0 ∧ s ((R c * 14 + k) * 14 + j) = 0)) := by
  obtain ⟨c', i', j', e, h1, h2, h3, _, h⟩ := h
  have a : c' = c := by omega
  have b : i' = i := by omega
  have d : j' = j := by omega
  subst a b d
  exact h
section
variable {C : Nat} {K L R : Nat → Nat} {cc ml al ro sz op : Int32} {kd lf rg wd re : Nat → Int32}
theorem ys_141 {sp : Nat → Int32} {t : Nat → Nat} {l r i j : Nat} (hl : l < 16) (hr : r < 16) (hj : j ≤ 13) (hz : ys_rel sp t) (post : Int32 → Prop)
    (h1 : ∀ k, i ≤ k → k ≤ j → t ((l * 14 + i) * 14 + k) = 0 → t ((r * 14 + k) * 14 + j) = 0 → post 1)
    (h0 : (∀ k, i ≤ k → k ≤ j → ¬ (t ((l * 14 + i) * 14 + k) = 0 ∧ t ((r * 14 + k) * 14 + j) = 0)) → post 0) :
    ∀ n k, i ≤ k → k ≤ j + 1 → j + 1 - k < n → (∀ m, i ≤ m → m < k → ¬ (t ((l * 14 + i) * 14 + m) = 0 ∧ t ((r * 14 + m) * 14 + j) = 0)) →
      wY_spanShown_141 post (nI i) (nI j) (nI l) (nI r) cc ml al ro sz op kd lf rg wd sp re n (nI k) := by
  intro n
  induction n with
  | zero => intro k _ _ h; omega
  | succ n ih =>
    intro k hik hkj hn hm
    have next : k ≤ j → ¬ (t ((l * 14 + i) * 14 + k) = 0 ∧ t ((r * 14 + k) * 14 + j) = 0) → wY_spanShown_141 post (nI i) (nI j) (nI l) (nI r) cc ml al ro sz op kd lf rg wd sp re n (nI (k + 1)) := fun hk z =>
      ih (k + 1) (by omega) (by omega) (by omega) (fun m a b => by
        by_cases e : m = k
        · rw [e]; exact z
        · exact hm m a (by omega))
    refine pk_lt j k (fun h => h0 (fun m a b => hm m a (by omega))) (fun h => ?_)
    have q1 := hz ((l * 14 + i) * 14 + k) (by omega)
    have q2 := hz ((r * 14 + k) * 14 + j) (by omega)
    rw [nx_196, nx_196, show (nI ((l * 14 + i) * 14 + k)).toNatClampNeg = (l * 14 + i) * 14 + k from nI_clamp (by omega), show (nI ((r * 14 + k) * 14 + j)).toNatClampNeg = (r * 14 + k) * 14 + j from nI_clamp (by omega)]
    refine ⟨vp_in_nI (by omega) (by omega), br_c (fun z => nm_r (nI_1 k) (next h (fun w => by have := q1.1 z; omega))) (fun z => ⟨vp_in_nI (by omega) (by omega), br_c (fun y => nm_r (nI_1 k) (next h (fun w => by have := q2.1 y; omega))) (fun y => h1 k hik h (q1.2 z) (q2.2 y))⟩)⟩
theorem ys_shown (G : gx_ok C K L R kd lf rg) {sp : Nat → Int32} {t : Nat → Nat} {c i j nn : Nat} (hc : c < C) (hij : i ≤ j) (hj : j ≤ nn) (hn : nn ≤ 13) (hz : ys_rel sp t) (post : Int32 → Prop)
    (h1 : of_S C K L R (fun i c => wd i = lf c) nn t ((c * 14 + i) * 14 + j) 0 → post 1) (h0 : (∀ x, ¬ of_S C K L R (fun i c => wd i = lf c) nn t ((c * 14 + i) * 14 + j) x) → post 0) :
    wpY_spanShown post (nI C, ml, al, ro, sz, op, kd, lf, rg, wd, sp, re) (nI c) (nI i) (nI j) := by
  have hC := G.1
  obtain ⟨hk, h4, hlr⟩ := G.2 c hc
  have hi : vp_in (nI c) 16 := vp_in_nI (by omega) (by omega)
  have inv := fun x (h : of_S C K L R (fun i c => wd i = lf c) nn t ((c * 14 + i) * 14 + j) x) => of_S_inv hn (by omega) (by omega) h
  unfold wpY_spanShown
  dsimp only
  rw [show (nI c).toNatClampNeg = c from nI_clamp (by omega), show (nI i).toNatClampNeg = i from nI_clamp (by omega), hk]
  refine ⟨hi, nm_e ⟨hi, nm_e ⟨hi, ?_⟩⟩⟩
  rcases gx_K4 h4 with e | e | e | e | e
  · rw [e]
    refine br_t rfl (h0 (fun x hx => ?_))
    rcases inv x hx with ⟨k, _⟩ | ⟨k, _⟩ | ⟨k, _⟩ | ⟨k, _⟩ <;> omega
  · rw [e]
    refine br_f (by decide) ⟨hi, br_t rfl (pk_eq i j (fun e2 => h1 ⟨c, i, j, rfl, hc, hij, hj, rfl, Or.inl ⟨e, e2⟩⟩) (fun e2 => h0 (fun x hx => ?_)))⟩
    rcases inv x hx with ⟨k, _⟩ | ⟨k, _⟩ | ⟨k, _⟩ | ⟨k, _⟩ <;> omega
  · rw [e]
    refine br_f (by decide) ⟨hi, br_f (by decide) ⟨hi, br_t rfl (pk_eq j (i + 1) (fun e2 => ⟨vp_in_nI (by omega) (by omega), br_c (fun w => h1 ⟨c, i, j, rfl, hc, hij, hj, rfl, Or.inr (Or.inl ⟨e, e2, w⟩)⟩) (fun w => h0 (fun x hx => ?_))⟩) (fun e2 => h0 (fun x hx => ?_)) rfl (nI_1 i))⟩⟩
    · rcases inv x hx with ⟨k, _⟩ | ⟨k, _, q⟩ | ⟨k, _⟩ | ⟨k, _⟩
      · omega
      · exact w q
      · omega
      · omega
    · rcases inv x hx with ⟨k, _⟩ | ⟨k, q, _⟩ | ⟨k, _⟩ | ⟨k, _⟩ <;> omega
  · obtain ⟨el, er, hl, hr⟩ := hlr (Or.inl e)
    have q1 := hz ((L c * 14 + i) * 14 + j) (by omega)
    have q2 := hz ((R c * 14 + i) * 14 + j) (by omega)
    rw [e, el, er, nx_196, nx_196, show (nI ((L c * 14 + i) * 14 + j)).toNatClampNeg = (L c * 14 + i) * 14 + j from nI_clamp (by omega), show (nI ((R c * 14 + i) * 14 + j)).toNatClampNeg = (R c * 14 + i) * 14 + j from nI_clamp (by omega)]
    refine br_f (by decide) ⟨hi, br_f (by decide) ⟨hi, br_f (by decide) ⟨hi, br_t rfl ⟨vp_in_nI (by omega) (by omega), br_c (fun z => ⟨vp_in_nI (by omega) (by omega), br_c (fun y => h0 (fun x hx => ?_)) (fun y => ?_)⟩) (fun z => ?_)⟩⟩⟩⟩
    · rcases inv x hx with ⟨k, _⟩ | ⟨k, _⟩ | ⟨k, q | q⟩ | ⟨k, _⟩
      · omega
      · omega
      · have := q1.1 z; omega
      · have := q2.1 y; omega
      · omega
    · exact h1 ⟨c, i, j, rfl, hc, hij, hj, rfl, Or.inr (Or.inr (Or.inl ⟨e, Or.inr (q2.2 y)⟩))⟩
    · exact h1 ⟨c, i, j, rfl, hc, hij, hj, rfl, Or.inr (Or.inr (Or.inl ⟨e, Or.inl (q1.2 z)⟩))⟩
  · obtain ⟨el, er, hl, hr⟩ := hlr (Or.inr e)
    rw [e, el, er]
    refine br_f (by decide) ⟨hi, br_f (by decide) ⟨hi, br_f (by decide) ⟨hi, br_f (by decide) ⟨j + 2, ys_141 (by omega) (by omega) (by omega) hz post (fun k a b p q => h1 ⟨c, i, j, rfl, hc, hij, hj, rfl, Or.inr (Or.inr (Or.inr ⟨e, k, a, b, p, q⟩))⟩) (fun hno => h0 (fun x hx => ?_))
      (j + 2) i (Nat.le_refl _) (by omega) (by omega) (fun m a b => absurd a (by omega))⟩⟩⟩⟩
    rcases inv x hx with ⟨k, _⟩ | ⟨k, _⟩ | ⟨k, _⟩ | ⟨k, m, a, b, p, q⟩
    · omega
    · omega
    · omega
    · exact hno m a b ⟨p, q⟩
theorem ys_87 (G : gx_ok C K L R kd lf rg) {nn : Nat} (hn : nn ≤ 13) {D s : Nat → Nat} (GD : fx_Good 3136 1 (of_S C K L R (fun i c => wd i = lf c) nn) D) (post : SY → Prop)
    (J49 J65 J77 : Int32 → Int32 → (Nat → Int32) → (Nat → Int32) → (Nat → Int32) → (Nat → Int32) → (Nat → Int32) → (Nat → Int32) → Prop) (x3 : Int32) {c i : Nat} (hc : c < C) (hi : i ≤ nn)
    (hJ : ∀ x2 sp t, ys_rel sp t → fx_In 3136 (of_S C K L R (fun i c => wd i = lf c) nn) D s ((c * 14 + i) * 14 + (nn + 1)) t → (x2 = 0 → ∀ u, u < 3136 → t u = s u) → J77 x2 (nI (i + 1)) kd lf rg wd sp re) :
    ∀ f j x2 sp t, i ≤ j → j ≤ nn + 1 → nn + 1 - j < f → ys_rel sp t → fx_In 3136 (of_S C K L R (fun i c => wd i = lf c) nn) D s ((c * 14 + i) * 14 + j) t → (x2 = 0 → ∀ u, u < 3136 → t u = s u) →
      wY_evaluate_87 post J49 J65 J77 (nI nn) x3 (nI c) (nI i) (nI C) ml al ro sz op f x2 (nI j) kd lf rg wd sp re := by
  have hC := G.1
  have hm : fx_Mono 3136 (of_S C K L R (fun i c => wd i = lf c) nn) := of_S_m hn (by omega) (gx_wf G)
  intro f
  induction f with
  | zero => intro j x2 sp t _ _ h; omega
  | succ f ih =>
    intro j x2 sp t hij hjn hf hz hI hx
    refine pk_lt nn j (fun h => ?_) (fun h => ?_)
    · have e : j = nn + 1 := by omega
      subst e
      exact nm_r (nI_1 i) (hJ x2 sp t hz hI hx)
    · have q := hz ((c * 14 + i) * 14 + j) (by omega)
      have skip : (∀ y, of_S C K L R (fun i c => wd i = lf c) nn t ((c * 14 + i) * 14 + j) y → t ((c * 14 + i) * 14 + j) ≤ y) → fx_In 3136 (of_S C K L R (fun i c => wd i = lf c) nn) D s ((c * 14 + i) * 14 + (j + 1)) t :=
        fun hl => fx_in_skip (v := (c * 14 + i) * 14 + j) hm hI hl
      rw [nx_196, show (nI ((c * 14 + i) * 14 + j)).toNatClampNeg = (c * 14 + i) * 14 + j from nI_clamp (by omega)]
      refine ⟨vp_in_nI (by omega) (by omega), br_c (fun z => ys_shown G hc hij h hn hz _ (fun ho => br_f (by decide) ⟨vp_in_nI (by omega) (by omega), nm_e (nm_r (nI_1 j) (ih (j + 1) 1 _ (fun u => if u = (c * 14 + i) * 14 + j then 0 else t u) (by omega) (by omega) (by omega) (fun v hv => ?_) ?_ (fun w => absurd w (by decide))))⟩)
        (fun hno => br_t rfl (nm_r (nI_1 j) (ih (j + 1) x2 sp t (by omega) (by omega) (by omega) hz (skip (fun y hy => absurd hy (hno y))) hx)))) (fun z => nm_r (nI_1 j) (ih (j + 1) x2 sp t (by omega) (by omega) (by omega) hz (skip (fun y hy => by have := q.2 z; omega)) hx))⟩
      · rw [nx_b1]
        dsimp only
        by_cases e : v = (c * 14 + i) * 14 + j
        · rw [if_pos e, e, pk_us]
          exact ⟨fun w => absurd w (by decide), fun _ => rfl⟩
        · rw [if_neg e, pk_un e]
          exact hz v hv
      · have := q.1 z
        exact fx_in_set (v := (c * 14 + i) * 14 + j) GD hm hI (by omega) (by omega) ho (fun y _ => Nat.zero_le _)
theorem of_S_no {nn : Nat} (hn : nn ≤ 13) {tk : Nat → Nat → Prop} {s : Nat → Nat} {u : Nat} (h : ∀ c i j, c < C → i ≤ j → j ≤ nn → u ≠ (c * 14 + i) * 14 + j) : ∀ x, ¬ of_S C K L R tk nn s u x := by
  intro x ⟨c, i, j, e, hc, hij, hj, _⟩
  exact h c i j hc hij hj e
theorem ys_77 (G : gx_ok C K L R kd lf rg) {nn : Nat} (hn : nn ≤ 13) {D s : Nat → Nat} (GD : fx_Good 3136 1 (of_S C K L R (fun i c => wd i = lf c) nn) D) (post : SY → Prop)
    (J49 J65 : Int32 → Int32 → (Nat → Int32) → (Nat → Int32) → (Nat → Int32) → (Nat → Int32) → (Nat → Int32) → (Nat → Int32) → Prop) (x3 : Int32) {c : Nat} (hc : c < C)
    (hJ : ∀ x2 sp t, ys_rel sp t → fx_In 3136 (of_S C K L R (fun i c => wd i = lf c) nn) D s ((c + 1) * 196) t → (x2 = 0 → ∀ u, u < 3136 → t u = s u) → J65 x2 (nI (c + 1)) kd lf rg wd sp re) :
    ∀ f i x2 sp t, i ≤ nn + 1 → nn + 1 - i < f → ys_rel sp t → fx_In 3136 (of_S C K L R (fun i c => wd i = lf c) nn) D s ((c * 14 + i) * 14) t → (x2 = 0 → ∀ u, u < 3136 → t u = s u) →
      wY_evaluate_77 post J49 J65 (nI nn) x3 (nI c) (nI C) ml al ro sz op f x2 (nI i) kd lf rg wd sp re := by
  have hC := G.1
  intro f
  induction f with
  | zero => intro i x2 sp t _ h; omega
  | succ f ih =>
    intro i x2 sp t hin hf hz hI hx
    refine pk_lt nn i (fun h => nm_r (nI_1 c) (hJ x2 sp t hz (fx_in_gap hI (fun u a b => of_S_no hn (fun c' i' j' p q r => by omega))) hx)) (fun h => ⟨nn + 2, ?_⟩)
    exact ys_87 G hn GD post J49 J65 _ x3 hc h (fun y sp' t' hz' hI' hy => ih (i + 1) y sp' t' (by omega) (by omega) hz' (fx_in_gap hI' (fun u a b => of_S_no hn (fun c' i' j' p q r => by omega))) hy) (nn + 2) i x2 sp t (Nat.le_refl _) (by omega) (by omega) hz
      (fx_in_gap hI (fun u a b => of_S_no hn (fun c' i' j' p q r => by omega))) hx
theorem ys_65 (G : gx_ok C K L R kd lf rg) {nn : Nat} (hn : nn ≤ 13) {D s : Nat → Nat} (GD : fx_Good 3136 1 (of_S C K L R (fun i c => wd i = lf c) nn) D) (post : SY → Prop)
    (J49 : Int32 → Int32 → (Nat → Int32) → (Nat → Int32) → (Nat → Int32) → (Nat → Int32) → (Nat → Int32) → (Nat → Int32) → Prop) (x3 : Int32)
    (hJ : ∀ x2 sp t, ys_rel sp t → fx_In 3136 (of_S C K L R (fun i c => wd i = lf c) nn) D s 3136 t → (x2 = 0 → ∀ u, u < 3136 → t u = s u) → J49 x2 (x3 + 1) kd lf rg wd sp re) :
    ∀ f c x2 sp t, c ≤ C → C - c < f → ys_rel sp t → fx_In 3136 (of_S C K L R (fun i c => wd i = lf c) nn) D s (c * 196) t → (x2 = 0 → ∀ u, u < 3136 → t u = s u) →
      wY_evaluate_65 post J49 (nI nn) x3 (nI C) ml al ro sz op f x2 (nI c) kd lf rg wd sp re := by
  have hC := G.1
  intro f
  induction f with
  | zero => intro c x2 sp t _ h; omega
  | succ f ih =>
    intro c x2 sp t hc hf hz hI hx
    refine pk_le C c (fun h => nm_e (hJ x2 sp t hz (fx_in_gap hI (fun u a b => of_S_no hn (fun c' i' j' p q r => by omega))) hx)) (fun h => ⟨nn + 2, ?_⟩)
    exact ys_77 G hn GD post J49 _ x3 h (fun y sp' t' hz' hI' hy => ih (c + 1) y sp' t' h (by omega) hz' hI' hy) (nn + 2) 0 x2 sp t (by omega) (by omega) hz (by rw [show (c * 14 + 0) * 14 = c * 196 from by omega]; exact hI) hx
theorem of_S_d {nn : Nat} (hn : nn ≤ 13) {tk : Nat → Nat → Prop} : ∀ (s : Nat → Nat) (v x : Nat), v < 3136 → of_S C K L R tk nn s v x → fx_tri v = true := by
  intro s v x _ ⟨c, i, j, e, hc, hij, hj, _⟩
  exact decide_eq_true (by omega)
theorem ys_49 (G : gx_ok C K L R kd lf rg) {nn : Nat} (hn : nn ≤ 13) {D : Nat → Nat} (GD : fx_Good 3136 1 (of_S C K L R (fun i c => wd i = lf c) nn) D) (post : SY → Prop)
    (hp : ∀ sp, ys_rel sp D → ∃ n, wY_evaluate_178 post (nI nn) (nI C) ml al ro sz op n 1 0 kd lf rg wd sp re) :
    ∀ f k x2 sp s, k ≤ 1680 → 1680 - k < f → ys_rel sp s → fx_R 3136 1 fx_tri D k s → (x2 = 0 → ∀ u, u < 3136 → s u = D u) →
      wY_evaluate_49 post (nI nn) (nI C) ml al ro sz op f x2 (nI k) kd lf rg wd sp re := by
  have hC := G.1
  have fin : ∀ sp s, ys_rel sp s → (∀ u, u < 3136 → s u = D u) → ∃ n, wY_evaluate_178 post (nI nn) (nI C) ml al ro sz op n 1 0 kd lf rg wd sp re :=
    fun sp s hr e => hp sp (fun v hv => by rw [← e v hv]; exact hr v hv)
  have hcnt : fx_cnt fx_tri 3136 = 1680 := fx_tri_cnt 16
  intro f
  induction f with
  | zero => intro k x2 sp s _ h; omega
  | succ f ih =>
    intro k x2 sp s hk hf hr hR hx
    by_cases z : x2 = 0
    · exact br_t z (fin sp s hr (hx z))
    · refine br_f z (pk_le 1680 k (fun h => fin sp s hr (fx_fin GD (of_S_d hn) hR (by rw [hcnt]; exact h))) (fun h => ⟨C + 1, ?_⟩))
      refine ys_65 G hn GD post _ (nI k) (fun y sp' t hr' hI hy => ?_) (C + 1) 0 0 sp s (by omega) (by omega) hr (by rw [Nat.zero_mul]; exact fx_in0 hR) (fun _ u _ => rfl)
      rw [nI_1]
      exact ih (k + 1) y sp' t (by omega) (by omega) hr' (fx_in_end GD (of_S_d hn) hR hI) (fun e => fx_in_stop GD hR hI (hy e))
end
end
section
/-! the reference's rests, and evaluate -/
theorem of_R_inv {C : Nat} {K L R : Nat → Nat} {tk : Nat → Nat → Prop} {Mt : Nat → Nat → Nat → Prop} {n : Nat} {s : Nat → Nat} {c i x : Nat} (hn : n ≤ 13) (hi : i ≤ 13) (h : of_R C K L R tk Mt n s (c * 14 + i) x) :
    ((K c = 1 ∧ i = n ∧ x = 0) ∨ (K c = 2 ∧ i = n ∧ x = 1) ∨ (K c = 2 ∧ i + 1 = n ∧ tk i c ∧ x = 0) ∨
      (K c = 3 ∧ (x = s (L c * 14 + i) ∨ x = s (R c * 14 + i))) ∨
      (K c = 4 ∧ (x = s (L c * 14 + i) + s (R c * 14 + n) ∨ ∃ k, i ≤ k ∧ k ≤ n ∧ Mt (L c) i k ∧ x = s (R c * 14 + k)))) := by
  obtain ⟨c', i', e, h1, h2, h⟩ := h
  have a : c' = c := by omega
  have b : i' = i := by omega
  subst a b
  exact h
theorem of_R_no {C : Nat} {K L R : Nat → Nat} {tk : Nat → Nat → Prop} {Mt : Nat → Nat → Nat → Prop} {n : Nat} {s : Nat → Nat} {u : Nat} (h : ∀ c i, c < C → i ≤ n → u ≠ c * 14 + i) : ∀ x, ¬ of_R C K L R tk Mt n s u x := by
  intro x ⟨c, i, e, hc, hi, _⟩
  exact h c i hc hi e
section
variable {C : Nat} {K L R : Nat → Nat} {cc ml al ro sz op : Int32} {kd lf rg wd sp : Nat → Int32}
theorem yr_181 {re : Nat → Int32} {l r i nn b0 : Nat} (hl : l < 16) (hr : r < 16) (hn : nn ≤ 13) {P : Nat → Prop} {tv : Nat → Nat}
    (hS : ∀ k, i ≤ k → k ≤ nn → (¬ sp ((l * 14 + i) * 14 + k) = 0 ↔ P k)) (hre : ∀ k, i ≤ k → k ≤ nn → re (r * 14 + k) = nI (tv k) ∧ tv k ≤ 16777216) (post : Int32 → Prop)
    (h : ∀ x, x ≤ 33554432 → x ≤ b0 → (∀ k, i ≤ k → k ≤ nn → P k → x ≤ tv k) → (x = b0 ∨ ∃ k, i ≤ k ∧ k ≤ nn ∧ P k ∧ x = tv k) → post (nI x)) :
    ∀ n k b, i ≤ k → k ≤ nn + 1 → nn + 1 - k < n → b ≤ 33554432 → b ≤ b0 → (∀ m, i ≤ m → m < k → P m → b ≤ tv m) → (b = b0 ∨ ∃ m, i ≤ m ∧ m < k ∧ P m ∧ b = tv m) →
      wY_restShown_181 post (nI i) (nI nn) (nI l) (nI r) cc ml al ro sz op kd lf rg wd sp re n (nI b) (nI k) := by
  intro n
  induction n with
  | zero => intro k b _ _ h; omega
  | succ n ih =>
    intro k b hik hkn hf hb hb0 hm hw
    refine pk_lt nn k (fun z => h b hb hb0 (fun m a c => hm m a (by omega)) ?_) (fun z => ?_)
    · rcases hw with hw | ⟨m, a, c, d⟩
      · exact Or.inl hw
      · exact Or.inr ⟨m, a, by omega, d⟩
    · have hv := hre k hik z
      have o1 : i ≤ k + 1 := by omega
      have o2 : k + 1 ≤ nn + 1 := by omega
      have o3 : nn + 1 - (k + 1) < n := by clear hw; omega
      have hw' : b = b0 ∨ ∃ m, i ≤ m ∧ m < k + 1 ∧ P m ∧ b = tv m := by
        rcases hw with hw | ⟨m, a, c, d⟩
        · exact Or.inl hw
        · exact Or.inr ⟨m, a, by omega, d⟩
      rw [nx_196, nx_14, show (nI ((l * 14 + i) * 14 + k)).toNatClampNeg = (l * 14 + i) * 14 + k from nI_clamp (by omega), show (nI (r * 14 + k)).toNatClampNeg = r * 14 + k from nI_clamp (by omega), hv.1]
      have hin : vp_in (nI (r * 14 + k)) 224 := vp_in_nI (by omega) (by omega)
      have hB := hv.2
      refine ⟨vp_in_nI (by omega) (by omega), br_c (fun y => nm_r (nI_1 k) (ih (k + 1) b o1 o2 o3 hb hb0 (fun m a c d => ?_) hw'))
        (fun y => ⟨hin, pk_le b (tv k) (fun w => nm_r (nI_1 k) (ih (k + 1) b o1 o2 o3 hb hb0 (fun m a c d => ?_) hw'))
          (fun w => ⟨hin, nm_e (nm_r (nI_1 k) (ih (k + 1) (tv k) o1 o2 o3 (by clear hw hw'; omega) (by clear hw hw'; omega) (fun m a c d => ?_) (Or.inr ⟨k, hik, by omega, (hS k hik z).1 y, rfl⟩)))⟩)⟩)⟩
      · by_cases e2 : m = k
        · rw [e2] at d
          exact absurd y ((hS k hik z).2 d)
        · exact hm m a (by omega) d
      · by_cases e2 : m = k
        · rw [e2]; exact w
        · exact hm m a (by omega) d
      · by_cases e2 : m = k
        · rw [e2]; exact Nat.le_refl _
        · exact Nat.le_trans (by omega) (hm m a (by omega) d)
theorem yr_shown (G : gx_ok C K L R kd lf rg) {re : Nat → Int32} {t : Nat → Nat} {c i nn : Nat} (hc : c < C) (hi : i ≤ nn) (hn : nn ≤ 13) {Mt : Nat → Nat → Nat → Prop}
    (hS : ∀ l i j, l < C → i ≤ j → j ≤ nn → (¬ sp ((l * 14 + i) * 14 + j) = 0 ↔ Mt l i j)) (hV : gx_V 224 re t) (post : Int32 → Prop)
    (h : ∀ x, x ≤ 33554432 → (∀ y, of_R C K L R (fun i c => wd i = lf c) Mt nn t (c * 14 + i) y → x ≤ y) → (x < 16777216 → of_R C K L R (fun i c => wd i = lf c) Mt nn t (c * 14 + i) x) → post (nI x)) :
    wpY_restShown post (nI C, ml, al, ro, sz, op, kd, lf, rg, wd, sp, re) (nI c) (nI i) (nI nn) := by
  have hC := G.1
  obtain ⟨hk, h4, hlr⟩ := G.2 c hc
  have hci : vp_in (nI c) 16 := vp_in_nI (by omega) (by omega)
  have inv := fun x (h : of_R C K L R (fun i c => wd i = lf c) Mt nn t (c * 14 + i) x) => of_R_inv hn (by omega) h
  have cc' : (nI c).toNatClampNeg = c := nI_clamp (by omega)
  have ci : (nI i).toNatClampNeg = i := nI_clamp (by omega)
  unfold wpY_restShown
  dsimp only
  rw [cc', hk]
  refine ⟨hci, nm_e ⟨hci, nm_e ⟨hci, ?_⟩⟩⟩
  rcases gx_K4 h4 with e | e | e | e | e
  · rw [e]
    refine br_t rfl (h 16777216 (by omega) (fun y hy => ?_) (fun z => absurd z (by omega)))
    rcases inv y hy with ⟨k, _⟩ | ⟨k, _⟩ | ⟨k, _⟩ | ⟨k, _⟩ | ⟨k, _⟩ <;> omega
  · rw [e]
    refine br_f (by decide) ⟨hci, br_t rfl (pk_eq i nn (fun e2 => h 0 (by omega) (fun y _ => by omega) (fun _ => ⟨c, i, rfl, hc, hi, Or.inl ⟨e, e2, rfl⟩⟩)) (fun e2 => h 16777216 (by omega) (fun y hy => ?_) (fun z => absurd z (by omega))))⟩
    rcases inv y hy with ⟨k, _⟩ | ⟨k, _⟩ | ⟨k, _⟩ | ⟨k, _⟩ | ⟨k, _⟩ <;> omega
  · rw [e]
    refine br_f (by decide) ⟨hci, br_f (by decide) ⟨hci, br_t rfl (pk_eq i nn (fun e2 => h 1 (by omega) (fun y hy => ?_) (fun _ => ⟨c, i, rfl, hc, hi, Or.inr (Or.inl ⟨e, e2, rfl⟩)⟩)) (fun e2 => ?_))⟩⟩
    · rcases inv y hy with ⟨k, _⟩ | ⟨k, _⟩ | ⟨k, _⟩ | ⟨k, _⟩ | ⟨k, _⟩ <;> omega
    · unfold wY_restShown_67
      rw [cc', ci, hk, e]
      refine ⟨hci, br_t rfl (pk_eq (i + 1) nn (fun e3 => ⟨vp_in_nI (by omega) (by omega), br_c (fun w => h 0 (by omega) (fun y _ => by omega) (fun _ => ⟨c, i, rfl, hc, hi, Or.inr (Or.inr (Or.inl ⟨e, e3, w, rfl⟩))⟩)) (fun w => h 16777216 (by omega) (fun y hy => ?_) (fun z => absurd z (by omega)))⟩)
        (fun e3 => h 16777216 (by omega) (fun y hy => ?_) (fun z => absurd z (by omega))) (nI_1 i))⟩
      · rcases inv y hy with ⟨k, _⟩ | ⟨k, _⟩ | ⟨k, _, q, _⟩ | ⟨k, _⟩ | ⟨k, _⟩
        · omega
        · omega
        · exact absurd q w
        · omega
        · omega
      · rcases inv y hy with ⟨k, _⟩ | ⟨k, _⟩ | ⟨k, _⟩ | ⟨k, _⟩ | ⟨k, _⟩ <;> omega
  · obtain ⟨el, er, hl, hr⟩ := hlr (Or.inl e)
    have vl := hV (L c * 14 + i) (by omega)
    have vr := hV (R c * 14 + i) (by omega)
    rw [e]
    refine br_f (by decide) ⟨hci, br_f (by decide) ⟨hci, br_f (by decide) ?_⟩⟩
    unfold wY_restShown_67
    rw [cc', hk, e, el, er, nx_14, nx_14, show (nI (L c * 14 + i)).toNatClampNeg = L c * 14 + i from nI_clamp (by omega), show (nI (R c * 14 + i)).toNatClampNeg = R c * 14 + i from nI_clamp (by omega), vl.1, vr.1]
    have hin : vp_in (nI (R c * 14 + i)) 224 := vp_in_nI (by omega) (by omega)
    have bl := vl.2
    have br := vr.2
    refine ⟨hci, br_f (by decide) ⟨vp_in_nI (by omega) (by omega), nm_e ⟨hci, br_t rfl ⟨hin, pk_le (t (R c * 14 + i)) (t (L c * 14 + i)) (fun z => ⟨hin, h _ (by omega) (fun y hy => ?_) (fun _ => ⟨c, i, rfl, hc, hi, Or.inr (Or.inr (Or.inr (Or.inl ⟨e, Or.inr rfl⟩)))⟩)⟩)
      (fun z => h _ (by omega) (fun y hy => ?_) (fun _ => ⟨c, i, rfl, hc, hi, Or.inr (Or.inr (Or.inr (Or.inl ⟨e, Or.inl rfl⟩)))⟩))⟩⟩⟩⟩
    · rcases inv y hy with ⟨k, _⟩ | ⟨k, _⟩ | ⟨k, _⟩ | ⟨k, q | q⟩ | ⟨k, _⟩ <;> omega
    · rcases inv y hy with ⟨k, _⟩ | ⟨k, _⟩ | ⟨k, _⟩ | ⟨k, q | q⟩ | ⟨k, _⟩ <;> omega
  · obtain ⟨el, er, hl, hr⟩ := hlr (Or.inr e)
    have vl := hV (L c * 14 + i) (by omega)
    have vr := hV (R c * 14 + nn) (by omega)
    rw [e]
    refine br_f (by decide) ⟨hci, br_f (by decide) ⟨hci, br_f (by decide) ?_⟩⟩
    unfold wY_restShown_67
    rw [cc', hk, e, el, er]
    refine ⟨hci, br_f (by decide) ?_⟩
    rw [nx_14 (L c) i, nx_14 (R c) nn, show (nI (L c * 14 + i)).toNatClampNeg = L c * 14 + i from nI_clamp (by omega), show (nI (R c * 14 + nn)).toNatClampNeg = R c * 14 + nn from nI_clamp (by omega), vl.1, vr.1]
    have bl := vl.2
    have br := vr.2
    refine ⟨vp_in_nI (by omega) (by omega), nm_e ⟨hci, br_f (by decide) ⟨vp_in_nI (by omega) (by omega), nm_r (nI_add _ _) ⟨nn + 2, yr_181 (b0 := t (L c * 14 + i) + t (R c * 14 + nn)) (P := fun k => Mt (L c) i k) (tv := fun k => t (R c * 14 + k)) (by omega) (by omega) hn (fun k a b => hS _ i k hl a b) (fun k a b => hV _ (by omega)) post
      (fun x hx h1 h2 h3 => h x hx (fun y hy => ?_) (fun _ => ⟨c, i, rfl, hc, hi, Or.inr (Or.inr (Or.inr (Or.inr ⟨e, ?_⟩)))⟩)) (nn + 2) i _ (Nat.le_refl _) (by omega) (by omega) (by omega) (Nat.le_refl _) (fun m a b => absurd a (by omega)) (Or.inl rfl)⟩⟩⟩⟩
    · rcases inv y hy with ⟨k, _⟩ | ⟨k, _⟩ | ⟨k, _⟩ | ⟨k, _⟩ | ⟨k, q | ⟨m, a, b, p, q⟩⟩
      · omega
      · omega
      · omega
      · omega
      · rw [q]; exact h1
      · rw [q]; exact h2 m a b p
    · rcases h3 with h3 | ⟨m, a, b, p, q⟩
      · exact Or.inl h3
      · exact Or.inr ⟨m, a, b, p, q⟩
theorem yr_206 (G : gx_ok C K L R kd lf rg) {nn : Nat} (hn : nn ≤ 13) {Mt : Nat → Nat → Nat → Prop}
    (hS : ∀ l i j, l < C → i ≤ j → j ≤ nn → (¬ sp ((l * 14 + i) * 14 + j) = 0 ↔ Mt l i j)) {D s : Nat → Nat} (GD : fx_Good 224 16777216 (of_R C K L R (fun i c => wd i = lf c) Mt nn) D) (post : SY → Prop)
    (J178 J194 : Int32 → Int32 → (Nat → Int32) → (Nat → Int32) → (Nat → Int32) → (Nat → Int32) → (Nat → Int32) → (Nat → Int32) → Prop) (x3 : Int32) {c : Nat} (hc : c < C)
    (hJ : ∀ x2 re t, gx_V 224 re t → fx_In 224 (of_R C K L R (fun i c => wd i = lf c) Mt nn) D s (c * 14 + (nn + 1)) t → (x2 = 0 → ∀ u, u < 224 → t u = s u) → J194 x2 (nI (c + 1)) kd lf rg wd sp re) :
    ∀ f i x2 re t, i ≤ nn + 1 → nn + 1 - i < f → gx_V 224 re t → fx_In 224 (of_R C K L R (fun i c => wd i = lf c) Mt nn) D s (c * 14 + i) t → (x2 = 0 → ∀ u, u < 224 → t u = s u) →
      wY_evaluate_206 post J178 J194 (nI nn) x3 (nI c) (nI C) ml al ro sz op f x2 (nI i) kd lf rg wd sp re := by
  have hC := G.1
  have hm : fx_Mono 224 (of_R C K L R (fun i c => wd i = lf c) Mt nn) := of_R_m Mt hn (by omega) (gx_wf G)
  intro f
  induction f with
  | zero => intro i x2 re t _ h; omega
  | succ f ih =>
    intro i x2 re t hi hf hV hI hx
    refine pk_lt nn i (fun h => ?_) (fun h => yr_shown G hc h hn hS hV _ (fun x hxB hl ho => ?_))
    · have e : i = nn + 1 := by omega
      subst e
      exact nm_r (nI_1 c) (hJ x2 re t hV hI hx)
    · have q := hV (c * 14 + i) (by omega)
      have hB := q.2
      rw [nx_14, show (nI (c * 14 + i)).toNatClampNeg = c * 14 + i from nI_clamp (by omega), q.1]
      have hin : vp_in (nI (c * 14 + i)) 224 := vp_in_nI (by omega) (by omega)
      refine ⟨hin, pk_le (t (c * 14 + i)) x (fun hle => nm_r (nI_1 i) (ih (i + 1) x2 re t (by omega) (by omega) hV (fx_in_skip (v := c * 14 + i) hm hI (fun y hy => Nat.le_trans hle (hl y hy))) hx))
        (fun hlt => ⟨hin, nm_e (nm_r (nI_1 i) (ih (i + 1) 1 _ (fun u => if u = c * 14 + i then x else t u) (by omega) (by omega) (gx_V_upd hV (by omega)) (fx_in_set (v := c * 14 + i) GD hm hI (by omega) hlt (ho (by omega)) hl) (fun w => absurd w (by decide))))⟩)⟩
theorem yr_194 (G : gx_ok C K L R kd lf rg) {nn : Nat} (hn : nn ≤ 13) {Mt : Nat → Nat → Nat → Prop}
    (hS : ∀ l i j, l < C → i ≤ j → j ≤ nn → (¬ sp ((l * 14 + i) * 14 + j) = 0 ↔ Mt l i j)) {D s : Nat → Nat} (GD : fx_Good 224 16777216 (of_R C K L R (fun i c => wd i = lf c) Mt nn) D) (post : SY → Prop)
    (J178 : Int32 → Int32 → (Nat → Int32) → (Nat → Int32) → (Nat → Int32) → (Nat → Int32) → (Nat → Int32) → (Nat → Int32) → Prop) (x3 : Int32)
    (hJ : ∀ x2 re t, gx_V 224 re t → fx_In 224 (of_R C K L R (fun i c => wd i = lf c) Mt nn) D s 224 t → (x2 = 0 → ∀ u, u < 224 → t u = s u) → J178 x2 (x3 + 1) kd lf rg wd sp re) :
    ∀ f c x2 re t, c ≤ C → C - c < f → gx_V 224 re t → fx_In 224 (of_R C K L R (fun i c => wd i = lf c) Mt nn) D s (c * 14) t → (x2 = 0 → ∀ u, u < 224 → t u = s u) →
      wY_evaluate_194 post J178 (nI nn) x3 (nI C) ml al ro sz op f x2 (nI c) kd lf rg wd sp re := by
  have hC := G.1
  intro f
  induction f with
  | zero => intro c x2 re t _ h; omega
  | succ f ih =>
    intro c x2 re t hc hf hV hI hx
    refine pk_le C c (fun h => nm_e (hJ x2 re t hV (fx_in_gap hI (fun u a b => of_R_no (fun c' i' p q => by omega))) hx)) (fun h => ⟨nn + 2, ?_⟩)
    exact yr_206 G hn hS GD post J178 _ x3 h (fun y re' t' hV' hI' hy => ih (c + 1) y re' t' h (by omega) hV' (fx_in_gap hI' (fun u a b => of_R_no (fun c' i' p q => by omega))) hy) (nn + 2) 0 x2 re t (by omega) (by omega) hV hI hx
theorem yr_178 (G : gx_ok C K L R kd lf rg) {nn : Nat} (hn : nn ≤ 13) {Mt : Nat → Nat → Nat → Prop}
    (hS : ∀ l i j, l < C → i ≤ j → j ≤ nn → (¬ sp ((l * 14 + i) * 14 + j) = 0 ↔ Mt l i j)) {D : Nat → Nat} (GD : fx_Good 224 16777216 (of_R C K L R (fun i c => wd i = lf c) Mt nn) D) (post : SY → Prop)
    (hp : ∀ re, gx_V 224 re D → post (nI C, ml, al, ro, sz, op, kd, lf, rg, wd, sp, re)) :
    ∀ f k x2 re s, k ≤ 224 → 224 - k < f → gx_V 224 re s → fx_R 224 16777216 (fun _ => true) D k s → (x2 = 0 → ∀ u, u < 224 → s u = D u) →
      wY_evaluate_178 post (nI nn) (nI C) ml al ro sz op f x2 (nI k) kd lf rg wd sp re := by
  have hC := G.1
  have fin : ∀ re s, gx_V 224 re s → (∀ u, u < 224 → s u = D u) → post (nI C, ml, al, ro, sz, op, kd, lf, rg, wd, sp, re) :=
    fun re s hr e => hp re (fun v hv => by rw [← e v hv]; exact hr v hv)
  intro f
  induction f with
  | zero => intro k x2 re s _ h; omega
  | succ f ih =>
    intro k x2 re s hk hf hr hR hx
    by_cases z : x2 = 0
    · exact br_t z (fin re s hr (hx z))
    · refine br_f z (pk_le 224 k (fun h => fin re s hr (fx_fin GD (fun _ _ _ _ _ => rfl) hR (by rw [fx_cnt_all]; exact h))) (fun h => ⟨C + 1, ?_⟩))
      refine yr_194 G hn hS GD post _ (nI k) (fun y re' t hr' hI hy => ?_) (C + 1) 0 0 re s (by omega) (by omega) hr (by rw [Nat.zero_mul]; exact fx_in0 hR) (fun _ u _ => rfl)
      rw [nI_1]
      exact ih (k + 1) y re' t (by omega) (by omega) hr' (fx_in_end GD (fun _ _ _ _ _ => rfl) hR hI) (fun e => fx_in_stop GD hR hI (hy e))
end
section
variable {C : Nat} {K L R : Nat → Nat} {cc ml al ro sz op : Int32} {kd lf rg wd : Nat → Int32}
theorem ye_24 (post : SY → Prop) (nn : Int32) (sp : Nat → Int32) (h : ∀ re, (∀ u, u < 224 → re u = nI 16777216) → ∃ n, wY_evaluate_49 post nn cc ml al ro sz op n 1 0 kd lf rg wd sp re) :
    ∀ f k re, k ≤ 224 → 224 - k < f → (∀ u, u < k → re u = nI 16777216) → wY_evaluate_24 post nn cc ml al ro sz op f (nI k) kd lf rg wd sp re := by
  intro f
  induction f with
  | zero => intro k re _ h; omega
  | succ f ih =>
    intro k re hk hf hu
    refine pk_le 224 k (fun z => h re (fun u hu' => hu u (by omega))) (fun z => ⟨vp_in_nI (by omega) (by omega), nm_e (nm_r (nI_1 k) (ih (k + 1) _ (by omega) (by omega) (fun u hu' => ?_)))⟩)
    rw [nI_clamp (by omega)]
    by_cases e : u = k
    · rw [e, pk_us]; rfl
    · rw [pk_un e]; exact hu u (by omega)
theorem ye_2 (post : SY → Prop) (nn : Int32) (re : Nat → Int32) (h : ∀ sp, (∀ u, u < 3136 → sp u = 0) → ∃ n, wY_evaluate_24 post nn cc ml al ro sz op n 0 kd lf rg wd sp re) :
    ∀ f k sp, k ≤ 3136 → 3136 - k < f → (∀ u, u < k → sp u = 0) → wY_evaluate_2 post nn cc ml al ro sz op f (nI k) kd lf rg wd sp re := by
  intro f
  induction f with
  | zero => intro k sp _ h; omega
  | succ f ih =>
    intro k sp hk hf hu
    refine pk_le 3136 k (fun z => h sp (fun u hu' => hu u (by omega))) (fun z => ⟨vp_in_nI (by omega) (by omega), nm_e (nm_r (nI_1 k) (ih (k + 1) _ (by omega) (by omega) (fun u hu' => ?_)))⟩)
    rw [nI_clamp (by omega), nx_b0]
    by_cases e : u = k
    · rw [e, pk_us]
    · rw [pk_un e]; exact hu u (by omega)
theorem ye_all (G : gx_ok C K L R kd lf rg) {nn : Nat} (hn : nn ≤ 13) {sp re : Nat → Int32} (post : SY → Prop)
    (hp : ∀ sp re D, (∀ l i j, l < C → i ≤ j → j ≤ nn → (¬ sp ((l * 14 + i) * 14 + j) = 0 ↔ gr_Sp C K L R (fun i c => wd i = lf c) l i j)) →
      fx_Good 224 16777216 (of_R C K L R (fun i c => wd i = lf c) (gr_Sp C K L R (fun i c => wd i = lf c)) nn) D → gx_V 224 re D →
      post (nI C, ml, al, ro, sz, op, kd, lf, rg, wd, sp, re)) :
    wpY_evaluate post (nI C, ml, al, ro, sz, op, kd, lf, rg, wd, sp, re) (nI nn) := by
  have hC := G.1
  have wf := gx_wf G
  obtain ⟨S, GS⟩ := fx_good (N := 3136) (B := 1) (of_S_m (tk := fun i c => wd i = lf c) hn (by omega) wf) (of_S_w 1 hn (by omega) wf)
  obtain ⟨D, GD⟩ := fx_good (N := 224) (B := 16777216) (of_R_m (tk := fun i c => wd i = lf c) (gr_Sp C K L R (fun i c => wd i = lf c)) hn (by omega) wf) (of_R_w 16777216 _ hn (by omega) wf)
  refine ⟨3137, ye_2 post (nI nn) re (fun sp h0 => ⟨225, ye_24 post (nI nn) sp (fun re h1 => ⟨1681, ?_⟩) 225 0 re (by omega) (by omega) (fun u hu => absurd hu (by omega))⟩) 3137 0 sp (by omega) (by omega) (fun u hu => absurd hu (by omega))⟩
  refine ys_49 G hn GS post (fun sp' hz => ⟨225, ?_⟩) 1681 0 1 sp (fun _ => 1) (by omega) (by omega) (fun v hv => ⟨fun _ => rfl, fun z => absurd (h0 v hv) z⟩) (fx_R0 GS (fun _ _ => rfl)) (fun z => absurd z (by decide))
  have hS : ∀ l i j, l < C → i ≤ j → j ≤ nn → (¬ sp' ((l * 14 + i) * 14 + j) = 0 ↔ gr_Sp C K L R (fun i c => wd i = lf c) l i j) := by
    intro l i j hl hij hj
    rw [← gr_span hn (by omega) wf GS hl hij hj]
    have q := hz ((l * 14 + i) * 14 + j) (by omega)
    constructor
    · exact q.2
    · intro a b
      have := q.1 b
      omega
  exact yr_178 G hn hS GD post (fun re' hV => hp sp' re' D hS GD hV) 225 0 1 re (fun _ => 16777216) (by omega) (by omega) (fun v hv => ⟨h1 v hv, Nat.le_refl _⟩) (fx_R0 GD (fun _ _ => rfl)) (fun z => absurd z (by decide))
theorem ye_comp (G : gx_ok C K L R kd lf rg) {nn c : Nat} (hn : nn ≤ 13) (hc : c < C) {sp re : Nat → Int32} (post : Int32 → SY → Prop)
    (hp : ∀ sp re D, fx_Good 224 16777216 (of_R C K L R (fun i c => wd i = lf c) (gr_Sp C K L R (fun i c => wd i = lf c)) nn) D →
      (16777216 ≤ D (c * 14) → post (-1) (nI C, ml, al, ro, sz, op, kd, lf, rg, wd, sp, re)) ∧ (D (c * 14) < 16777216 → post (nI (D (c * 14))) (nI C, ml, al, ro, sz, op, kd, lf, rg, wd, sp, re))) :
    wpY_completion post (nI C, ml, al, ro, sz, op, kd, lf, rg, wd, sp, re) (nI c) (nI nn) := by
  have hC := G.1
  unfold wpY_completion
  dsimp only
  refine ye_all G hn _ (fun sp re D _ GD hV => ?_)
  have q := hV (c * 14) (by omega)
  have hB := q.2
  have hin : vp_in (nI (c * 14)) 224 := vp_in_nI (by omega) (by omega)
  dsimp only
  rw [show nI c * 14 = nI (c * 14) from pk_mul c 14, show (nI (c * 14)).toNatClampNeg = c * 14 from nI_clamp (by omega), q.1]
  exact ⟨hin, pk_le 16777216 (D (c * 14)) (hp sp re D GD).1 (fun z => ⟨hin, (hp sp re D GD).2 z⟩)⟩
end
end
section
/-! the relation, and small methods of both sides -/
def i_Rel (_ : Nat) (u : SX) (v : SY) : Prop :=
  ∃ (C M A : Nat) (K L R D : Nat → Nat) (op rx ix ry iy : Int32) (kd lf rg ls tok st ta sp re : Nat → Int32),
    u = (nI C, nI M, nI A, op, rx, ix, kd, lf, rg, ls, tok, st, ta) ∧ v = (nI C, nI M, nI A, ry, iy, op, kd, lf, rg, tok, sp, re) ∧
    gx_ok C K L R kd lf rg ∧ M ≤ 12 ∧ A ≤ 8 ∧ fx_Good C 16777216 (of_L K L R) D ∧ gx_V C ls D ∧
    (¬ op = 0 → ∃ ro n, ro < C ∧ n ≤ M ∧ rx = nI ro ∧ ry = nI ro ∧ ix = nI n ∧ iy = nI n ∧ gx_S C K L R (fun i c => tok i = lf c) st (n + 1))
theorem i_up {k : Nat} {u : SX} {v : SY} (h : i_Rel k u v) : i_Rel (k + 5) u v := h
section
variable {C M A : Nat} {K L R D : Nat → Nat} {op rx ix ry iy : Int32} {kd lf rg ls tok st ta sp re : Nat → Int32}
theorem rl_mk (k : Nat) (G : gx_ok C K L R kd lf rg) (hM : M ≤ 12) (hA : A ≤ 8) (GD : fx_Good C 16777216 (of_L K L R) D) (hV : gx_V C ls D)
    (hO : ¬ op = 0 → ∃ ro n, ro < C ∧ n ≤ M ∧ rx = nI ro ∧ ry = nI ro ∧ ix = nI n ∧ iy = nI n ∧ gx_S C K L R (fun i c => tok i = lf c) st (n + 1)) :
    i_Rel k (nI C, nI M, nI A, op, rx, ix, kd, lf, rg, ls, tok, st, ta) (nI C, nI M, nI A, ry, iy, op, kd, lf, rg, tok, sp, re) :=
  ⟨C, M, A, K, L, R, D, op, rx, ix, ry, iy, kd, lf, rg, ls, tok, st, ta, sp, re, rfl, rfl, G, hM, hA, GD, hV, hO⟩
theorem rl_0 {tk : Nat → Nat → Prop} {Dr : Nat → Nat} (hC : C ≤ 16) (wf : gr_wf C K L R) (GD : fx_Good C 16777216 (of_L K L R) D) (GR : fx_Good 224 16777216 (of_R C K L R tk (gr_Sp C K L R tk) 0) Dr) {c : Nat} (hc : c < C) : Dr (c * 14) = D c :=
  (gr_tail (T := fun _ => D) (n := 0) (i := 0) (by omega) (by omega) (by omega) wf GD (fun _ _ => rfl) (fun i hi => absurd hi (by omega)) GR hc (by omega)).symm
theorem rl_n {tk : Nat → Nat → Prop} {Dr : Nat → Nat} {T : Nat → Nat → Nat} {n : Nat} (hn : n ≤ 13) (hC : C ≤ 16) (wf : gr_wf C K L R) (GD : fx_Good C 16777216 (of_L K L R) D)
    (h0 : ∀ c, c < C → T n c = D c) (hT : ∀ i, i < n → fx_Good C 16777216 (of_T K L R tk (gr_Sp C K L R tk) D T i n) (T i))
    (GR : fx_Good 224 16777216 (of_R C K L R tk (gr_Sp C K L R tk) n) Dr) {c : Nat} (hc : c < C) : Dr (c * 14) = T 0 c :=
  (gr_tail (i := 0) (by omega) hn (by omega) wf GD h0 hT GR hc (by omega)).symm
theorem gx_S_le {tk : Nat → Nat → Prop} {m n : Nat} (h : gx_S C K L R tk st n) (hm : m ≤ n) : gx_S C K L R tk st m := fun c i j hc hij hj => h c i j hc hij (by omega)
theorem gx_S_tok {n : Nat} {x : Int32} (h : gx_S C K L R (fun i c => tok i = lf c) st (n + 1)) : gx_S C K L R (fun i c => upd tok n x i = lf c) st (n + 1) := by
  intro c i j hc hij hj
  rw [h c i j hc hij hj]
  refine gr_sp_iff (fun t a b c => ?_)
  rw [pk_un (by omega)]
/-- the verdict and the answer that a least length gives -/
def rl_v (x : Nat) : Int32 := if x = 0 then 3 else if x < 16777216 then 2 else 1
def rl_a (x : Nat) : Int32 := if x < 16777216 then nI x else -1
theorem xv_for {x : Nat} (hx : x ≤ 16777216) {post : Int32 → Prop} (h : post (rl_v x)) : wpX_verdictFor post (nI x) := by
  refine pk_eq x 0 (fun e => ?_) (fun e => pk_le 16777216 x (fun z => ?_) (fun z => ?_))
  · rw [rl_v, if_pos e] at h; exact h
  · rw [rl_v, if_neg e, if_neg (by omega)] at h; exact h
  · rw [rl_v, if_neg e, if_pos z] at h; exact h
theorem xv_len {x : Nat} (hx : x ≤ 16777216) {post : Int32 → Prop} (h : post (rl_a x)) : wpX_lengthOrNone post (nI x) := by
  refine pk_le 16777216 x (fun z => ?_) (fun z => ?_)
  · rw [rl_a, if_neg (by omega)] at h; exact h
  · rw [rl_a, if_pos z] at h; exact h
theorem ye_ans (G : gx_ok C K L R kd lf rg) {ml al r s op : Int32} {nn c : Nat} (hn : nn ≤ 13) (hc : c < C) (post : Int32 → SY → Prop)
    (hp : ∀ sp re Dr, fx_Good 224 16777216 (of_R C K L R (fun i c => tok i = lf c) (gr_Sp C K L R (fun i c => tok i = lf c)) nn) Dr → post (rl_a (Dr (c * 14))) (nI C, ml, al, r, s, op, kd, lf, rg, tok, sp, re)) :
    wpY_completion post (nI C, ml, al, r, s, op, kd, lf, rg, tok, sp, re) (nI c) (nI nn) := by
  refine ye_comp G hn hc post (fun sp re Dr GR => ⟨fun z => ?_, fun z => ?_⟩)
  · have h := hp sp re Dr GR
    rw [rl_a, if_neg (by omega)] at h
    exact h
  · have h := hp sp re Dr GR
    rw [rl_a, if_pos z] at h
    exact h
theorem ye_ver (G : gx_ok C K L R kd lf rg) {ml al op : Int32} {nn c : Nat} (hn : nn ≤ 13) (hc : c < C) (ho : ¬ op = 0) (post : Int32 → SY → Prop)
    (hp : ∀ sp re Dr, fx_Good 224 16777216 (of_R C K L R (fun i c => tok i = lf c) (gr_Sp C K L R (fun i c => tok i = lf c)) nn) Dr → post (rl_v (Dr (c * 14))) (nI C, ml, al, nI c, nI nn, op, kd, lf, rg, tok, sp, re)) :
    wpY_verdict post (nI C, ml, al, nI c, nI nn, op, kd, lf, rg, tok, sp, re) := by
  unfold wpY_verdict
  dsimp only
  refine br_f ho (ye_comp G hn hc _ (fun sp re Dr GR => ⟨fun z => ?_, fun z => ?_⟩))
  · have h := hp sp re Dr GR
    rw [rl_v, if_neg (by omega), if_neg (by omega)] at h
    exact br_f (by decide) (br_t (by decide) h)
  · have h := hp sp re Dr GR
    refine pk_eq (Dr (c * 14)) 0 (fun e => ?_) (fun e => pk_le (Dr (c * 14)) 0 (fun y => absurd y (by omega)) (fun y => ?_))
    · rw [rl_v, if_pos e] at h; exact h
    · rw [rl_v, if_neg e, if_pos z] at h; exact h
end
section
variable {C : Nat} {fl ft fo fr fi ml al ro sz op : Int32} {kd lf rg ls tok st ta wd sp re : Nat → Int32}
theorem xq_yes (hC : C ≤ 16) {c : Nat} (hc : c < C) {post : Int32 → Prop} (h : post 1) : wpX_isCell post (nI C, fl, ft, fo, fr, fi, kd, lf, rg, ls, tok, st, ta) (nI c) :=
  br_f (nI_pos (by omega)) (br_f (nI_ge hc (by omega)) h)
theorem xq_no {x : Int32} (hx : x < 0 ∨ nI C ≤ x) {post : Int32 → Prop} (h : post 0) : wpX_isCell post (nI C, fl, ft, fo, fr, fi, kd, lf, rg, ls, tok, st, ta) x :=
  br_c (fun _ => h) (fun z => br_t (hx.resolve_left z) h)
theorem xk_yes {A : Nat} (hA : A ≤ 8) {c : Nat} (hc : c < A) {post : Int32 → Prop} (h : post 1) : wpX_isToken post (nI C, fl, nI A, fo, fr, fi, kd, lf, rg, ls, tok, st, ta) (nI c) :=
  br_f (nI_pos (by omega)) (br_f (nI_ge hc (by omega)) h)
theorem xk_no {A : Nat} {x : Int32} (hx : x < 0 ∨ nI A ≤ x) {post : Int32 → Prop} (h : post 0) : wpX_isToken post (nI C, fl, nI A, fo, fr, fi, kd, lf, rg, ls, tok, st, ta) x :=
  br_c (fun _ => h) (fun z => br_t (hx.resolve_left z) h)
theorem yq_yes (hC : C ≤ 16) {c : Nat} (hc : c < C) {post : Int32 → Prop} (h : post 0) : wpY_noCell post (nI C, ml, al, ro, sz, op, kd, lf, rg, wd, sp, re) (nI c) :=
  br_f (nI_pos (by omega)) (br_t (nI_lt hc (by omega)) h)
theorem yq_no {x : Int32} (hx : x < 0 ∨ nI C ≤ x) {post : Int32 → Prop} (h : post 1) : wpY_noCell post (nI C, ml, al, ro, sz, op, kd, lf, rg, wd, sp, re) x :=
  br_c (fun _ => h) (fun z => br_f (Int32.not_lt.mpr (hx.resolve_left z)) h)
theorem pk_ix2 (x : Int32) {n : Nat} (hn : n < 2 ^ 31) : (x < 0 ∨ nI n ≤ x) ∨ ∃ j : Nat, j < n ∧ x = nI j := by
  rcases pk_ix x hn with h | h | h
  · exact Or.inl (Or.inl h)
  · exact Or.inl (Or.inr h)
  · exact Or.inr h
theorem xi_clamp (x : Int32) {lo hi : Nat} (hl : lo ≤ hi) (hh : hi < 2 ^ 31) : ∃ c, lo ≤ c ∧ c ≤ hi ∧ (∀ post : Int32 → Prop, post (nI c) → wpX_clamp post x (nI lo) (nI hi)) ∧
    (∀ (post : Int32 → Prop) (y1 y2 y3 y4 y5 y6 : Int32) (z1 z2 z3 z4 z5 z6 : Nat → Int32), post (nI c) → wpY_clamp post (y1, y2, y3, y4, y5, y6, z1, z2, z3, z4, z5, z6) x (nI lo) (nI hi)) := by
  by_cases h1 : nI lo ≤ x
  · by_cases h2 : x ≤ nI hi
    · obtain ⟨j, hj, rfl⟩ := nI_of (x := x) (Int32.not_lt.mpr (Int32.le_trans (nI_pos' (by omega)) h1))
      exact ⟨j, (nI_leI (by omega) hj).1 h1, (nI_leI hj hh).1 h2, fun post h => br_t h1 (br_t h2 h), fun post y1 y2 y3 y4 y5 y6 z1 z2 z3 z4 z5 z6 h => br_t h1 (br_t h2 h)⟩
    · exact ⟨hi, hl, Nat.le_refl _, fun post h => br_t h1 (br_f h2 h), fun post y1 y2 y3 y4 y5 y6 z1 z2 z3 z4 z5 z6 h => br_t h1 (br_f h2 h)⟩
  · exact ⟨lo, Nat.le_refl _, hl, fun post h => br_f h1 h, fun post y1 y2 y3 y4 y5 y6 z1 z2 z3 z4 z5 z6 h => br_f h1 h⟩
end
end
section
/-! the constructors, define -/
theorem i_vc0 (k0 : Int32) (k1 : Int32) (k2 : Int32) : wpX_init (fun u => wpY_init (fun v => i_Rel 3 u v) k0 k1 k2) k0 k1 k2 := by
  obtain ⟨C, hC1, hC2, hX1, hY1⟩ := xi_clamp k0 (lo := 4) (hi := 16) (by omega) (by omega)
  obtain ⟨M, hM1, hM2, hX2, hY2⟩ := xi_clamp k1 (lo := 4) (hi := 12) (by omega) (by omega)
  obtain ⟨A, hA1, hA2, hX3, hY3⟩ := xi_clamp k2 (lo := 2) (hi := 8) (by omega) (by omega)
  have G : gx_ok C (fun _ => 0) (fun _ => 0) (fun _ => 0) (fun _ => 0) (fun _ => 0) (fun _ => 0) :=
    ⟨hC2, fun c _ => ⟨rfl, Nat.zero_le _, fun h => absurd (show (0 : Nat) = 3 ∨ (0 : Nat) = 4 from h) (by decide)⟩⟩
  unfold wpX_init
  refine hX1 _ (hX2 _ (hX3 _ (xc_all G _ (fun ls D GD hV => ?_))))
  unfold wpY_init
  refine hY1 _ _ _ _ _ _ _ _ _ _ _ _ _ (hY2 _ _ _ _ _ _ _ _ _ _ _ _ _ (hY3 _ _ _ _ _ _ _ _ _ _ _ _ _ ?_))
  exact rl_mk 3 G hM2 hA2 GD hV (fun h => absurd rfl h)
theorem gx_ok_upd {C : Nat} {K L R : Nat → Nat} {kd lf rg : Nat → Int32} (G : gx_ok C K L R kd lf rg) (c : Nat) {kk l0 r0 : Nat} {l r : Int32} (hk : kk ≤ 4)
    (h : (kk = 3 ∨ kk = 4) → l = nI l0 ∧ r = nI r0 ∧ l0 < C ∧ r0 < C) :
    gx_ok C (fun i => if i = c then kk else K i) (fun i => if i = c then l0 else L i) (fun i => if i = c then r0 else R i) (upd kd c (nI kk)) (upd lf c l) (upd rg c r) := by
  refine ⟨G.1, fun i hi => ?_⟩
  dsimp only
  by_cases e : i = c
  · rw [e, pk_us, pk_us, pk_us, if_pos rfl, if_pos rfl, if_pos rfl]
    exact ⟨rfl, hk, h⟩
  · rw [pk_un e, pk_un e, pk_un e, if_neg e, if_neg e, if_neg e]
    exact G.2 i hi
section
variable {C : Nat} {K L R : Nat → Nat} {fl ft fo fr fi ml al ro sz op : Int32} {kd lf rg ls tok st ta wd sp re : Nat → Int32}
theorem xd_51 {c : Nat} {x2 x3 x4 x6 z0 l r : Int32} (hc : c < C) (G : gx_ok C K L R (upd kd c x2) (upd lf c l) (upd rg c r))
    (hl : z0 = 0 → l = 0) (hl' : ¬ z0 = 0 → l = x3) (hr : x6 = 0 → r = 0) (hr' : ¬ x6 = 0 → r = x4) (post : Int32 → SX → Prop)
    (hp : ∀ ls D, fx_Good C 16777216 (of_L K L R) D → gx_V C ls D → post 0 (nI C, fl, ft, fo, fr, fi, upd kd c x2, upd lf c l, upd rg c r, ls, tok, st, ta)) :
    wX_define_51 post (nI c) x2 x3 x4 x6 z0 (nI C) fl ft fo fr fi kd lf rg ls tok st ta := by
  have hC := G.1
  have hi : vp_in (nI c) 16 := vp_in_nI (by omega) (by omega)
  have cc : (nI c).toNatClampNeg = c := nI_clamp (by omega)
  have h92 : ∀ z, z = r → wX_define_92 post z (nI c) (nI C) fl ft fo fr fi (upd kd c x2) (upd lf c l) rg ls tok st ta := by
    intro z ez
    unfold wX_define_92
    rw [cc, ez]
    exact ⟨hi, nm_e (xc_all G _ (fun ls D GD hV => hp ls D GD hV))⟩
  have h75 : ∀ z, z = l → wX_define_75 post (nI c) x4 x6 z (nI c) (nI C) fl ft fo fr fi (upd kd c x2) lf rg ls tok st ta := by
    intro z ez
    unfold wX_define_75
    rw [cc, ez]
    exact ⟨hi, nm_e (br_c (fun w => h92 0 (hr w).symm) (fun w => h92 x4 (hr' w).symm))⟩
  unfold wX_define_51
  rw [cc]
  exact ⟨hi, nm_e (br_c (fun w => h75 0 (hl w).symm) (fun w => h75 x3 (hl' w).symm))⟩
theorem yd_103 {c : Nat} {x2 x3 x4 x5 l r : Int32} (hC : C ≤ 16) (hc : c < C) (hl : x5 = 0 → ¬ x2 = 2 → l = 0) (hl2 : x5 = 0 → x2 = 2 → l = x3) (hl' : ¬ x5 = 0 → l = x3) (hr : x5 = 0 → r = 0) (hr' : ¬ x5 = 0 → r = x4)
    (post : Int32 → SY → Prop) (hp : post 0 (nI C, ml, al, ro, sz, op, upd kd c x2, upd lf c l, upd rg c r, wd, sp, re)) :
    wY_define_103 post (nI c) x2 x3 x4 x5 (nI C) ml al ro sz op kd lf rg wd sp re := by
  have hi : vp_in (nI c) 16 := vp_in_nI (by omega) (by omega)
  have cc : (nI c).toNatClampNeg = c := nI_clamp (by omega)
  have h130 : ∀ z, z = l → wY_define_130 post (nI c) x4 x5 z (nI c) (nI C) ml al ro sz op (upd kd c x2) lf rg wd sp re := by
    intro z ez
    unfold wY_define_130
    rw [cc, ez]
    refine ⟨hi, nm_e (br_c (fun w => ⟨hi, nm_r ?_ hp⟩) (fun w => ⟨hi, nm_r ?_ hp⟩))⟩
    · rw [hr w]
    · rw [hr' w]
  unfold wY_define_103
  rw [cc]
  refine ⟨hi, nm_e (br_c (fun w => br_c (fun y => ?_) (fun y => h130 0 (hl w y).symm)) (fun w => ?_))⟩
  · unfold wY_define_125
    exact h130 x3 (hl2 w y).symm
  · unfold wY_define_125
    exact h130 x3 (hl' w).symm
/-- faultOf of the component: what it answers -/
theorem xf_plain {x2 x3 x4 : Int32} {post : Int32 → Prop} (h3 : ¬ x2 = 3) (h4 : ¬ x2 = 4) (h : post 0) : wX_faultOf_49 post x2 x3 x4 (nI C) fl ft fo fr fi kd lf rg ls tok st ta := by
  unfold wX_faultOf_49
  refine br_f h3 (br_f h4 ?_)
  unfold wX_faultOf_64
  refine br_t rfl ?_
  unfold wX_faultOf_82
  exact br_t rfl h
theorem xf_pair {x2 x3 x4 : Int32} {post : Int32 → Prop} (h34 : x2 = 3 ∨ x2 = 4) (h : wX_faultOf_64 post x3 x4 1 (nI C) fl ft fo fr fi kd lf rg ls tok st ta) : wX_faultOf_49 post x2 x3 x4 (nI C) fl ft fo fr fi kd lf rg ls tok st ta := by
  unfold wX_faultOf_49
  rcases h34 with e | e
  · exact br_t e h
  · exact br_f (by rw [e]; decide) (br_t e h)
theorem xf_p6 {x2 x3 x4 : Int32} {post : Int32 → Prop} (h34 : x2 = 3 ∨ x2 = 4) (hb : x3 < 0 ∨ nI C ≤ x3) (h : post (-6)) : wX_faultOf_49 post x2 x3 x4 (nI C) fl ft fo fr fi kd lf rg ls tok st ta := by
  refine xf_pair h34 ?_
  unfold wX_faultOf_64
  exact br_f (by decide) (xq_no hb (br_t rfl h))
theorem xf_p7 {x2 x4 : Int32} {l : Nat} {post : Int32 → Prop} (hC : C ≤ 16) (h34 : x2 = 3 ∨ x2 = 4) (hl : l < C) (hb : x4 < 0 ∨ nI C ≤ x4) (h : post (-7)) : wX_faultOf_49 post x2 (nI l) x4 (nI C) fl ft fo fr fi kd lf rg ls tok st ta := by
  refine xf_pair h34 ?_
  unfold wX_faultOf_64
  refine br_f (by decide) (xq_yes hC hl (br_f (by decide) ?_))
  unfold wX_faultOf_82
  exact br_f (by decide) (xq_no hb (br_t rfl h))
theorem xf_p0 {x2 : Int32} {l r : Nat} {post : Int32 → Prop} (hC : C ≤ 16) (h34 : x2 = 3 ∨ x2 = 4) (hl : l < C) (hr : r < C) (h : post 0) : wX_faultOf_49 post x2 (nI l) (nI r) (nI C) fl ft fo fr fi kd lf rg ls tok st ta := by
  refine xf_pair h34 ?_
  unfold wX_faultOf_64
  refine br_f (by decide) (xq_yes hC hl (br_f (by decide) ?_))
  unfold wX_faultOf_82
  exact br_f (by decide) (xq_yes hC hr (br_f (by decide) h))
theorem yf_plain {x1 x2 x3 x4 : Int32} {post : Int32 → SY → Prop} (h3 : ¬ x2 = 3) (h4 : ¬ x2 = 4) (h : wY_define_103 post x1 x2 x3 x4 0 (nI C) ml al ro sz op kd lf rg wd sp re) : wY_define_53 post x1 x2 x3 x4 (nI C) ml al ro sz op kd lf rg wd sp re := by
  unfold wY_define_53
  refine br_f h3 (br_f h4 ?_)
  unfold wY_define_68
  refine br_t rfl ?_
  unfold wY_define_86
  exact br_t rfl h
theorem yf_pair {x1 x2 x3 x4 : Int32} {post : Int32 → SY → Prop} (h34 : x2 = 3 ∨ x2 = 4) (h : wY_define_68 post x1 x2 x3 x4 1 (nI C) ml al ro sz op kd lf rg wd sp re) : wY_define_53 post x1 x2 x3 x4 (nI C) ml al ro sz op kd lf rg wd sp re := by
  unfold wY_define_53
  rcases h34 with e | e
  · exact br_t e h
  · exact br_f (by rw [e]; decide) (br_t e h)
theorem yf_p6 {x1 x2 x3 x4 : Int32} {post : Int32 → SY → Prop} (h34 : x2 = 3 ∨ x2 = 4) (hb : x3 < 0 ∨ nI C ≤ x3) (h : post (-6) (nI C, ml, al, ro, sz, op, kd, lf, rg, wd, sp, re)) : wY_define_53 post x1 x2 x3 x4 (nI C) ml al ro sz op kd lf rg wd sp re := by
  refine yf_pair h34 ?_
  unfold wY_define_68
  exact br_f (by decide) (yq_no hb (br_f (by decide) h))
theorem yf_p7 {x1 x2 x4 : Int32} {l : Nat} {post : Int32 → SY → Prop} (hC : C ≤ 16) (h34 : x2 = 3 ∨ x2 = 4) (hl : l < C) (hb : x4 < 0 ∨ nI C ≤ x4) (h : post (-7) (nI C, ml, al, ro, sz, op, kd, lf, rg, wd, sp, re)) : wY_define_53 post x1 x2 (nI l) x4 (nI C) ml al ro sz op kd lf rg wd sp re := by
  refine yf_pair h34 ?_
  unfold wY_define_68
  refine br_f (by decide) (yq_yes hC hl (br_t rfl ?_))
  unfold wY_define_86
  exact br_f (by decide) (yq_no hb (br_f (by decide) h))
theorem yf_p0 {x1 x2 : Int32} {l r : Nat} {post : Int32 → SY → Prop} (hC : C ≤ 16) (h34 : x2 = 3 ∨ x2 = 4) (hl : l < C) (hr : r < C) (h : wY_define_103 post x1 x2 (nI l) (nI r) 1 (nI C) ml al ro sz op kd lf rg wd sp re) : wY_define_53 post x1 x2 (nI l) (nI r) (nI C) ml al ro sz op kd lf rg wd sp re := by
  refine yf_pair h34 ?_
  unfold wY_define_68
  refine br_f (by decide) (yq_yes hC hl (br_t rfl ?_))
  unfold wY_define_86
  exact br_f (by decide) (yq_yes hC hr (br_t rfl h))
theorem xd_34a {x1 x2 x3 x4 : Int32} {post : Int32 → SX → Prop} (h : ¬ x2 = 2) (hp : wX_define_51 post x1 x2 x3 x4 0 0 (nI C) fl ft fo fr fi kd lf rg ls tok st ta) : wX_define_34 post x1 x2 x3 x4 0 (nI C) fl ft fo fr fi kd lf rg ls tok st ta := by
  unfold wX_define_34
  exact br_t rfl (br_f h hp)
theorem xd_34b {x1 x2 x3 x4 : Int32} {post : Int32 → SX → Prop} (h : x2 = 2) (hp : wX_define_51 post x1 x2 x3 x4 0 1 (nI C) fl ft fo fr fi kd lf rg ls tok st ta) : wX_define_34 post x1 x2 x3 x4 0 (nI C) fl ft fo fr fi kd lf rg ls tok st ta := by
  unfold wX_define_34
  exact br_t rfl (br_t h hp)
theorem xd_29 {x1 x2 x3 x4 : Int32} {post : Int32 → SX → Prop} (hp : wX_define_51 post x1 x2 x3 x4 1 1 (nI C) fl ft fo fr fi kd lf rg ls tok st ta) : wX_define_29 post x1 x2 x3 x4 (nI C) fl ft fo fr fi kd lf rg ls tok st ta := by
  unfold wX_define_29 wX_define_34
  exact br_f (by decide) hp
end
theorem i_vc_define {k : Nat} {u : SX} {v : SY} (I : i_Rel k u v) (hk : k + 5 ≤ 2563) (v1 : Int32) (v2 : Int32) (v3 : Int32) (v4 : Int32) : wpX_define (fun r u' => wpY_define (fun r' v' => r' = r ∧ i_Rel (k + 5) u' v') v v1 v2 v3 v4) u v1 v2 v3 v4 := by
  have I0 := I
  obtain ⟨C, M, A, K, L, R, D, op, rx, ix, ry, iy, kd, lf, rg, ls, tok, st, ta, sp, re, rfl, rfl, G, hM, hA, GD, hV, hO⟩ := I
  have hC := G.1
  have same := i_up I0
  unfold wpX_define
  dsimp only
  unfold wpX_faultOf wpY_define
  dsimp only
  by_cases ho : op = 0
  · refine br_t ho ?_
    rcases pk_ix2 v1 (n := C) (by omega) with h1 | ⟨c, hc, rfl⟩
    · exact xq_no h1 (br_t rfl (br_f (by decide) (br_t ho (yq_no h1 (br_f (by decide) ⟨rfl, same⟩)))))
    · refine xq_yes hC hc (br_f (by decide) ?_)
      by_cases h2 : v2 < 0
      · exact br_t h2 (br_f (by decide) (br_t ho (yq_yes hC hc (br_t rfl (br_t h2 ⟨rfl, same⟩)))))
      · refine br_f h2 ?_
        by_cases h3 : v2 ≤ 4
        · refine br_t h3 ?_
          obtain ⟨kk, hkk, rfl⟩ := nI_of2 (n := 4) (by decide) h2 h3
          have n01 : ¬ (1 : Int32) = 0 := by decide
          rcases gx_K4 hkk with rfl | rfl | rfl | rfl | rfl
          · refine br_f (by decide) (xf_plain (by decide) (by decide) (br_t rfl (br_f (by decide) (br_f (by decide) (xd_34a (by decide) (xd_51 hc (gx_ok_upd G c (kk := 0) (l0 := 0) (r0 := 0) (l := 0) (r := 0) (by omega) (fun h => absurd h (by decide))) (fun _ => rfl) (fun h => absurd rfl h) (fun _ => rfl) (fun h => absurd rfl h) _ (fun ls D GD hV => ?_)))))))
            exact br_t ho (yq_yes hC hc (br_t rfl (br_f h2 (br_t h3 (br_f (by decide) (yf_plain (by decide) (by decide) (yd_103 hC hc (l := 0) (r := 0) (fun _ _ => rfl) (fun _ h => absurd h (by decide)) (fun h => absurd rfl h) (fun _ => rfl) (fun h => absurd rfl h) _ ⟨rfl, rl_mk (k + 5) (gx_ok_upd G c (kk := 0) (l0 := 0) (r0 := 0) (l := 0) (r := 0) (by omega) (fun h => absurd h (by decide))) hM hA GD hV (fun h => absurd ho h)⟩)))))))
          · refine br_f (by decide) (xf_plain (by decide) (by decide) (br_t rfl (br_f (by decide) (br_f (by decide) (xd_34a (by decide) (xd_51 hc (gx_ok_upd G c (kk := 1) (l0 := 0) (r0 := 0) (l := 0) (r := 0) (by omega) (fun h => absurd h (by decide))) (fun _ => rfl) (fun h => absurd rfl h) (fun _ => rfl) (fun h => absurd rfl h) _ (fun ls D GD hV => ?_)))))))
            exact br_t ho (yq_yes hC hc (br_t rfl (br_f h2 (br_t h3 (br_f (by decide) (yf_plain (by decide) (by decide) (yd_103 hC hc (l := 0) (r := 0) (fun _ _ => rfl) (fun _ h => absurd h (by decide)) (fun h => absurd rfl h) (fun _ => rfl) (fun h => absurd rfl h) _ ⟨rfl, rl_mk (k + 5) (gx_ok_upd G c (kk := 1) (l0 := 0) (r0 := 0) (l := 0) (r := 0) (by omega) (fun h => absurd h (by decide))) hM hA GD hV (fun h => absurd ho h)⟩)))))))
          · refine br_t (by decide) ?_
            rcases pk_ix2 v3 (n := A) (by omega) with h5 | ⟨l, hl, rfl⟩
            · refine xk_no h5 (br_t rfl (br_f (by decide) (br_t ho (yq_yes hC hc (br_t rfl (br_f h2 (br_t h3 (br_t (by decide) (br_c (fun _ => ⟨rfl, same⟩) (fun z => br_f (Int32.not_lt.mpr (h5.resolve_left z)) ⟨rfl, same⟩))))))))))
            · refine xk_yes hA hl (br_f (by decide) (xf_plain (by decide) (by decide) (br_t rfl (br_f (by decide) (br_f (by decide) (xd_34b (by decide) (xd_51 hc (gx_ok_upd G c (kk := 2) (l0 := 0) (r0 := 0) (l := nI l) (r := 0) (by omega) (fun h => absurd h (by decide))) (fun h => absurd h n01) (fun _ => rfl) (fun _ => rfl) (fun h => absurd rfl h) _ (fun ls D GD hV => ?_))))))))
              exact br_t ho (yq_yes hC hc (br_t rfl (br_f h2 (br_t h3 (br_t (by decide) (br_f (nI_pos (by omega)) (br_t (nI_lt hl (by omega)) (yf_plain (by decide) (by decide) (yd_103 hC hc (l := nI l) (r := 0) (fun _ h => absurd (by decide) h) (fun _ _ => rfl) (fun h => absurd rfl h) (fun _ => rfl) (fun h => absurd rfl h) _ ⟨rfl, rl_mk (k + 5) (gx_ok_upd G c (kk := 2) (l0 := 0) (r0 := 0) (l := nI l) (r := 0) (by omega) (fun h => absurd h (by decide))) hM hA GD hV (fun h => absurd ho h)⟩)))))))))
          · refine br_f (by decide) ?_
            rcases pk_ix2 v3 (n := C) (by omega) with h5 | ⟨l, hl, rfl⟩
            · exact xf_p6 (Or.inl rfl) h5 (br_f (by decide) (br_t ho (yq_yes hC hc (br_t rfl (br_f h2 (br_t h3 (br_f (by decide) (yf_p6 (Or.inl rfl) h5 ⟨rfl, same⟩))))))))
            · rcases pk_ix2 v4 (n := C) (by omega) with h6 | ⟨r, hr, rfl⟩
              · exact xf_p7 hC (Or.inl rfl) hl h6 (br_f (by decide) (br_t ho (yq_yes hC hc (br_t rfl (br_f h2 (br_t h3 (br_f (by decide) (yf_p7 hC (Or.inl rfl) hl h6 ⟨rfl, same⟩))))))))
              · refine xf_p0 hC (Or.inl rfl) hl hr (br_t rfl (br_t rfl (xd_29 (xd_51 hc (gx_ok_upd G c (kk := 3) (l0 := l) (r0 := r) (l := nI l) (r := nI r) (by omega) (fun _ => ⟨rfl, rfl, hl, hr⟩)) (fun h => absurd h n01) (fun _ => rfl) (fun h => absurd h n01) (fun _ => rfl) _ (fun ls D GD hV => ?_)))))
                exact br_t ho (yq_yes hC hc (br_t rfl (br_f h2 (br_t h3 (br_f (by decide) (yf_p0 hC (Or.inl rfl) hl hr (yd_103 hC hc (l := nI l) (r := nI r) (fun h => absurd h n01) (fun _ _ => rfl) (fun _ => rfl) (fun h => absurd h n01) (fun _ => rfl) _ ⟨rfl, rl_mk (k + 5) (gx_ok_upd G c (kk := 3) (l0 := l) (r0 := r) (l := nI l) (r := nI r) (by omega) (fun _ => ⟨rfl, rfl, hl, hr⟩)) hM hA GD hV (fun h => absurd ho h)⟩)))))))
          · refine br_f (by decide) ?_
            rcases pk_ix2 v3 (n := C) (by omega) with h5 | ⟨l, hl, rfl⟩
            · exact xf_p6 (Or.inr rfl) h5 (br_f (by decide) (br_t ho (yq_yes hC hc (br_t rfl (br_f h2 (br_t h3 (br_f (by decide) (yf_p6 (Or.inr rfl) h5 ⟨rfl, same⟩))))))))
            · rcases pk_ix2 v4 (n := C) (by omega) with h6 | ⟨r, hr, rfl⟩
              · exact xf_p7 hC (Or.inr rfl) hl h6 (br_f (by decide) (br_t ho (yq_yes hC hc (br_t rfl (br_f h2 (br_t h3 (br_f (by decide) (yf_p7 hC (Or.inr rfl) hl h6 ⟨rfl, same⟩))))))))
              · refine xf_p0 hC (Or.inr rfl) hl hr (br_t rfl (br_f (by decide) (br_t rfl (xd_29 (xd_51 hc (gx_ok_upd G c (kk := 4) (l0 := l) (r0 := r) (l := nI l) (r := nI r) (by omega) (fun _ => ⟨rfl, rfl, hl, hr⟩)) (fun h => absurd h n01) (fun _ => rfl) (fun h => absurd h n01) (fun _ => rfl) _ (fun ls D GD hV => ?_))))))
                exact br_t ho (yq_yes hC hc (br_t rfl (br_f h2 (br_t h3 (br_f (by decide) (yf_p0 hC (Or.inr rfl) hl hr (yd_103 hC hc (l := nI l) (r := nI r) (fun h => absurd h n01) (fun _ _ => rfl) (fun _ => rfl) (fun h => absurd h n01) (fun _ => rfl) _ ⟨rfl, rl_mk (k + 5) (gx_ok_upd G c (kk := 4) (l0 := l) (r0 := r) (l := nI l) (r := nI r) (by omega) (fun _ => ⟨rfl, rfl, hl, hr⟩)) hM hA GD hV (fun h => absurd ho h)⟩)))))))
        · exact br_f h3 (br_f (by decide) (br_t ho (yq_yes hC hc (br_t rfl (br_f h2 (br_f h3 ⟨rfl, same⟩))))))
  · exact br_f ho (br_f (by decide) (br_f ho ⟨rfl, same⟩))
end
section
/-! the other methods -/
theorem i_vc_kind {k : Nat} {u : SX} {v : SY} (I : i_Rel k u v) (hk : k + 5 ≤ 2563) (v1 : Int32) : wpX_kind (fun r => wpY_kind (fun r' => r' = r ∧ i_Rel (k + 5) u v) v v1) u v1 := by
  have same := i_up I
  obtain ⟨C, M, A, K, L, R, D, op, rx, ix, ry, iy, kd, lf, rg, ls, tok, st, ta, sp, re, rfl, rfl, G, hM, hA, GD, hV, hO⟩ := I
  have hC := G.1
  unfold wpX_kind wpY_kind
  dsimp only
  rcases pk_ix2 v1 (n := C) (by omega) with h1 | ⟨c, hc, rfl⟩
  · exact xq_no h1 (br_t rfl (yq_no h1 (br_f (by decide) ⟨rfl, same⟩)))
  · have hi : vp_in (nI c) 16 := vp_in_nI (by omega) (by omega)
    exact xq_yes hC hc (br_f (by decide) ⟨hi, yq_yes hC hc (br_t rfl ⟨hi, rfl, same⟩)⟩)
theorem i_vc_left {k : Nat} {u : SX} {v : SY} (I : i_Rel k u v) (hk : k + 5 ≤ 2563) (v1 : Int32) : wpX_left (fun r => wpY_left (fun r' => r' = r ∧ i_Rel (k + 5) u v) v v1) u v1 := by
  have same := i_up I
  obtain ⟨C, M, A, K, L, R, D, op, rx, ix, ry, iy, kd, lf, rg, ls, tok, st, ta, sp, re, rfl, rfl, G, hM, hA, GD, hV, hO⟩ := I
  have hC := G.1
  unfold wpX_left wpY_left
  dsimp only
  rcases pk_ix2 v1 (n := C) (by omega) with h1 | ⟨c, hc, rfl⟩
  · exact xq_no h1 (br_t rfl (yq_no h1 (br_f (by decide) ⟨rfl, same⟩)))
  · have hi : vp_in (nI c) 16 := vp_in_nI (by omega) (by omega)
    exact xq_yes hC hc (br_f (by decide) ⟨hi, yq_yes hC hc (br_t rfl ⟨hi, rfl, same⟩)⟩)
theorem i_vc_right {k : Nat} {u : SX} {v : SY} (I : i_Rel k u v) (hk : k + 5 ≤ 2563) (v1 : Int32) : wpX_right (fun r => wpY_right (fun r' => r' = r ∧ i_Rel (k + 5) u v) v v1) u v1 := by
  have same := i_up I
  obtain ⟨C, M, A, K, L, R, D, op, rx, ix, ry, iy, kd, lf, rg, ls, tok, st, ta, sp, re, rfl, rfl, G, hM, hA, GD, hV, hO⟩ := I
  have hC := G.1
  unfold wpX_right wpY_right
  dsimp only
  rcases pk_ix2 v1 (n := C) (by omega) with h1 | ⟨c, hc, rfl⟩
  · exact xq_no h1 (br_t rfl (yq_no h1 (br_f (by decide) ⟨rfl, same⟩)))
  · have hi : vp_in (nI c) 16 := vp_in_nI (by omega) (by omega)
    exact xq_yes hC hc (br_f (by decide) ⟨hi, yq_yes hC hc (br_t rfl ⟨hi, rfl, same⟩)⟩)
theorem i_vc_least {k : Nat} {u : SX} {v : SY} (I : i_Rel k u v) (hk : k + 5 ≤ 2563) (v1 : Int32) : wpX_least (fun r => wpY_least (fun r' v' => r' = r ∧ i_Rel (k + 5) u v') v v1) u v1 := by
  have same := i_up I
  obtain ⟨C, M, A, K, L, R, D, op, rx, ix, ry, iy, kd, lf, rg, ls, tok, st, ta, sp, re, rfl, rfl, G, hM, hA, GD, hV, hO⟩ := I
  have hC := G.1
  unfold wpX_least wpY_least
  dsimp only
  rcases pk_ix2 v1 (n := C) (by omega) with h1 | ⟨c, hc, rfl⟩
  · exact xq_no h1 (br_t rfl (yq_no h1 (br_f (by decide) ⟨rfl, same⟩)))
  · have hi : vp_in (nI c) 16 := vp_in_nI (by omega) (by omega)
    rw [show (nI c).toNatClampNeg = c from nI_clamp (by omega), (hV c hc).1]
    refine xq_yes hC hc (br_f (by decide) ⟨hi, xv_len (hV c hc).2 (yq_yes hC hc (br_t rfl (ye_ans G (nn := 0) (by omega) hc _ (fun sp re Dr GR => ⟨?_, ?_⟩))))⟩)
    · rw [rl_0 hC (gx_wf G) GD GR hc]
    · exact rl_mk (k + 5) G hM hA GD hV hO
theorem i_vc_open {k : Nat} {u : SX} {v : SY} (I : i_Rel k u v) (hk : k + 5 ≤ 2563) (v1 : Int32) : wpX_open (fun r u' => wpY_open (fun r' v' => r' = r ∧ i_Rel (k + 5) u' v') v v1) u v1 := by
  have same := i_up I
  obtain ⟨C, M, A, K, L, R, D, op, rx, ix, ry, iy, kd, lf, rg, ls, tok, st, ta, sp, re, rfl, rfl, G, hM, hA, GD, hV, hO⟩ := I
  have hC := G.1
  unfold wpX_open wpY_open
  dsimp only
  by_cases ho : op = 0
  · refine br_t ho ?_
    rcases pk_ix2 v1 (n := C) (by omega) with h1 | ⟨c, hc, rfl⟩
    · exact xq_no h1 (br_t rfl (br_t ho (yq_no h1 (br_f (by decide) ⟨rfl, same⟩))))
    · have hi : vp_in (nI c) 16 := vp_in_nI (by omega) (by omega)
      refine xq_yes hC hc (br_f (by decide) (xm_upto G GD hV (t := 0) (by omega) (fun c i j _ _ h => absurd h (by omega)) _ (fun st' hS => ⟨hi, ?_⟩)))
      dsimp only
      rw [show (nI c).toNatClampNeg = c from nI_clamp (by omega), (hV c hc).1]
      refine xv_for (hV c hc).2 (br_t ho (yq_yes hC hc (br_t rfl (ye_ver G (nn := 0) (by omega) hc (by decide) _ (fun sp re Dr GR => ⟨?_, ?_⟩)))))
      · rw [rl_0 hC (gx_wf G) GD GR hc]
      · exact rl_mk (k + 5) G hM hA GD hV (fun _ => ⟨c, 0, hc, by omega, rfl, rfl, rfl, rfl, hS⟩)
  · exact br_f ho (br_f ho ⟨rfl, same⟩)
theorem i_vc_close {k : Nat} {u : SX} {v : SY} (I : i_Rel k u v) (hk : k + 5 ≤ 2563) : wpX_close (fun r u' => wpY_close (fun r' v' => r' = r ∧ i_Rel (k + 5) u' v') v) u := by
  have same := i_up I
  obtain ⟨C, M, A, K, L, R, D, op, rx, ix, ry, iy, kd, lf, rg, ls, tok, st, ta, sp, re, rfl, rfl, G, hM, hA, GD, hV, hO⟩ := I
  by_cases ho : op = 0
  · exact br_t ho (br_t ho ⟨rfl, same⟩)
  · exact br_f ho (br_f ho ⟨rfl, rl_mk (k + 5) G hM hA GD hV (fun h => absurd rfl h)⟩)
theorem i_vc_root {k : Nat} {u : SX} {v : SY} (I : i_Rel k u v) (hk : k + 5 ≤ 2563) : wpX_root (fun r => wpY_root (fun r' => r' = r ∧ i_Rel (k + 5) u v) v) u := by
  have same := i_up I
  obtain ⟨C, M, A, K, L, R, D, op, rx, ix, ry, iy, kd, lf, rg, ls, tok, st, ta, sp, re, rfl, rfl, G, hM, hA, GD, hV, hO⟩ := I
  by_cases ho : op = 0
  · exact br_t ho (br_t ho ⟨rfl, same⟩)
  · obtain ⟨ro, n, hro, hn, e1, e2, e3, e4, hS⟩ := hO ho
    exact br_f ho (br_f ho ⟨e2.trans e1.symm, same⟩)
theorem i_vc_size {k : Nat} {u : SX} {v : SY} (I : i_Rel k u v) (hk : k + 5 ≤ 2563) : wpX_size (fun r => wpY_size (fun r' => r' = r ∧ i_Rel (k + 5) u v) v) u := by
  have same := i_up I
  obtain ⟨C, M, A, K, L, R, D, op, rx, ix, ry, iy, kd, lf, rg, ls, tok, st, ta, sp, re, rfl, rfl, G, hM, hA, GD, hV, hO⟩ := I
  by_cases ho : op = 0
  · exact br_t ho (br_t ho ⟨rfl, same⟩)
  · obtain ⟨ro, n, hro, hn, e1, e2, e3, e4, hS⟩ := hO ho
    exact br_f ho (br_f ho ⟨e4.trans e3.symm, same⟩)
theorem i_vc_tokenAt {k : Nat} {u : SX} {v : SY} (I : i_Rel k u v) (hk : k + 5 ≤ 2563) (v1 : Int32) : wpX_tokenAt (fun r => wpY_tokenAt (fun r' => r' = r ∧ i_Rel (k + 5) u v) v v1) u v1 := by
  have same := i_up I
  obtain ⟨C, M, A, K, L, R, D, op, rx, ix, ry, iy, kd, lf, rg, ls, tok, st, ta, sp, re, rfl, rfl, G, hM, hA, GD, hV, hO⟩ := I
  by_cases ho : op = 0
  · exact br_t ho (br_t ho ⟨rfl, same⟩)
  · obtain ⟨ro, n, hro, hn, e1, e2, e3, e4, hS⟩ := hO ho
    subst e1 e2 e3 e4
    refine br_f ho ?_
    rcases pk_ix2 v1 (n := n) (by omega) with h1 | ⟨c, hc, rfl⟩
    · exact br_c (fun z => br_f ho (br_t z ⟨rfl, same⟩)) (fun z => br_f (Int32.not_lt.mpr (h1.resolve_left z)) (br_f ho (br_f z (br_f (Int32.not_lt.mpr (h1.resolve_left z)) ⟨rfl, same⟩))))
    · have hi : vp_in (nI c) 13 := vp_in_nI (by omega) (by omega)
      have p := nI_pos (n := c) (by omega)
      have q := nI_lt hc (by omega)
      exact br_f p (br_t q ⟨hi, br_f ho (br_f p (br_t q ⟨hi, rfl, same⟩))⟩)
theorem i_vc_feed {k : Nat} {u : SX} {v : SY} (I : i_Rel k u v) (hk : k + 5 ≤ 2563) (v1 : Int32) : wpX_feed (fun r u' => wpY_feed (fun r' v' => r' = r ∧ i_Rel (k + 5) u' v') v v1) u v1 := by
  have same := i_up I
  obtain ⟨C, M, A, K, L, R, D, op, rx, ix, ry, iy, kd, lf, rg, ls, tok, st, ta, sp, re, rfl, rfl, G, hM, hA, GD, hV, hO⟩ := I
  have hC := G.1
  unfold wpX_feed wpY_feed
  dsimp only
  by_cases ho : op = 0
  · exact br_t ho (br_t ho ⟨rfl, same⟩)
  · obtain ⟨ro, n, hro, hn, e1, e2, e3, e4, hS⟩ := hO ho
    subst e1 e2 e3 e4
    refine br_f ho ?_
    rcases pk_ix2 v1 (n := A) (by omega) with h1 | ⟨c, hc, rfl⟩
    · exact xk_no h1 (br_t rfl (br_f ho (br_c (fun z => ⟨rfl, same⟩) (fun z => br_f (Int32.not_lt.mpr (h1.resolve_left z)) ⟨rfl, same⟩))))
    · refine xk_yes hA hc (br_f (by decide) ?_)
      have p := nI_pos (n := c) (by omega)
      have q := nI_lt hc (by omega)
      have hi : vp_in (nI n) 13 := vp_in_nI (by omega) (by omega)
      rw [show (nI n).toNatClampNeg = n from nI_clamp (by omega)]
      refine pk_lt n M (fun hlt => ⟨hi, nm_e (nm_r (nI_1 n) ?_)⟩) (fun hge => br_f ho (br_f p (br_t q (br_f (nI_nlt hge (by omega)) ⟨rfl, same⟩))))
      refine xm_upto G GD hV (by omega) (gx_S_tok hS) _ (fun st' hS' => ?_)
      refine xt_missing G (by omega) hro (gx_S_le hS' (by omega)) hV _ (fun ta' T h0 hT hB => ?_)
      refine xv_for hB (br_f ho (br_f p (br_t q (br_t (nI_lt hlt (by omega)) ⟨hi, nm_e (nm_r (nI_1 n) (ye_ver G (by omega) hro ho _ (fun sp re Dr GR => ⟨?_, ?_⟩)))⟩))))
      · rw [rl_n (by omega) hC (gx_wf G) GD h0 hT GR hro]
      · exact rl_mk (k + 5) G hM hA GD hV (fun _ => ⟨ro, n + 1, hro, by omega, rfl, rfl, rfl, rfl, hS'⟩)
theorem i_vc_keep {k : Nat} {u : SX} {v : SY} (I : i_Rel k u v) (hk : k + 5 ≤ 2563) (v1 : Int32) : wpX_keep (fun r u' => wpY_keep (fun r' v' => r' = r ∧ i_Rel (k + 5) u' v') v v1) u v1 := by
  have same := i_up I
  obtain ⟨C, M, A, K, L, R, D, op, rx, ix, ry, iy, kd, lf, rg, ls, tok, st, ta, sp, re, rfl, rfl, G, hM, hA, GD, hV, hO⟩ := I
  have hC := G.1
  unfold wpX_keep wpY_keep
  dsimp only
  by_cases ho : op = 0
  · exact br_t ho (br_t ho ⟨rfl, same⟩)
  · obtain ⟨ro, n, hro, hn, e1, e2, e3, e4, hS⟩ := hO ho
    subst e1 e2 e3 e4
    refine br_f ho ?_
    by_cases h1 : v1 < 0
    · exact br_t h1 (br_f ho (br_t h1 ⟨rfl, same⟩))
    · refine br_f h1 ?_
      by_cases h2 : v1 ≤ nI n
      · obtain ⟨m, hm, rfl⟩ := nI_of2 (nI_toInt (by omega)) h1 h2
        refine br_t h2 (xt_missing G (by omega) hro (gx_S_le hS (by omega)) hV _ (fun ta' T h0 hT hB => ?_))
        refine xv_for hB (br_f ho (br_f h1 (br_t h2 (ye_ver G (by omega) hro ho _ (fun sp re Dr GR => ⟨?_, ?_⟩)))))
        · rw [rl_n (by omega) hC (gx_wf G) GD h0 hT GR hro]
        · exact rl_mk (k + 5) G hM hA GD hV (fun _ => ⟨ro, m, hro, by omega, rfl, rfl, rfl, rfl, gx_S_le hS (by omega)⟩)
      · exact br_f h2 (br_f ho (br_f h1 (br_f h2 ⟨rfl, same⟩)))
theorem i_vc_verdict {k : Nat} {u : SX} {v : SY} (I : i_Rel k u v) (hk : k + 5 ≤ 2563) : wpX_verdict (fun r u' => wpY_verdict (fun r' v' => r' = r ∧ i_Rel (k + 5) u' v') v) u := by
  have same := i_up I
  obtain ⟨C, M, A, K, L, R, D, op, rx, ix, ry, iy, kd, lf, rg, ls, tok, st, ta, sp, re, rfl, rfl, G, hM, hA, GD, hV, hO⟩ := I
  have hC := G.1
  unfold wpX_verdict
  dsimp only
  by_cases ho : op = 0
  · exact br_t ho (br_t ho ⟨rfl, same⟩)
  · obtain ⟨ro, n, hro, hn, e1, e2, e3, e4, hS⟩ := hO ho
    subst e1 e2 e3 e4
    refine br_f ho (xt_missing G (by omega) hro (gx_S_le hS (by omega)) hV _ (fun ta' T h0 hT hB => ?_))
    refine xv_for hB (ye_ver G (by omega) hro ho _ (fun sp re Dr GR => ⟨?_, ?_⟩))
    · rw [rl_n (by omega) hC (gx_wf G) GD h0 hT GR hro]
    · exact rl_mk (k + 5) G hM hA GD hV (fun _ => ⟨ro, n, hro, by omega, rfl, rfl, rfl, rfl, hS⟩)
theorem i_vc_shortest {k : Nat} {u : SX} {v : SY} (I : i_Rel k u v) (hk : k + 5 ≤ 2563) : wpX_shortest (fun r u' => wpY_shortest (fun r' v' => r' = r ∧ i_Rel (k + 5) u' v') v) u := by
  have same := i_up I
  obtain ⟨C, M, A, K, L, R, D, op, rx, ix, ry, iy, kd, lf, rg, ls, tok, st, ta, sp, re, rfl, rfl, G, hM, hA, GD, hV, hO⟩ := I
  have hC := G.1
  unfold wpX_shortest wpY_shortest
  dsimp only
  by_cases ho : op = 0
  · exact br_t ho (br_t ho ⟨rfl, same⟩)
  · obtain ⟨ro, n, hro, hn, e1, e2, e3, e4, hS⟩ := hO ho
    subst e1 e2 e3 e4
    refine br_f ho (xt_missing G (by omega) hro (gx_S_le hS (by omega)) hV _ (fun ta' T h0 hT hB => ?_))
    refine xv_len hB (br_f ho (ye_ans G (by omega) hro _ (fun sp re Dr GR => ⟨?_, ?_⟩)))
    · rw [rl_n (by omega) hC (gx_wf G) GD h0 hT GR hro]
    · exact rl_mk (k + 5) G hM hA GD hV (fun _ => ⟨ro, n, hro, by omega, rfl, rfl, rfl, rfl, hS⟩)
theorem i_vc_ahead {k : Nat} {u : SX} {v : SY} (I : i_Rel k u v) (hk : k + 5 ≤ 2563) (v1 : Int32) : wpX_ahead (fun r u' => wpY_ahead (fun r' v' => r' = r ∧ i_Rel (k + 5) u' v') v v1) u v1 := by
  have same := i_up I
  obtain ⟨C, M, A, K, L, R, D, op, rx, ix, ry, iy, kd, lf, rg, ls, tok, st, ta, sp, re, rfl, rfl, G, hM, hA, GD, hV, hO⟩ := I
  have hC := G.1
  unfold wpX_ahead wpY_ahead
  dsimp only
  by_cases ho : op = 0
  · exact br_t ho (br_t ho ⟨rfl, same⟩)
  · obtain ⟨ro, n, hro, hn, e1, e2, e3, e4, hS⟩ := hO ho
    subst e1 e2 e3 e4
    refine br_f ho ?_
    rcases pk_ix2 v1 (n := A) (by omega) with h1 | ⟨c, hc, rfl⟩
    · exact xk_no h1 (br_t rfl (br_f ho (br_c (fun z => ⟨rfl, same⟩) (fun z => br_f (Int32.not_lt.mpr (h1.resolve_left z)) ⟨rfl, same⟩))))
    · refine xk_yes hA hc (br_f (by decide) ?_)
      have p := nI_pos (n := c) (by omega)
      have q := nI_lt hc (by omega)
      have hi : vp_in (nI n) 13 := vp_in_nI (by omega) (by omega)
      rw [show (nI n).toNatClampNeg = n from nI_clamp (by omega), nI_1 n]
      refine ⟨hi, nm_e (xt_missing G (by omega) hro (gx_S_tok hS) hV _ (fun ta' T h0 hT hB => ?_))⟩
      refine xv_len hB (br_f ho (br_f p (br_t q ⟨hi, nm_e (ye_ans G (by omega) hro _ (fun sp re Dr GR => ⟨?_, ?_⟩))⟩)))
      · rw [rl_n (by omega) hC (gx_wf G) GD h0 hT GR hro]
      · exact rl_mk (k + 5) G hM hA GD hV (fun _ => ⟨ro, n, hro, by omega, rfl, rfl, rfl, rfl, gx_S_tok hS⟩)
/-- r is the greatest place up to n with P, or -1 -/
def lq_is (P : Nat → Prop) (n : Nat) (r : Int32) : Prop := (∃ k, k ≤ n ∧ P k ∧ (∀ m, k < m → m ≤ n → ¬ P m) ∧ r = nI k) ∨ ((∀ m, m ≤ n → ¬ P m) ∧ r = -1)
theorem lq_u {P : Nat → Prop} {n : Nat} {r s : Int32} (h : lq_is P n r) (g : lq_is P n s) : s = r := by
  rcases h with ⟨k, h1, h2, h3, h4⟩ | ⟨h1, h2⟩
  · rcases g with ⟨j, g1, g2, g3, g4⟩ | ⟨g1, g2⟩
    · have a : ¬ k < j := fun z => h3 j z g1 g2
      have b : ¬ j < k := fun z => g3 k z h1 h2
      rw [h4, g4, show j = k from by omega]
    · exact absurd h2 (g1 k h1)
  · rcases g with ⟨j, g1, g2, g3, g4⟩ | ⟨g1, g2⟩
    · exact absurd g2 (h1 j g1)
    · rw [h2, g2]
section
variable {C : Nat} {fl ft fo fi ml al sz op : Int32} {kd lf rg ls tok st ta wd sp re : Nat → Int32}
theorem lq_x {P : Nat → Prop} {n ro : Nat} (hn : n ≤ 12) (hro : ro < 16) (hP : ∀ k, k ≤ n → (bt (st (0 * 13 + k)) ro = true ↔ P k)) (post : Int32 → Prop) (h : ∀ r, lq_is P n r → post r) :
    ∀ f k, k ≤ n + 1 → k < f → (∀ m, k ≤ m → m ≤ n → ¬ P m) → wX_longest_15 post (nI C) fl ft fo (nI ro) fi kd lf rg ls tok st ta f (nI k + (-1)) := by
  intro f
  induction f with
  | zero => intro k _ h; omega
  | succ f ih =>
    intro k hk hf hm
    cases k with
    | zero => exact br_t (by decide) (h _ (Or.inr ⟨fun m a => hm m (Nat.zero_le _) a, rfl⟩))
    | succ j =>
      rw [pk_m1]
      refine br_f (nI_pos (by omega)) (xm_at (f := 0) hro (by omega) (fun b1 => br_f (by decide) (h _ (Or.inl ⟨j, by omega, (hP j (by omega)).1 b1, fun m a b => hm m (by omega) b, rfl⟩))) (fun b0 => br_t rfl (nm_e (ih j (by omega) (by omega) (fun m a b => ?_)))))
      by_cases e : m = j
      · rw [e]
        exact fun z => bm_nt b0 ((hP j (by omega)).2 z)
      · exact hm m (by omega) b
theorem lq_y {P : Nat → Prop} {n ro : Nat} (hn : n ≤ 13) (hro : ro < 16) (hP : ∀ k, k ≤ n → (¬ sp ((ro * 14 + 0) * 14 + k) = 0 ↔ P k)) (post : Int32 → SY → Prop) (h : ∀ r, lq_is P n r → post r (nI C, ml, al, nI ro, sz, op, kd, lf, rg, wd, sp, re)) :
    ∀ f k, k ≤ n + 1 → k < f → (∀ m, k ≤ m → m ≤ n → ¬ P m) → wY_longest_23 post (nI C) ml al (nI ro) sz op kd lf rg wd sp re f (nI k + (-1)) := by
  intro f
  induction f with
  | zero => intro k _ h; omega
  | succ f ih =>
    intro k hk hf hm
    cases k with
    | zero => exact br_t (by decide) (h _ (Or.inr ⟨fun m a => hm m (Nat.zero_le _) a, rfl⟩))
    | succ j =>
      rw [pk_m1]
      refine br_f (nI_pos (by omega)) ?_
      rw [show nI ro * 196 + nI j = nI ((ro * 14 + 0) * 14 + j) from by
        rw [show nI ro * 196 = nI (ro * 196) from pk_mul ro 196, nI_add]
        exact congrArg nI (by omega), show (nI ((ro * 14 + 0) * 14 + j)).toNatClampNeg = (ro * 14 + 0) * 14 + j from nI_clamp (by omega)]
      refine ⟨vp_in_nI (by omega) (by omega), br_c (fun b0 => nm_e (ih j (by omega) (by omega) (fun m a b => ?_))) (fun b1 => h _ (Or.inl ⟨j, by omega, (hP j (by omega)).1 b1, fun m a b => hm m (by omega) b, rfl⟩))⟩
      by_cases e : m = j
      · rw [e]
        exact fun z => (hP j (by omega)).2 z b0
      · exact hm m (by omega) b
theorem lq_x2 {P : Nat → Prop} {n ro : Nat} (hn : n ≤ 12) (hro : ro < 16) (hP : ∀ k, k ≤ n → (bt (st (0 * 13 + k)) ro = true ↔ P k)) (post : Int32 → Prop) (h : ∀ r, lq_is P n r → post r) :
    wX_longest_15 post (nI C) fl ft fo (nI ro) fi kd lf rg ls tok st ta (n + 2) (nI n) := by
  have := lq_x (C := C) (fl := fl) (ft := ft) (fo := fo) (fi := fi) (kd := kd) (lf := lf) (rg := rg) (ls := ls) (tok := tok) (ta := ta) hn hro hP post h (n + 2) (n + 1) (by omega) (by omega) (fun m a b => absurd a (by omega))
  rw [pk_m1] at this
  exact this
theorem lq_y2 {P : Nat → Prop} {n ro : Nat} (hn : n ≤ 13) (hro : ro < 16) (hP : ∀ k, k ≤ n → (¬ sp ((ro * 14 + 0) * 14 + k) = 0 ↔ P k)) (post : Int32 → SY → Prop) (h : ∀ r, lq_is P n r → post r (nI C, ml, al, nI ro, sz, op, kd, lf, rg, wd, sp, re)) :
    wY_longest_23 post (nI C) ml al (nI ro) sz op kd lf rg wd sp re (n + 2) (nI n) := by
  have := lq_y hn hro hP post h (n + 2) (n + 1) (by omega) (by omega) (fun m a b => absurd a (by omega))
  rw [pk_m1] at this
  exact this
end
theorem i_vc_longest {k : Nat} {u : SX} {v : SY} (I : i_Rel k u v) (hk : k + 5 ≤ 2563) : wpX_longest (fun r => wpY_longest (fun r' v' => r' = r ∧ i_Rel (k + 5) u v') v) u := by
  have same := i_up I
  obtain ⟨C, M, A, K, L, R, D, op, rx, ix, ry, iy, kd, lf, rg, ls, tok, st, ta, sp, re, rfl, rfl, G, hM, hA, GD, hV, hO⟩ := I
  have hC := G.1
  unfold wpX_longest wpY_longest
  dsimp only
  by_cases ho : op = 0
  · exact br_t ho (br_t ho ⟨rfl, same⟩)
  · obtain ⟨ro, n, hro, hn, e1, e2, e3, e4, hS⟩ := hO ho
    subst e1 e2 e3 e4
    refine br_f ho ⟨n + 2, lq_x2 (P := fun k => gr_Sp C K L R (fun i c => tok i = lf c) ro 0 k) (by omega) (by omega) (fun k hk => hS ro 0 k hro (Nat.zero_le _) (by omega)) _ (fun r hr => ?_)⟩
    refine br_f ho (ye_all G (by omega) _ (fun sp re Dr hsp GR hVr => ⟨n + 2, lq_y2 (by omega) (by omega) (fun k hk => hsp ro 0 k hro (Nat.zero_le _) hk) _ (fun r' hr' => ⟨lq_u hr hr', ?_⟩)⟩))
    exact rl_mk (k + 5) G hM hA GD hV (fun _ => ⟨ro, n, hro, by omega, rfl, rfl, rfl, rfl, hS⟩)
end
