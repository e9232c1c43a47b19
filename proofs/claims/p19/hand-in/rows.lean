section
/-! counting, and least solutions of systems of offers (values up to B) by rounds -/
def fx_cnt (p : Nat → Bool) : Nat → Nat
  | 0 => 0
  | n + 1 => fx_cnt p n + (p n).toNat
theorem fx_tn {a b : Bool} (h : a = true → b = true) : a.toNat ≤ b.toNat := by
  cases a with
  | false => exact Nat.zero_le _
  | true => rw [h rfl]; first | done | exact Nat.le_refl _
theorem fx_cnt_mono {p q : Nat → Bool} : ∀ n, (∀ v, v < n → p v = true → q v = true) → fx_cnt p n ≤ fx_cnt q n := by
  intro n
  induction n with
  | zero => intro _; exact Nat.le_refl _
  | succ n ih =>
    intro h
    have h1 := ih (fun v hv => h v (by omega))
    have h2 := fx_tn (h n (by omega))
    show fx_cnt p n + (p n).toNat ≤ fx_cnt q n + (q n).toNat
    omega
theorem fx_cnt_lt {p q : Nat → Bool} : ∀ n, (∀ v, v < n → p v = true → q v = true) → (∃ v, v < n ∧ p v = false ∧ q v = true) → fx_cnt p n < fx_cnt q n := by
  intro n
  induction n with
  | zero => intro _ h; obtain ⟨v, hv, _⟩ := h; omega
  | succ n ih =>
    intro h hx
    obtain ⟨v, hv, hp, hq⟩ := hx
    have h1 := fx_cnt_mono n (fun v hv => h v (by omega))
    show fx_cnt p n + (p n).toNat < fx_cnt q n + (q n).toNat
    by_cases e : v = n
    · rw [e] at hp hq
      rw [hp, hq]
      show fx_cnt p n + 0 < fx_cnt q n + 1
      omega
    · have h2 := ih (fun v hv => h v (by omega)) ⟨v, by omega, hp, hq⟩
      have h3 := fx_tn (h n (by omega))
      omega
theorem fx_cnt_full {p q : Nat → Bool} {n : Nat} (h : ∀ v, v < n → p v = true → q v = true) (hc : fx_cnt q n ≤ fx_cnt p n) : ∀ v, v < n → q v = true → p v = true := by
  intro v hv hq
  cases hp : p v with
  | true => rfl
  | false => have := fx_cnt_lt n h ⟨v, hv, hp, hq⟩; omega
theorem fx_cnt_add (p : Nat → Bool) (a : Nat) : ∀ b, fx_cnt p (a + b) = fx_cnt p a + fx_cnt (fun u => p (a + u)) b := by
  intro b
  induction b with
  | zero => rfl
  | succ b ih =>
    show fx_cnt p (a + b) + (p (a + b)).toNat = fx_cnt p a + (fx_cnt (fun u => p (a + u)) b + (p (a + b)).toNat)
    omega
theorem fx_cnt_all : ∀ n, fx_cnt (fun _ => true) n = n := by
  intro n
  induction n with
  | zero => rfl
  | succ n ih => show fx_cnt (fun _ => true) n + 1 = n + 1; omega
def fx_tri (v : Nat) : Bool := decide (v / 14 % 14 ≤ v % 14)
theorem fx_tri_196 : fx_cnt fx_tri 196 = 105 := by decide +kernel
theorem fx_tri_cnt : ∀ c, fx_cnt fx_tri (c * 196) = c * 105 := by
  intro c
  induction c with
  | zero => rfl
  | succ c ih =>
    have e : (fun u => fx_tri (c * 196 + u)) = fx_tri := by
      funext u
      have h1 : (c * 196 + u) / 14 % 14 = u / 14 % 14 := by omega
      have h2 : (c * 196 + u) % 14 = u % 14 := by omega
      show decide ((c * 196 + u) / 14 % 14 ≤ (c * 196 + u) % 14) = decide (u / 14 % 14 ≤ u % 14)
      rw [h1, h2]
    rw [show (c + 1) * 196 = c * 196 + 196 from by omega, fx_cnt_add, e, ih, fx_tri_196]
    omega
section
variable {N B : Nat} {Of : (Nat → Nat) → Nat → Nat → Prop}
noncomputable def fx_F (B : Nat) (Of : (Nat → Nat) → Nat → Nat → Prop) (s : Nat → Nat) (v : Nat) : Nat :=
  Classical.choose (pk_least (fun x => x = B ∨ Of s v x) ⟨B, Or.inl rfl⟩)
theorem fx_F_spec (B : Nat) (Of : (Nat → Nat) → Nat → Nat → Prop) (s : Nat → Nat) (v : Nat) :
    (fx_F B Of s v = B ∨ Of s v (fx_F B Of s v)) ∧ ∀ j, j < fx_F B Of s v → ¬ (j = B ∨ Of s v j) :=
  Classical.choose_spec (pk_least (fun x => x = B ∨ Of s v x) ⟨B, Or.inl rfl⟩)
theorem fx_F_B (s : Nat → Nat) (v : Nat) : fx_F B Of s v ≤ B := by
  by_cases h : fx_F B Of s v ≤ B
  · exact h
  · exact absurd (Or.inl rfl) ((fx_F_spec B Of s v).2 B (by omega))
theorem fx_F_le {s : Nat → Nat} {v x : Nat} (ho : Of s v x) : fx_F B Of s v ≤ x := by
  by_cases h : fx_F B Of s v ≤ x
  · exact h
  · exact absurd (Or.inr ho) ((fx_F_spec B Of s v).2 x (by omega))
theorem fx_F_of {s : Nat → Nat} {v : Nat} (h : fx_F B Of s v < B) : Of s v (fx_F B Of s v) := by
  rcases (fx_F_spec B Of s v).1 with e | e
  · omega
  · exact e
noncomputable def fx_it (B : Nat) (Of : (Nat → Nat) → Nat → Nat → Prop) : Nat → Nat → Nat
  | 0 => fun _ => B
  | k + 1 => fun v => fx_F B Of (fx_it B Of k) v
def fx_Mono (N : Nat) (Of : (Nat → Nat) → Nat → Nat → Prop) : Prop :=
  ∀ (s t : Nat → Nat) (v x : Nat), v < N → (∀ u, u < N → t u ≤ s u) → Of s v x → ∃ y, y ≤ x ∧ Of t v y
def fx_Wit (N B : Nat) (Of : (Nat → Nat) → Nat → Nat → Prop) : Prop :=
  ∀ (D s : Nat → Nat) (v x : Nat), v < N → (∀ u, u < N → D u ≤ s u) → Of s v x → (∀ y, Of D v y → x ≤ y) → Of (fun u => if s u = D u then s u else B) v x
theorem fx_F_mono (hm : fx_Mono N Of) {s t : Nat → Nat} {v : Nat} (hv : v < N) (h : ∀ u, u < N → t u ≤ s u) : fx_F B Of t v ≤ fx_F B Of s v := by
  by_cases hB : fx_F B Of s v < B
  · obtain ⟨y, hy, oy⟩ := hm s t v _ hv h (fx_F_of hB)
    exact Nat.le_trans (fx_F_le oy) hy
  · have := fx_F_B (B := B) (Of := Of) t v
    omega
theorem fx_anti {f : Nat → Nat} (h : ∀ k, f (k + 1) ≤ f k) (k : Nat) : ∀ d, f (k + d) ≤ f k := by
  intro d
  induction d with
  | zero => exact Nat.le_refl _
  | succ d ih => exact Nat.le_trans (h (k + d)) ih
theorem fx_stab (f : Nat → Nat) (h : ∀ k, f (k + 1) ≤ f k) : ∃ K, ∀ k, K ≤ k → f k = f K := by
  obtain ⟨x, ⟨K, hK⟩, hmin⟩ := pk_least (fun x => ∃ k, f k = x) ⟨f 0, 0, rfl⟩
  refine ⟨K, fun k hk => ?_⟩
  have h1 := fx_anti h K (k - K)
  rw [show K + (k - K) = k from by omega] at h1
  by_cases h2 : f k < x
  · exact absurd ⟨k, rfl⟩ (hmin _ h2)
  · omega
theorem fx_stabN (f : Nat → Nat → Nat) : ∀ N, (∀ v, v < N → ∀ k, f (k + 1) v ≤ f k v) → ∃ K, ∀ k, K ≤ k → ∀ v, v < N → f k v = f K v := by
  intro N
  induction N with
  | zero => intro _; exact ⟨0, fun k _ v hv => absurd hv (by omega)⟩
  | succ N ih =>
    intro h
    obtain ⟨K1, h1⟩ := ih (fun v hv => h v (by omega))
    obtain ⟨K2, h2⟩ := fx_stab (fun k => f k N) (fun k => h N (by omega) k)
    refine ⟨K1 + K2, fun k hk v hv => ?_⟩
    by_cases e : v = N
    · rw [e]
      have a := h2 k (by omega)
      have b := h2 (K1 + K2) (by omega)
      rw [a, b]
    · rw [h1 k (by omega) v (by omega), h1 (K1 + K2) (by omega) v (by omega)]
def fx_Good (N B : Nat) (Of : (Nat → Nat) → Nat → Nat → Prop) (D : Nat → Nat) : Prop :=
  (∀ v, v < N → D v ≤ B) ∧ (∀ v, v < N → ∀ x, Of D v x → D v ≤ x) ∧
  (∀ p : Nat → Nat, (∀ v, v < N → p v ≤ B ∧ ∀ x, Of p v x → p v ≤ x) → ∀ v, v < N → p v ≤ D v) ∧
  (∀ s : Nat → Nat, (∀ v, v < N → D v ≤ s v ∧ s v ≤ B) → (∃ v, v < N ∧ s v ≠ D v) → ∃ v, v < N ∧ s v ≠ D v ∧ ∃ x, x ≤ D v ∧ Of s v x)
theorem fx_good (hm : fx_Mono N Of) (hw : fx_Wit N B Of) : ∃ D, fx_Good N B Of D := by
  have anti : ∀ k v, v < N → fx_it B Of (k + 1) v ≤ fx_it B Of k v := by
    intro k
    induction k with
    | zero => intro v _; exact fx_F_B _ v
    | succ k ih => intro v hv; exact fx_F_mono hm hv ih
  have anti2 : ∀ k d v, v < N → fx_it B Of (k + d) v ≤ fx_it B Of k v := fun k d v hv =>
    fx_anti (f := fun k => fx_it B Of k v) (fun k => anti k v hv) k d
  obtain ⟨K, hK⟩ := fx_stabN (fx_it B Of) N (fun v hv k => anti k v hv)
  have hB : ∀ k v, fx_it B Of k v ≤ B := by
    intro k v
    cases k with
    | zero => exact Nat.le_refl _
    | succ k => exact fx_F_B _ v
  have hF : ∀ v, v < N → fx_F B Of (fx_it B Of K) v = fx_it B Of K v := fun v hv => hK (K + 1) (by omega) v hv
  have h2 : ∀ v, v < N → ∀ x, Of (fx_it B Of K) v x → fx_it B Of K v ≤ x := by
    intro v hv x hx
    rw [← hF v hv]
    exact fx_F_le hx
  refine ⟨fx_it B Of K, fun v _ => hB K v, h2, ?_, ?_⟩
  · intro p hp
    have : ∀ k v, v < N → p v ≤ fx_it B Of k v := by
      intro k
      induction k with
      | zero => intro v hv; exact (hp v hv).1
      | succ k ih =>
        intro v hv
        show p v ≤ fx_F B Of (fx_it B Of k) v
        by_cases h : fx_F B Of (fx_it B Of k) v < B
        · obtain ⟨y, hy, oy⟩ := hm (fx_it B Of k) p v _ hv ih (fx_F_of h)
          exact Nat.le_trans ((hp v hv).2 y oy) hy
        · have := (hp v hv).1
          omega
    exact this K
  · intro s hs hx
    obtain ⟨v0, hv0, hne⟩ := hx
    obtain ⟨k, ⟨v, hv, hn, he⟩, hmin⟩ := pk_least (fun k => ∃ v, v < N ∧ s v ≠ fx_it B Of K v ∧ fx_it B Of k v = fx_it B Of K v) ⟨K, v0, hv0, hne, rfl⟩
    have hsv := hs v hv
    cases k with
    | zero =>
      have : fx_it B Of 0 v = B := rfl
      omega
    | succ j =>
      have h1 : fx_F B Of (fx_it B Of j) v = fx_it B Of K v := he
      have ho := fx_F_of (B := B) (Of := Of) (s := fx_it B Of j) (v := v) (by omega)
      rw [h1] at ho
      have hle : ∀ u, u < N → fx_it B Of K u ≤ fx_it B Of j u := by
        intro u hu
        rw [← hK (K + j) (by omega) u hu, Nat.add_comm K j]
        exact anti2 j K u hu
      have hc := hw (fx_it B Of K) (fx_it B Of j) v _ hv hle ho (fun y hy => h2 v hv y hy)
      obtain ⟨y, hy, oy⟩ := hm _ s v _ hv (fun u hu => by
        show s u ≤ if fx_it B Of j u = fx_it B Of K u then fx_it B Of j u else B
        by_cases e : fx_it B Of j u = fx_it B Of K u
        · rw [if_pos e]
          by_cases e2 : s u = fx_it B Of K u
          · omega
          · exact absurd ⟨u, hu, e2, e⟩ (hmin j (by omega))
        · rw [if_neg e]
          exact (hs u hu).2) hc
      exact ⟨v, hv, hn, y, hy, oy⟩
theorem fx_same {D E : Nat → Nat} (G : fx_Good N B Of D) (H : fx_Good N B Of E) : ∀ v, v < N → D v = E v := by
  intro v hv
  have h1 := H.2.2.1 D (fun v hv => ⟨G.1 v hv, G.2.1 v hv⟩) v hv
  have h2 := G.2.2.1 E (fun v hv => ⟨H.1 v hv, H.2.1 v hv⟩) v hv
  omega
/-- after k rounds: s between D and B, and k nodes settled (or all) -/
def fx_R (N B : Nat) (dm : Nat → Bool) (D : Nat → Nat) (k : Nat) (s : Nat → Nat) : Prop :=
  (∀ v, v < N → D v ≤ s v ∧ s v ≤ B) ∧ (k ≤ fx_cnt (fun v => dm v && decide (s v = D v)) N ∨ ∀ v, v < N → s v = D v)
def fx_In (N : Nat) (Of : (Nat → Nat) → Nat → Nat → Prop) (D s : Nat → Nat) (v : Nat) (t : Nat → Nat) : Prop :=
  (∀ u, u < N → D u ≤ t u ∧ t u ≤ s u) ∧ ∀ u, u < v → u < N → ∀ x, Of s u x → t u ≤ x
variable {D : Nat → Nat} {dm : Nat → Bool}
theorem fx_R0 (G : fx_Good N B Of D) {s : Nat → Nat} (h : ∀ v, v < N → s v = B) : fx_R N B dm D 0 s :=
  ⟨fun v hv => by rw [h v hv]; exact ⟨G.1 v hv, Nat.le_refl _⟩, Or.inl (Nat.zero_le _)⟩
theorem fx_R_ext {k : Nat} {s t : Nat → Nat} (h : fx_R N B dm D k s) (e : ∀ v, v < N → t v = s v) : fx_R N B dm D k t := by
  refine ⟨fun v hv => by rw [e v hv]; exact h.1 v hv, ?_⟩
  rcases h.2 with a | a
  · left
    refine Nat.le_trans a (fx_cnt_mono N (fun v hv => ?_))
    rw [e v hv]
    exact fun z => z
  · right
    exact fun v hv => by rw [e v hv]; exact a v hv
theorem fx_step (G : fx_Good N B Of D) (hd : ∀ s v x, v < N → Of s v x → dm v = true) {k : Nat} {s t : Nat → Nat} (hR : fx_R N B dm D k s)
    (ht : ∀ v, v < N → D v ≤ t v ∧ t v ≤ s v ∧ ∀ x, Of s v x → t v ≤ x) : fx_R N B dm D (k + 1) t := by
  have b : ∀ v, v < N → D v ≤ t v ∧ t v ≤ B := fun v hv => ⟨(ht v hv).1, Nat.le_trans (ht v hv).2.1 (hR.1 v hv).2⟩
  refine ⟨b, ?_⟩
  by_cases hs : ∀ v, v < N → s v = D v
  · right
    intro v hv
    have h1 := ht v hv
    have h2 := hs v hv
    omega
  · rcases hR.2 with hk | hk
    · left
      have hx : ∃ v, v < N ∧ s v ≠ D v := by
        by_cases h : ∃ v, v < N ∧ s v ≠ D v
        · exact h
        · exact absurd (fun v hv => Classical.byContradiction (fun z => h ⟨v, hv, z⟩)) hs
      obtain ⟨v, hv, hn, x, hx, ho⟩ := G.2.2.2 s hR.1 hx
      refine Nat.lt_of_le_of_lt hk (fx_cnt_lt N (fun u hu h => ?_) ⟨v, hv, ?_, ?_⟩)
      · have h0 := ht u hu
        rw [Bool.and_eq_true, decide_eq_true_eq] at h ⊢
        exact ⟨h.1, by omega⟩
      · rw [decide_eq_false hn, Bool.and_false]
      · have h0 := ht v hv
        have h3 := h0.2.2 x ho
        rw [Bool.and_eq_true, decide_eq_true_eq]
        exact ⟨hd s v x hv ho, by omega⟩
    · exact absurd hk hs
theorem fx_fin (G : fx_Good N B Of D) (hd : ∀ s v x, v < N → Of s v x → dm v = true) {k : Nat} {s : Nat → Nat} (hR : fx_R N B dm D k s) (hk : fx_cnt dm N ≤ k) :
    ∀ v, v < N → s v = D v := by
  rcases hR.2 with h | h
  · intro v hv
    by_cases e : s v = D v
    · exact e
    · obtain ⟨u, hu, hn, x, _, ho⟩ := G.2.2.2 s hR.1 ⟨v, hv, e⟩
      have h1 := fx_cnt_full (p := fun v => dm v && decide (s v = D v)) (q := dm) (n := N) (fun v _ h => by rw [Bool.and_eq_true] at h; exact h.1) (Nat.le_trans hk h) u hu (hd s u x hu ho)
      rw [Bool.and_eq_true, decide_eq_true_eq] at h1
      exact absurd h1.2 hn
  · exact h
theorem fx_in0 {k : Nat} {s : Nat → Nat} (h : fx_R N B dm D k s) : fx_In N Of D s 0 s :=
  ⟨fun u hu => ⟨(h.1 u hu).1, Nat.le_refl _⟩, fun u hu => absurd hu (by omega)⟩
theorem fx_in_ext {s t t' : Nat → Nat} {v : Nat} (h : fx_In N Of D s v t) (e : ∀ u, u < N → t' u = t u) : fx_In N Of D s v t' :=
  ⟨fun u hu => by rw [e u hu]; exact h.1 u hu, fun u hu hn x hx => by rw [e u hn]; exact h.2 u hu hn x hx⟩
theorem fx_in_set (G : fx_Good N B Of D) (hm : fx_Mono N Of) {s t : Nat → Nat} {v x : Nat} (h : fx_In N Of D s v t) (hv : v < N) (hx : x < t v) (ho : Of t v x) (hl : ∀ y, Of t v y → x ≤ y) :
    fx_In N Of D s (v + 1) (fun u => if u = v then x else t u) := by
  constructor
  · intro u hu
    dsimp only
    by_cases e : u = v
    · rw [if_pos e, e]
      obtain ⟨y, hy, oy⟩ := hm t D v x hv (fun u hu => (h.1 u hu).1) ho
      have h1 := G.2.1 v hv y oy
      have h2 := h.1 v hv
      omega
    · rw [if_neg e]
      exact h.1 u hu
  · intro u hu hn z hz
    dsimp only
    by_cases e : u = v
    · rw [if_pos e]
      rw [e] at hz
      obtain ⟨y, hy, oy⟩ := hm s t v z hv (fun u hu => (h.1 u hu).2) hz
      exact Nat.le_trans (hl y oy) hy
    · rw [if_neg e]
      exact h.2 u (by omega) hn z hz
theorem fx_in_skip (hm : fx_Mono N Of) {s t : Nat → Nat} {v : Nat} (h : fx_In N Of D s v t) (hl : ∀ y, Of t v y → t v ≤ y) : fx_In N Of D s (v + 1) t := by
  refine ⟨h.1, fun u hu hn z hz => ?_⟩
  by_cases e : u = v
  · rw [e] at hz hn ⊢
    obtain ⟨y, hy, oy⟩ := hm s t v z hn (fun u hu => (h.1 u hu).2) hz
    exact Nat.le_trans (hl y oy) hy
  · exact h.2 u (by omega) hn z hz
theorem fx_in_gap {s t : Nat → Nat} {v w : Nat} (h : fx_In N Of D s v t) (hg : ∀ u, v ≤ u → u < w → ∀ x, ¬ Of s u x) : fx_In N Of D s w t := by
  refine ⟨h.1, fun u hu hn z hz => ?_⟩
  by_cases e : u < v
  · exact h.2 u e hn z hz
  · exact absurd hz (hg u (by omega) hu z)
theorem fx_in_end (G : fx_Good N B Of D) (hd : ∀ s v x, v < N → Of s v x → dm v = true) {k : Nat} {s t : Nat → Nat} (hR : fx_R N B dm D k s) (h : fx_In N Of D s N t) : fx_R N B dm D (k + 1) t :=
  fx_step G hd hR (fun v hv => ⟨(h.1 v hv).1, (h.1 v hv).2, h.2 v hv hv⟩)
theorem fx_in_stop (G : fx_Good N B Of D) {k : Nat} {s t : Nat → Nat} (hR : fx_R N B dm D k s) (h : fx_In N Of D s N t) (e : ∀ u, u < N → t u = s u) : ∀ u, u < N → t u = D u := by
  have h1 := G.2.2.1 s (fun v hv => ⟨(hR.1 v hv).2, fun x hx => by rw [← e v hv]; exact h.2 v hv hv x hx⟩)
  intro u hu
  have := h1 u hu
  have := h.1 u hu
  have := e u hu
  omega
end
end
section
/-! the languages on stretches of a word (gr_Sp), and the systems of offers of both sides -/
noncomputable def gr_ind (P : Prop) : Nat := @ite Nat P (Classical.propDecidable P) 0 1
theorem gr_ind_t {P : Prop} (h : P) : gr_ind P = 0 := by
  unfold gr_ind
  exact if_pos h
theorem gr_ind_f {P : Prop} (h : ¬ P) : gr_ind P = 1 := by
  unfold gr_ind
  exact if_neg h
theorem gr_ind_0 {P : Prop} (h : gr_ind P = 0) : P := by
  by_cases hp : P
  · exact hp
  · rw [gr_ind_f hp] at h
    omega
theorem gr_ind_1 (P : Prop) : gr_ind P ≤ 1 := by
  by_cases hp : P
  · rw [gr_ind_t hp]; omega
  · rw [gr_ind_f hp]; omega
theorem gr_ind_m {P Q : Prop} (h : Q → P) : gr_ind P ≤ gr_ind Q := by
  by_cases hq : Q
  · rw [gr_ind_t (h hq)]; omega
  · rw [gr_ind_f hq]; exact gr_ind_1 P
theorem gr_ind_a {P Q R : Prop} (h : Q → R → P) : gr_ind P ≤ gr_ind Q + gr_ind R := by
  by_cases hq : Q
  · by_cases hr : R
    · rw [gr_ind_t (h hq hr)]; omega
    · have := gr_ind_1 P
      rw [gr_ind_f hr]; omega
  · have := gr_ind_1 P
    rw [gr_ind_f hq]; omega
section
variable (C : Nat) (K L R : Nat → Nat) (tk : Nat → Nat → Prop)
def gr_wf : Prop := ∀ c, c < C → (K c = 3 ∨ K c = 4) → L c < C ∧ R c < C
def gr_cl (P : Nat → Nat → Nat → Prop) : Prop :=
  ∀ c i j, c < C → i ≤ j → ((K c = 1 ∧ i = j) ∨ (K c = 2 ∧ j = i + 1 ∧ tk i c) ∨ (K c = 3 ∧ (P (L c) i j ∨ P (R c) i j)) ∨
    (K c = 4 ∧ ∃ k, i ≤ k ∧ k ≤ j ∧ P (L c) i k ∧ P (R c) k j)) → P c i j
def gr_Sp (c i j : Nat) : Prop := ∀ P, gr_cl C K L R tk P → P c i j
/-- the least lengths -/
def of_L (s : Nat → Nat) (c x : Nat) : Prop :=
  (K c = 1 ∧ x = 0) ∨ (K c = 2 ∧ x = 1) ∨ (K c = 3 ∧ (x = s (L c) ∨ x = s (R c))) ∨ (K c = 4 ∧ x = s (L c) + s (R c))
/-- one stretch f .. t of the component: 0 for a word -/
def of_M (Mt : Nat → Nat → Nat → Prop) (f t : Nat) (s : Nat → Nat) (c x : Nat) : Prop :=
  x = 0 ∧ ((K c = 2 ∧ f + 1 = t ∧ tk f c) ∨ (K c = 3 ∧ (s (L c) = 0 ∨ s (R c) = 0)) ∨
    (K c = 4 ∧ ∃ k, f ≤ k ∧ k ≤ t ∧ ((k = t ∧ s (L c) = 0) ∨ (k ≠ t ∧ Mt (L c) f k)) ∧ ((k = f ∧ s (R c) = 0) ∨ (k ≠ f ∧ Mt (R c) k t))))
/-- one row of tails of the component -/
def of_T (Mt : Nat → Nat → Nat → Prop) (Ls : Nat → Nat) (T : Nat → Nat → Nat) (f e : Nat) (s : Nat → Nat) (c x : Nat) : Prop :=
  (K c = 2 ∧ f + 1 = e ∧ tk f c ∧ x = 0) ∨ (K c = 3 ∧ (x = s (L c) ∨ x = s (R c))) ∨
    (K c = 4 ∧ (x = s (L c) + Ls (R c) ∨ (Mt (L c) f f ∧ x = s (R c)) ∨ ∃ k, f < k ∧ k < e ∧ Mt (L c) f k ∧ x = T k (R c)))
/-- the reference's spans -/
def of_S (n : Nat) (s : Nat → Nat) (v x : Nat) : Prop :=
  ∃ c i j, v = (c * 14 + i) * 14 + j ∧ c < C ∧ i ≤ j ∧ j ≤ n ∧ x = 0 ∧
    ((K c = 1 ∧ i = j) ∨ (K c = 2 ∧ j = i + 1 ∧ tk i c) ∨ (K c = 3 ∧ (s ((L c * 14 + i) * 14 + j) = 0 ∨ s ((R c * 14 + i) * 14 + j) = 0)) ∨
      (K c = 4 ∧ ∃ k, i ≤ k ∧ k ≤ j ∧ s ((L c * 14 + i) * 14 + k) = 0 ∧ s ((R c * 14 + k) * 14 + j) = 0))
/-- the reference's rests -/
def of_R (Mt : Nat → Nat → Nat → Prop) (n : Nat) (s : Nat → Nat) (v x : Nat) : Prop :=
  ∃ c i, v = c * 14 + i ∧ c < C ∧ i ≤ n ∧
    ((K c = 1 ∧ i = n ∧ x = 0) ∨ (K c = 2 ∧ i = n ∧ x = 1) ∨ (K c = 2 ∧ i + 1 = n ∧ tk i c ∧ x = 0) ∨
      (K c = 3 ∧ (x = s (L c * 14 + i) ∨ x = s (R c * 14 + i))) ∨
      (K c = 4 ∧ (x = s (L c * 14 + i) + s (R c * 14 + n) ∨ ∃ k, i ≤ k ∧ k ≤ n ∧ Mt (L c) i k ∧ x = s (R c * 14 + k))))
end
section
variable {C : Nat} {K L R : Nat → Nat} {tk tk' : Nat → Nat → Prop}
theorem gr_sp_cl : gr_cl C K L R tk (gr_Sp C K L R tk) := by
  intro c i j hc hij h P hP
  refine hP c i j hc hij ?_
  rcases h with h | h | ⟨k, h | h⟩ | ⟨h0, k, h1, h2, h3, h4⟩
  · exact Or.inl h
  · exact Or.inr (Or.inl h)
  · exact Or.inr (Or.inr (Or.inl ⟨k, Or.inl (h P hP)⟩))
  · exact Or.inr (Or.inr (Or.inl ⟨k, Or.inr (h P hP)⟩))
  · exact Or.inr (Or.inr (Or.inr ⟨h0, k, h1, h2, h3 P hP, h4 P hP⟩))
theorem gr_sp_ext {c i j : Nat} (h : gr_Sp C K L R tk c i j) (e : ∀ t, i ≤ t → t < j → ∀ c, tk t c → tk' t c) : gr_Sp C K L R tk' c i j := by
  refine h (fun c i j => (∀ t, i ≤ t → t < j → ∀ c, tk t c → tk' t c) → gr_Sp C K L R tk' c i j) ?_ e
  intro c i j hc hij h e
  refine gr_sp_cl c i j hc hij ?_
  rcases h with h | ⟨h1, h2, h3⟩ | ⟨k, h | h⟩ | ⟨h0, k, h1, h2, h3, h4⟩
  · exact Or.inl h
  · exact Or.inr (Or.inl ⟨h1, h2, e i (Nat.le_refl _) (by omega) c h3⟩)
  · exact Or.inr (Or.inr (Or.inl ⟨k, Or.inl (h e)⟩))
  · exact Or.inr (Or.inr (Or.inl ⟨k, Or.inr (h e)⟩))
  · exact Or.inr (Or.inr (Or.inr ⟨h0, k, h1, h2, h3 (fun t a b => e t a (by omega)), h4 (fun t a b => e t (by omega) b)⟩))
theorem gr_sp_iff {c i j : Nat} (e : ∀ t, i ≤ t → t < j → ∀ c, tk t c ↔ tk' t c) : gr_Sp C K L R tk c i j ↔ gr_Sp C K L R tk' c i j :=
  ⟨fun h => gr_sp_ext h (fun t a b c => (e t a b c).1), fun h => gr_sp_ext h (fun t a b c => (e t a b c).2)⟩
/-! each system is monotone and has witnesses -/
theorem of_L_m (wf : gr_wf C K L R) : fx_Mono C (of_L K L R) := by
  intro s t c x hc hts h
  rcases h with ⟨k, h⟩ | ⟨k, h⟩ | ⟨k, h | h⟩ | ⟨k, h⟩
  · exact ⟨x, Nat.le_refl _, Or.inl ⟨k, h⟩⟩
  · exact ⟨x, Nat.le_refl _, Or.inr (Or.inl ⟨k, h⟩)⟩
  · exact ⟨t (L c), by rw [h]; exact hts _ (wf c hc (Or.inl k)).1, Or.inr (Or.inr (Or.inl ⟨k, Or.inl rfl⟩))⟩
  · exact ⟨t (R c), by rw [h]; exact hts _ (wf c hc (Or.inl k)).2, Or.inr (Or.inr (Or.inl ⟨k, Or.inr rfl⟩))⟩
  · have h1 := hts _ (wf c hc (Or.inr k)).1
    have h2 := hts _ (wf c hc (Or.inr k)).2
    exact ⟨t (L c) + t (R c), by omega, Or.inr (Or.inr (Or.inr ⟨k, rfl⟩))⟩
theorem of_L_w (B : Nat) (wf : gr_wf C K L R) : fx_Wit C B (of_L K L R) := by
  intro D s c x hc hD h hy
  rcases h with ⟨k, h⟩ | ⟨k, h⟩ | ⟨k, h | h⟩ | ⟨k, h⟩
  · exact Or.inl ⟨k, h⟩
  · exact Or.inr (Or.inl ⟨k, h⟩)
  · have h1 := hD _ (wf c hc (Or.inl k)).1
    have h2 := hy _ (Or.inr (Or.inr (Or.inl ⟨k, Or.inl rfl⟩)))
    have e : s (L c) = D (L c) := by omega
    exact Or.inr (Or.inr (Or.inl ⟨k, Or.inl (h.trans (if_pos e).symm)⟩))
  · have h1 := hD _ (wf c hc (Or.inl k)).2
    have h2 := hy _ (Or.inr (Or.inr (Or.inl ⟨k, Or.inr rfl⟩)))
    have e : s (R c) = D (R c) := by omega
    exact Or.inr (Or.inr (Or.inl ⟨k, Or.inr (h.trans (if_pos e).symm)⟩))
  · have h1 := hD _ (wf c hc (Or.inr k)).1
    have h2 := hD _ (wf c hc (Or.inr k)).2
    have h3 := hy _ (Or.inr (Or.inr (Or.inr ⟨k, rfl⟩)))
    have e1 : s (L c) = D (L c) := by omega
    have e2 : s (R c) = D (R c) := by omega
    refine Or.inr (Or.inr (Or.inr ⟨k, ?_⟩))
    show x = (if s (L c) = D (L c) then s (L c) else B) + (if s (R c) = D (R c) then s (R c) else B)
    rw [if_pos e1, if_pos e2, h]
theorem of_M_m (Mt : Nat → Nat → Nat → Prop) (f t : Nat) (wf : gr_wf C K L R) : fx_Mono C (of_M K L R tk Mt f t) := by
  intro s u c x hc hts h
  obtain ⟨h0, h⟩ := h
  refine ⟨x, Nat.le_refl _, h0, ?_⟩
  have z : ∀ a, a < C → s a = 0 → u a = 0 := fun a ha e => by have := hts a ha; omega
  rcases h with h | ⟨k, h | h⟩ | ⟨k, m, h1, h2, h3, h4⟩
  · exact Or.inl h
  · exact Or.inr (Or.inl ⟨k, Or.inl (z _ (wf c hc (Or.inl k)).1 h)⟩)
  · exact Or.inr (Or.inl ⟨k, Or.inr (z _ (wf c hc (Or.inl k)).2 h)⟩)
  · refine Or.inr (Or.inr ⟨k, m, h1, h2, ?_, ?_⟩)
    · rcases h3 with ⟨a, b⟩ | h3
      · exact Or.inl ⟨a, z _ (wf c hc (Or.inr k)).1 b⟩
      · exact Or.inr h3
    · rcases h4 with ⟨a, b⟩ | h4
      · exact Or.inl ⟨a, z _ (wf c hc (Or.inr k)).2 b⟩
      · exact Or.inr h4
theorem of_M_w (B : Nat) (Mt : Nat → Nat → Nat → Prop) (f t : Nat) (wf : gr_wf C K L R) : fx_Wit C B (of_M K L R tk Mt f t) := by
  intro D s c x hc hD h _
  obtain ⟨h0, h⟩ := h
  refine ⟨h0, ?_⟩
  have z : ∀ a, a < C → s a = 0 → (if s a = D a then s a else B) = 0 := fun a ha e => by
    have := hD a ha
    rw [if_pos (by omega)]
    exact e
  rcases h with h | ⟨k, h | h⟩ | ⟨k, m, h1, h2, h3, h4⟩
  · exact Or.inl h
  · exact Or.inr (Or.inl ⟨k, Or.inl (z _ (wf c hc (Or.inl k)).1 h)⟩)
  · exact Or.inr (Or.inl ⟨k, Or.inr (z _ (wf c hc (Or.inl k)).2 h)⟩)
  · refine Or.inr (Or.inr ⟨k, m, h1, h2, ?_, ?_⟩)
    · rcases h3 with ⟨a, b⟩ | h3
      · exact Or.inl ⟨a, z _ (wf c hc (Or.inr k)).1 b⟩
      · exact Or.inr h3
    · rcases h4 with ⟨a, b⟩ | h4
      · exact Or.inl ⟨a, z _ (wf c hc (Or.inr k)).2 b⟩
      · exact Or.inr h4
theorem of_T_m (Mt : Nat → Nat → Nat → Prop) (Ls : Nat → Nat) (T : Nat → Nat → Nat) (f e : Nat) (wf : gr_wf C K L R) : fx_Mono C (of_T K L R tk Mt Ls T f e) := by
  intro s t c x hc hts h
  rcases h with h | ⟨k, h | h⟩ | ⟨k, h | ⟨h1, h2⟩ | h⟩
  · exact ⟨x, Nat.le_refl _, Or.inl h⟩
  · exact ⟨t (L c), by rw [h]; exact hts _ (wf c hc (Or.inl k)).1, Or.inr (Or.inl ⟨k, Or.inl rfl⟩)⟩
  · exact ⟨t (R c), by rw [h]; exact hts _ (wf c hc (Or.inl k)).2, Or.inr (Or.inl ⟨k, Or.inr rfl⟩)⟩
  · have h1 := hts _ (wf c hc (Or.inr k)).1
    exact ⟨t (L c) + Ls (R c), by omega, Or.inr (Or.inr ⟨k, Or.inl rfl⟩)⟩
  · exact ⟨t (R c), by rw [h2]; exact hts _ (wf c hc (Or.inr k)).2, Or.inr (Or.inr ⟨k, Or.inr (Or.inl ⟨h1, rfl⟩)⟩)⟩
  · exact ⟨x, Nat.le_refl _, Or.inr (Or.inr ⟨k, Or.inr (Or.inr h)⟩)⟩
theorem of_T_w (B : Nat) (Mt : Nat → Nat → Nat → Prop) (Ls : Nat → Nat) (T : Nat → Nat → Nat) (f e : Nat) (wf : gr_wf C K L R) : fx_Wit C B (of_T K L R tk Mt Ls T f e) := by
  intro D s c x hc hD h hy
  rcases h with h | ⟨k, h | h⟩ | ⟨k, h | ⟨h1, h2⟩ | h⟩
  · exact Or.inl h
  · have h1 := hD _ (wf c hc (Or.inl k)).1
    have h2 := hy _ (Or.inr (Or.inl ⟨k, Or.inl rfl⟩))
    have e : s (L c) = D (L c) := by omega
    exact Or.inr (Or.inl ⟨k, Or.inl (h.trans (if_pos e).symm)⟩)
  · have h1 := hD _ (wf c hc (Or.inl k)).2
    have h2 := hy _ (Or.inr (Or.inl ⟨k, Or.inr rfl⟩))
    have e : s (R c) = D (R c) := by omega
    exact Or.inr (Or.inl ⟨k, Or.inr (h.trans (if_pos e).symm)⟩)
  · have h1 := hD _ (wf c hc (Or.inr k)).1
    have h2 := hy _ (Or.inr (Or.inr ⟨k, Or.inl rfl⟩))
    have e : s (L c) = D (L c) := by omega
    refine Or.inr (Or.inr ⟨k, Or.inl ?_⟩)
    show x = (if s (L c) = D (L c) then s (L c) else B) + Ls (R c)
    rw [if_pos e, h]
  · have h3 := hD _ (wf c hc (Or.inr k)).2
    have h4 := hy _ (Or.inr (Or.inr ⟨k, Or.inr (Or.inl ⟨h1, rfl⟩)⟩))
    have e : s (R c) = D (R c) := by omega
    exact Or.inr (Or.inr ⟨k, Or.inr (Or.inl ⟨h1, h2.trans (if_pos e).symm⟩)⟩)
  · exact Or.inr (Or.inr ⟨k, Or.inr (Or.inr h)⟩)
theorem of_S_m {N n : Nat} (hn : n ≤ 13) (hN : C * 196 ≤ N) (wf : gr_wf C K L R) : fx_Mono N (of_S C K L R tk n) := by
  intro s u v x hv hts h
  obtain ⟨c, i, j, e, hc, hi, hj, h0, h⟩ := h
  refine ⟨x, Nat.le_refl _, c, i, j, e, hc, hi, hj, h0, ?_⟩
  have z : ∀ a p q, a < C → p ≤ 13 → q ≤ 13 → s ((a * 14 + p) * 14 + q) = 0 → u ((a * 14 + p) * 14 + q) = 0 := fun a p q ha hp hq e => by
    have := hts ((a * 14 + p) * 14 + q) (by omega)
    omega
  rcases h with h | h | ⟨k, h | h⟩ | ⟨k, m, h1, h2, h3, h4⟩
  · exact Or.inl h
  · exact Or.inr (Or.inl h)
  · exact Or.inr (Or.inr (Or.inl ⟨k, Or.inl (z _ _ _ (wf c hc (Or.inl k)).1 (by omega) (by omega) h)⟩))
  · exact Or.inr (Or.inr (Or.inl ⟨k, Or.inr (z _ _ _ (wf c hc (Or.inl k)).2 (by omega) (by omega) h)⟩))
  · exact Or.inr (Or.inr (Or.inr ⟨k, m, h1, h2, z _ _ _ (wf c hc (Or.inr k)).1 (by omega) (by omega) h3, z _ _ _ (wf c hc (Or.inr k)).2 (by omega) (by omega) h4⟩))
theorem of_S_w {N n : Nat} (B : Nat) (hn : n ≤ 13) (hN : C * 196 ≤ N) (wf : gr_wf C K L R) : fx_Wit N B (of_S C K L R tk n) := by
  intro D s v x hv hD h _
  obtain ⟨c, i, j, e, hc, hi, hj, h0, h⟩ := h
  refine ⟨c, i, j, e, hc, hi, hj, h0, ?_⟩
  have z : ∀ a p q, a < C → p ≤ 13 → q ≤ 13 → s ((a * 14 + p) * 14 + q) = 0 →
      (if s ((a * 14 + p) * 14 + q) = D ((a * 14 + p) * 14 + q) then s ((a * 14 + p) * 14 + q) else B) = 0 := fun a p q ha hp hq e => by
    have := hD ((a * 14 + p) * 14 + q) (by omega)
    rw [if_pos (by omega)]
    exact e
  rcases h with h | h | ⟨k, h | h⟩ | ⟨k, m, h1, h2, h3, h4⟩
  · exact Or.inl h
  · exact Or.inr (Or.inl h)
  · exact Or.inr (Or.inr (Or.inl ⟨k, Or.inl (z _ _ _ (wf c hc (Or.inl k)).1 (by omega) (by omega) h)⟩))
  · exact Or.inr (Or.inr (Or.inl ⟨k, Or.inr (z _ _ _ (wf c hc (Or.inl k)).2 (by omega) (by omega) h)⟩))
  · exact Or.inr (Or.inr (Or.inr ⟨k, m, h1, h2, z _ _ _ (wf c hc (Or.inr k)).1 (by omega) (by omega) h3, z _ _ _ (wf c hc (Or.inr k)).2 (by omega) (by omega) h4⟩))
theorem of_R_m {N n : Nat} (Mt : Nat → Nat → Nat → Prop) (hn : n ≤ 13) (hN : C * 14 ≤ N) (wf : gr_wf C K L R) : fx_Mono N (of_R C K L R tk Mt n) := by
  intro s u v x hv hts h
  obtain ⟨c, i, e, hc, hi, h⟩ := h
  have z : ∀ a p, a < C → p ≤ 13 → u (a * 14 + p) ≤ s (a * 14 + p) := fun a p ha hp => hts _ (by omega)
  rcases h with h | h | h | ⟨k, h | h⟩ | ⟨k, h | ⟨m, h1, h2, h3, h4⟩⟩
  · exact ⟨x, Nat.le_refl _, c, i, e, hc, hi, Or.inl h⟩
  · exact ⟨x, Nat.le_refl _, c, i, e, hc, hi, Or.inr (Or.inl h)⟩
  · exact ⟨x, Nat.le_refl _, c, i, e, hc, hi, Or.inr (Or.inr (Or.inl h))⟩
  · exact ⟨_, by rw [h]; exact z _ _ (wf c hc (Or.inl k)).1 (by omega), c, i, e, hc, hi, Or.inr (Or.inr (Or.inr (Or.inl ⟨k, Or.inl rfl⟩)))⟩
  · exact ⟨_, by rw [h]; exact z _ _ (wf c hc (Or.inl k)).2 (by omega), c, i, e, hc, hi, Or.inr (Or.inr (Or.inr (Or.inl ⟨k, Or.inr rfl⟩)))⟩
  · have h1 := z _ i (wf c hc (Or.inr k)).1 (by omega)
    have h2 := z _ n (wf c hc (Or.inr k)).2 (by omega)
    exact ⟨u (L c * 14 + i) + u (R c * 14 + n), by omega, c, i, e, hc, hi, Or.inr (Or.inr (Or.inr (Or.inr ⟨k, Or.inl rfl⟩)))⟩
  · exact ⟨u (R c * 14 + m), by rw [h4]; exact z _ _ (wf c hc (Or.inr k)).2 (by omega), c, i, e, hc, hi, Or.inr (Or.inr (Or.inr (Or.inr ⟨k, Or.inr ⟨m, h1, h2, h3, rfl⟩⟩)))⟩
theorem of_R_w {N n : Nat} (B : Nat) (Mt : Nat → Nat → Nat → Prop) (hn : n ≤ 13) (hN : C * 14 ≤ N) (wf : gr_wf C K L R) : fx_Wit N B (of_R C K L R tk Mt n) := by
  intro D s v x hv hD h hy
  obtain ⟨c, i, e, hc, hi, h⟩ := h
  have z : ∀ a p, a < C → p ≤ 13 → D (a * 14 + p) ≤ s (a * 14 + p) := fun a p ha hp => hD _ (by omega)
  refine ⟨c, i, e, hc, hi, ?_⟩
  rcases h with h | h | h | ⟨k, h | h⟩ | ⟨k, h | ⟨m, h1, h2, h3, h4⟩⟩
  · exact Or.inl h
  · exact Or.inr (Or.inl h)
  · exact Or.inr (Or.inr (Or.inl h))
  · have h1 := z _ i (wf c hc (Or.inl k)).1 (by omega)
    have h2 := hy _ ⟨c, i, e, hc, hi, Or.inr (Or.inr (Or.inr (Or.inl ⟨k, Or.inl rfl⟩)))⟩
    have e : s (L c * 14 + i) = D (L c * 14 + i) := by omega
    exact Or.inr (Or.inr (Or.inr (Or.inl ⟨k, Or.inl (h.trans (if_pos e).symm)⟩)))
  · have h1 := z _ i (wf c hc (Or.inl k)).2 (by omega)
    have h2 := hy _ ⟨c, i, e, hc, hi, Or.inr (Or.inr (Or.inr (Or.inl ⟨k, Or.inr rfl⟩)))⟩
    have e : s (R c * 14 + i) = D (R c * 14 + i) := by omega
    exact Or.inr (Or.inr (Or.inr (Or.inl ⟨k, Or.inr (h.trans (if_pos e).symm)⟩)))
  · have h1 := z _ i (wf c hc (Or.inr k)).1 (by omega)
    have h2 := z _ n (wf c hc (Or.inr k)).2 (by omega)
    have h3 := hy _ ⟨c, i, e, hc, hi, Or.inr (Or.inr (Or.inr (Or.inr ⟨k, Or.inl rfl⟩)))⟩
    have e1 : s (L c * 14 + i) = D (L c * 14 + i) := by omega
    have e2 : s (R c * 14 + n) = D (R c * 14 + n) := by omega
    refine Or.inr (Or.inr (Or.inr (Or.inr ⟨k, Or.inl ?_⟩)))
    show x = (if s (L c * 14 + i) = D (L c * 14 + i) then s (L c * 14 + i) else B) + (if s (R c * 14 + n) = D (R c * 14 + n) then s (R c * 14 + n) else B)
    rw [if_pos e1, if_pos e2, h]
  · have h5 := z _ m (wf c hc (Or.inr k)).2 (by omega)
    have h6 := hy _ ⟨c, i, e, hc, hi, Or.inr (Or.inr (Or.inr (Or.inr ⟨k, Or.inr ⟨m, h1, h2, h3, rfl⟩⟩)))⟩
    have e : s (R c * 14 + m) = D (R c * 14 + m) := by omega
    exact Or.inr (Or.inr (Or.inr (Or.inr ⟨k, Or.inr ⟨m, h1, h2, h3, h4.trans (if_pos e).symm⟩⟩)))
end
end
section
/-! what the systems' solutions say, and that both sides' tails are the same -/
section
variable {C : Nat} {K L R : Nat → Nat} {tk : Nat → Nat → Prop}
theorem gr_null {B : Nat} {Ls : Nat → Nat} (hB : 1 ≤ B) (wf : gr_wf C K L R) (G : fx_Good C B (of_L K L R) Ls) {c : Nat} (hc : c < C) (i : Nat) : Ls c = 0 ↔ gr_Sp C K L R tk c i i := by
  constructor
  · intro h
    have h1 := G.2.2.1 (fun c => gr_ind (gr_Sp C K L R tk c i i)) (fun c hc => ⟨Nat.le_trans (gr_ind_1 _) hB, fun x hx => by
      try dsimp only at hx ⊢
      rcases hx with ⟨k, hx⟩ | ⟨k, hx⟩ | ⟨k, hx | hx⟩ | ⟨k, hx⟩
      · rw [gr_ind_t (gr_sp_cl c i i hc (Nat.le_refl _) (Or.inl ⟨k, rfl⟩))]
        omega
      · rw [hx]; exact gr_ind_1 _
      · rw [hx]
        exact gr_ind_m (fun z => gr_sp_cl c i i hc (Nat.le_refl _) (Or.inr (Or.inr (Or.inl ⟨k, Or.inl z⟩))))
      · rw [hx]
        exact gr_ind_m (fun z => gr_sp_cl c i i hc (Nat.le_refl _) (Or.inr (Or.inr (Or.inl ⟨k, Or.inr z⟩))))
      · rw [hx]
        exact gr_ind_a (fun y z => gr_sp_cl c i i hc (Nat.le_refl _) (Or.inr (Or.inr (Or.inr ⟨k, i, Nat.le_refl _, Nat.le_refl _, y, z⟩))))⟩) c hc
    try dsimp only at h1
    exact gr_ind_0 (by omega)
  · intro h
    refine h (fun c i j => i = j → Ls c = 0) ?_ rfl
    intro c i j hc hij h e
    subst e
    rcases h with ⟨k, _⟩ | ⟨_, h, _⟩ | ⟨k, h | h⟩ | ⟨k, m, h1, h2, h3, h4⟩
    · have := G.2.1 c hc 0 (Or.inl ⟨k, rfl⟩); omega
    · omega
    · have := G.2.1 c hc _ (Or.inr (Or.inr (Or.inl ⟨k, Or.inl rfl⟩))); have := h rfl; omega
    · have := G.2.1 c hc _ (Or.inr (Or.inr (Or.inl ⟨k, Or.inr rfl⟩))); have := h rfl; omega
    · have := G.2.1 c hc _ (Or.inr (Or.inr (Or.inr ⟨k, rfl⟩)))
      have := h3 (by omega)
      have := h4 (by omega)
      omega
theorem gr_mask {Mt : Nat → Nat → Nat → Prop} {f t : Nat} {D : Nat → Nat} (wf : gr_wf C K L R) (G : fx_Good C 1 (of_M K L R tk Mt f t) D) (hft : f < t)
    (hl : ∀ l k, l < C → f ≤ k → k < t → (Mt l f k ↔ gr_Sp C K L R tk l f k)) (hr : ∀ r k, r < C → f < k → k ≤ t → (Mt r k t ↔ gr_Sp C K L R tk r k t))
    {c : Nat} (hc : c < C) : D c = 0 ↔ gr_Sp C K L R tk c f t := by
  constructor
  · intro h
    have h1 := G.2.2.1 (fun c => gr_ind (gr_Sp C K L R tk c f t)) (fun c hc => ⟨gr_ind_1 _, fun x hx => by
      try dsimp only at hx ⊢
      obtain ⟨h0, hx⟩ := hx
      rw [h0]
      refine Nat.le_of_eq (gr_ind_t (gr_sp_cl c f t hc (by omega) ?_))
      rcases hx with ⟨k, h1, h2⟩ | ⟨k, hx | hx⟩ | ⟨k, m, h1, h2, h3, h4⟩
      · exact Or.inr (Or.inl ⟨k, h1.symm, h2⟩)
      · exact Or.inr (Or.inr (Or.inl ⟨k, Or.inl (gr_ind_0 hx)⟩))
      · exact Or.inr (Or.inr (Or.inl ⟨k, Or.inr (gr_ind_0 hx)⟩))
      · refine Or.inr (Or.inr (Or.inr ⟨k, m, h1, h2, ?_, ?_⟩))
        · rcases h3 with ⟨a, b⟩ | ⟨a, b⟩
          · rw [a]; exact gr_ind_0 b
          · exact (hl _ m (wf c hc (Or.inr k)).1 h1 (by omega)).1 b
        · rcases h4 with ⟨a, b⟩ | ⟨a, b⟩
          · rw [a]; exact gr_ind_0 b
          · exact (hr _ m (wf c hc (Or.inr k)).2 (by omega) h2).1 b⟩) c hc
    try dsimp only at h1
    exact gr_ind_0 (by omega)
  · intro h
    refine (h (fun c i j => gr_Sp C K L R tk c i j ∧ (i = f → j = t → D c = 0)) ?_).2 rfl rfl
    intro c i j hc hij h
    constructor
    · refine gr_sp_cl c i j hc hij ?_
      rcases h with h | h | ⟨k, h | h⟩ | ⟨k, m, h1, h2, h3, h4⟩
      · exact Or.inl h
      · exact Or.inr (Or.inl h)
      · exact Or.inr (Or.inr (Or.inl ⟨k, Or.inl h.1⟩))
      · exact Or.inr (Or.inr (Or.inl ⟨k, Or.inr h.1⟩))
      · exact Or.inr (Or.inr (Or.inr ⟨k, m, h1, h2, h3.1, h4.1⟩))
    · intro ei ej
      subst ei ej
      refine Nat.le_zero.mp (G.2.1 c hc 0 ⟨rfl, ?_⟩)
      rcases h with ⟨k, h⟩ | ⟨k, h1, h2⟩ | ⟨k, h | h⟩ | ⟨k, m, h1, h2, h3, h4⟩
      · omega
      · exact Or.inl ⟨k, h1.symm, h2⟩
      · exact Or.inr (Or.inl ⟨k, Or.inl (h.2 rfl rfl)⟩)
      · exact Or.inr (Or.inl ⟨k, Or.inr (h.2 rfl rfl)⟩)
      · refine Or.inr (Or.inr ⟨k, m, h1, h2, ?_, ?_⟩)
        · by_cases e : m = j
          · exact Or.inl ⟨e, h3.2 rfl e⟩
          · exact Or.inr ⟨e, (hl _ m (wf c hc (Or.inr k)).1 h1 (by omega)).2 h3.1⟩
        · by_cases e : m = i
          · exact Or.inl ⟨e, h4.2 e rfl⟩
          · exact Or.inr ⟨e, (hr _ m (wf c hc (Or.inr k)).2 (by omega) h2).2 h4.1⟩
theorem gr_span {N n : Nat} {D : Nat → Nat} (hn : n ≤ 13) (hN : C * 196 ≤ N) (wf : gr_wf C K L R) (G : fx_Good N 1 (of_S C K L R tk n) D)
    {c i j : Nat} (hc : c < C) (hij : i ≤ j) (hj : j ≤ n) : D ((c * 14 + i) * 14 + j) = 0 ↔ gr_Sp C K L R tk c i j := by
  constructor
  · intro h
    have q : ∀ a p r, p ≤ 13 → r ≤ 13 → gr_ind (gr_Sp C K L R tk (((a * 14 + p) * 14 + r) / 196) (((a * 14 + p) * 14 + r) / 14 % 14) (((a * 14 + p) * 14 + r) % 14)) = gr_ind (gr_Sp C K L R tk a p r) := by
      intro a p r hp hr
      rw [show ((a * 14 + p) * 14 + r) / 196 = a from by omega, show ((a * 14 + p) * 14 + r) / 14 % 14 = p from by omega, show ((a * 14 + p) * 14 + r) % 14 = r from by omega]
    have h1 := G.2.2.1 (fun v => gr_ind (gr_Sp C K L R tk (v / 196) (v / 14 % 14) (v % 14))) (fun v _ => ⟨gr_ind_1 _, fun x hx => by
      try dsimp only at hx ⊢
      obtain ⟨c, i, j, e, hc, hi, hj, h0, h⟩ := hx
      rw [e, q c i j (by omega) (by omega), h0]
      refine Nat.le_of_eq (gr_ind_t (gr_sp_cl c i j hc hi ?_))
      rcases h with h | h | ⟨k, h | h⟩ | ⟨k, m, h1, h2, h3, h4⟩
      · exact Or.inl h
      · exact Or.inr (Or.inl h)
      · try dsimp only at h
        rw [q _ i j (by omega) (by omega)] at h
        exact Or.inr (Or.inr (Or.inl ⟨k, Or.inl (gr_ind_0 h)⟩))
      · try dsimp only at h
        rw [q _ i j (by omega) (by omega)] at h
        exact Or.inr (Or.inr (Or.inl ⟨k, Or.inr (gr_ind_0 h)⟩))
      · try dsimp only at h3 h4
        rw [q _ i m (by omega) (by omega)] at h3
        rw [q _ m j (by omega) (by omega)] at h4
        exact Or.inr (Or.inr (Or.inr ⟨k, m, h1, h2, gr_ind_0 h3, gr_ind_0 h4⟩))⟩) ((c * 14 + i) * 14 + j) (by omega)
    try dsimp only at h1
    rw [q c i j (by omega) (by omega)] at h1
    exact gr_ind_0 (by omega)
  · intro h
    refine h (fun c i j => j ≤ n → D ((c * 14 + i) * 14 + j) = 0) ?_ hj
    intro c i j hc hij h hj
    refine Nat.le_zero.mp (G.2.1 _ (by omega) 0 ⟨c, i, j, rfl, hc, hij, hj, rfl, ?_⟩)
    rcases h with h | h | ⟨k, h | h⟩ | ⟨k, m, h1, h2, h3, h4⟩
    · exact Or.inl h
    · exact Or.inr (Or.inl h)
    · exact Or.inr (Or.inr (Or.inl ⟨k, Or.inl (h hj)⟩))
    · exact Or.inr (Or.inr (Or.inl ⟨k, Or.inr (h hj)⟩))
    · exact Or.inr (Or.inr (Or.inr ⟨k, m, h1, h2, h3 (by omega), h4 hj⟩))
/-- an input's tails end at 0 where the rest of the input is a word -/
theorem gr_zero {B n : Nat} {Ls : Nat → Nat} {T : Nat → Nat → Nat} (hB : 1 ≤ B) (wf : gr_wf C K L R) (GL : fx_Good C B (of_L K L R) Ls)
    (h0 : ∀ c, c < C → T n c = Ls c) (hT : ∀ i, i < n → fx_Good C B (of_T K L R tk (gr_Sp C K L R tk) Ls T i n) (T i))
    {c i : Nat} (hc : c < C) (hi : i ≤ n) (h : gr_Sp C K L R tk c i n) : T i c = 0 := by
  refine (h (fun c i j => gr_Sp C K L R tk c i j ∧ (j = n → c < C → i ≤ n → T i c = 0)) ?_).2 rfl hc hi
  intro c i j hc hij h
  constructor
  · refine gr_sp_cl c i j hc hij ?_
    rcases h with h | h | ⟨k, h | h⟩ | ⟨k, m, h1, h2, h3, h4⟩
    · exact Or.inl h
    · exact Or.inr (Or.inl h)
    · exact Or.inr (Or.inr (Or.inl ⟨k, Or.inl h.1⟩))
    · exact Or.inr (Or.inr (Or.inl ⟨k, Or.inr h.1⟩))
    · exact Or.inr (Or.inr (Or.inr ⟨k, m, h1, h2, h3.1, h4.1⟩))
  · intro ej _ hi
    subst ej
    by_cases e : i = j
    · subst e
      rw [h0 c hc, gr_null hB wf GL hc i (tk := tk)]
      refine gr_sp_cl c i i hc hij ?_
      rcases h with h | h | ⟨k, h | h⟩ | ⟨k, m, h1, h2, h3, h4⟩
      · exact Or.inl h
      · exact Or.inr (Or.inl h)
      · exact Or.inr (Or.inr (Or.inl ⟨k, Or.inl h.1⟩))
      · exact Or.inr (Or.inr (Or.inl ⟨k, Or.inr h.1⟩))
      · exact Or.inr (Or.inr (Or.inr ⟨k, m, h1, h2, h3.1, h4.1⟩))
    · have GT := hT i (by omega)
      rcases h with ⟨k, h⟩ | ⟨k, h1, h2⟩ | ⟨k, h | h⟩ | ⟨k, m, h1, h2, h3, h4⟩
      · exact absurd h e
      · have := GT.2.1 c hc 0 (Or.inl ⟨k, h1.symm, h2, rfl⟩)
        omega
      · have := GT.2.1 c hc _ (Or.inr (Or.inl ⟨k, Or.inl rfl⟩))
        have := h.2 rfl (wf c hc (Or.inl k)).1 hi
        omega
      · have := GT.2.1 c hc _ (Or.inr (Or.inl ⟨k, Or.inr rfl⟩))
        have := h.2 rfl (wf c hc (Or.inl k)).2 hi
        omega
      · have hr := h4.2 rfl (wf c hc (Or.inr k)).2 h2
        by_cases e1 : m = i
        · subst e1
          have := GT.2.1 c hc _ (Or.inr (Or.inr ⟨k, Or.inr (Or.inl ⟨h3.1, rfl⟩)⟩))
          omega
        · by_cases e2 : m = j
          · subst e2
            have a := GT.2.1 c hc _ (Or.inr (Or.inr ⟨k, Or.inl rfl⟩))
            have b := h3.2 rfl (wf c hc (Or.inr k)).1 hi
            rw [← h0 _ (wf c hc (Or.inr k)).2] at a
            omega
          · have := GT.2.1 c hc _ (Or.inr (Or.inr ⟨k, Or.inr (Or.inr ⟨m, by omega, by omega, h3.1, rfl⟩)⟩))
            omega
def gr_pT (C n : Nat) (T : Nat → Nat → Nat) (v : Nat) : Nat := if v % 14 ≤ n then (if v / 14 < C then T (v % 14) (v / 14) else 0) else 0
theorem gr_pT_at {n : Nat} {T : Nat → Nat → Nat} (hn : n ≤ 13) (a p : Nat) (ha : a < C) (hp : p ≤ n) : gr_pT C n T (a * 14 + p) = T p a := by
  unfold gr_pT
  rw [show (a * 14 + p) % 14 = p from by omega, show (a * 14 + p) / 14 = a from by omega, if_pos hp, if_pos ha]
theorem gr_tail {B N n : Nat} {Ls Dr : Nat → Nat} {T : Nat → Nat → Nat} (hB : 1 ≤ B) (hn : n ≤ 13) (hN : C * 14 ≤ N) (wf : gr_wf C K L R) (GL : fx_Good C B (of_L K L R) Ls)
    (h0 : ∀ c, c < C → T n c = Ls c) (hT : ∀ i, i < n → fx_Good C B (of_T K L R tk (gr_Sp C K L R tk) Ls T i n) (T i))
    (GR : fx_Good N B (of_R C K L R tk (gr_Sp C K L R tk) n) Dr) {c i : Nat} (hc : c < C) (hi : i ≤ n) : T i c = Dr (c * 14 + i) := by
  have hn0 : ∀ c, c < C → Dr (c * 14 + n) ≤ T n c := by
    intro c hc
    rw [h0 c hc]
    refine GL.2.2.1 (fun c => Dr (c * 14 + n)) (fun c hc => ⟨GR.1 _ (by omega), fun x hx => ?_⟩) c hc
    refine GR.2.1 _ (by omega) x ⟨c, n, rfl, hc, Nat.le_refl _, ?_⟩
    rcases hx with ⟨k, hx⟩ | ⟨k, hx⟩ | ⟨k, hx | hx⟩ | ⟨k, hx⟩
    · exact Or.inl ⟨k, rfl, hx⟩
    · exact Or.inr (Or.inl ⟨k, rfl, hx⟩)
    · exact Or.inr (Or.inr (Or.inr (Or.inl ⟨k, Or.inl hx⟩)))
    · exact Or.inr (Or.inr (Or.inr (Or.inl ⟨k, Or.inr hx⟩)))
    · exact Or.inr (Or.inr (Or.inr (Or.inr ⟨k, Or.inl hx⟩)))
  have ge : ∀ d i, i + d = n → ∀ c, c < C → Dr (c * 14 + i) ≤ T i c := by
    intro d
    induction d using Nat.strongRecOn with
    | ind d ih =>
      intro i hd
      by_cases e : d = 0
      · have e2 : i = n := by omega
        rw [e2]
        exact hn0
      · intro c hc
        refine (hT i (by omega)).2.2.1 (fun c => Dr (c * 14 + i)) (fun c hc => ⟨GR.1 _ (by omega), fun x hx => ?_⟩) c hc
        have o : ∀ y, of_R C K L R tk (gr_Sp C K L R tk) n Dr (c * 14 + i) y → Dr (c * 14 + i) ≤ y := GR.2.1 _ (by omega)
        show Dr (c * 14 + i) ≤ x
        rcases hx with ⟨k, h1, h2, h3⟩ | ⟨k, hx | hx⟩ | ⟨k, hx | ⟨h1, h2⟩ | ⟨m, h1, h2, h3, h4⟩⟩
        · exact o x ⟨c, i, rfl, hc, by omega, Or.inr (Or.inr (Or.inl ⟨k, h1, h2, h3⟩))⟩
        · exact o x ⟨c, i, rfl, hc, by omega, Or.inr (Or.inr (Or.inr (Or.inl ⟨k, Or.inl hx⟩)))⟩
        · exact o x ⟨c, i, rfl, hc, by omega, Or.inr (Or.inr (Or.inr (Or.inl ⟨k, Or.inr hx⟩)))⟩
        · have a := o _ ⟨c, i, rfl, hc, by omega, Or.inr (Or.inr (Or.inr (Or.inr ⟨k, Or.inl rfl⟩)))⟩
          have b := hn0 _ (wf c hc (Or.inr k)).2
          rw [h0 _ (wf c hc (Or.inr k)).2] at b
          try dsimp only at hx
          omega
        · exact o x ⟨c, i, rfl, hc, by omega, Or.inr (Or.inr (Or.inr (Or.inr ⟨k, Or.inr ⟨i, Nat.le_refl _, by omega, h1, h2⟩⟩)))⟩
        · have a := o _ ⟨c, i, rfl, hc, by omega, Or.inr (Or.inr (Or.inr (Or.inr ⟨k, Or.inr ⟨m, by omega, by omega, h3, rfl⟩⟩)))⟩
          have b := ih (n - m) (by omega) m (by omega) _ (wf c hc (Or.inr k)).2
          omega
  have bT : ∀ i c, i ≤ n → c < C → T i c ≤ B := by
    intro i c hi hc
    by_cases e : i = n
    · rw [e, h0 c hc]; exact GL.1 c hc
    · exact (hT i (by omega)).1 c hc
  have hp : ∀ v, v < N → gr_pT C n T v ≤ B ∧ ∀ x, of_R C K L R tk (gr_Sp C K L R tk) n (gr_pT C n T) v x → gr_pT C n T v ≤ x := by
    intro v _
    refine ⟨?_, fun x hx => ?_⟩
    · unfold gr_pT
      by_cases e1 : v % 14 ≤ n
      · rw [if_pos e1]
        by_cases e2 : v / 14 < C
        · rw [if_pos e2]; exact bT _ _ e1 e2
        · rw [if_neg e2]; omega
      · rw [if_neg e1]; omega
    · have q := fun a p => gr_pT_at (C := C) (T := T) hn a p
      obtain ⟨c, i, ev, hc, hi, hx⟩ := hx
      rw [ev, q c i hc hi]
      by_cases e : i = n
      · subst e
        have o : ∀ y, of_L K L R Ls c y → T i c ≤ y := fun y hy => by rw [h0 c hc]; exact GL.2.1 c hc y hy
        rcases hx with ⟨k, _, hx⟩ | ⟨k, _, hx⟩ | ⟨k, hx, _⟩ | ⟨k, hx | hx⟩ | ⟨k, hx | ⟨m, h1, h2, h3, h4⟩⟩
        · exact o x (Or.inl ⟨k, hx⟩)
        · exact o x (Or.inr (Or.inl ⟨k, hx⟩))
        · omega
        · rw [q _ _ (wf c hc (Or.inl k)).1 hi] at hx
          rw [hx, h0 _ (wf c hc (Or.inl k)).1]
          exact o _ (Or.inr (Or.inr (Or.inl ⟨k, Or.inl rfl⟩)))
        · rw [q _ _ (wf c hc (Or.inl k)).2 hi] at hx
          rw [hx, h0 _ (wf c hc (Or.inl k)).2]
          exact o _ (Or.inr (Or.inr (Or.inl ⟨k, Or.inr rfl⟩)))
        · rw [q _ _ (wf c hc (Or.inr k)).1 hi, q _ _ (wf c hc (Or.inr k)).2 hi] at hx
          rw [hx, h0 _ (wf c hc (Or.inr k)).1, h0 _ (wf c hc (Or.inr k)).2]
          exact o _ (Or.inr (Or.inr (Or.inr ⟨k, rfl⟩)))
        · have em : m = i := by omega
          subst em
          rw [q _ _ (wf c hc (Or.inr k)).2 hi] at h4
          have a := o _ (Or.inr (Or.inr (Or.inr ⟨k, rfl⟩)))
          have b := (gr_null hB wf GL (wf c hc (Or.inr k)).1 m (tk := tk)).2 h3
          rw [h0 _ (wf c hc (Or.inr k)).2] at h4
          omega
      · have o : ∀ y, of_T K L R tk (gr_Sp C K L R tk) Ls T i n (T i) c y → T i c ≤ y := fun y hy => (hT i (by omega)).2.1 c hc y hy
        rcases hx with ⟨k, hx, _⟩ | ⟨k, hx, _⟩ | ⟨k, h1, h2, h3⟩ | ⟨k, hx | hx⟩ | ⟨k, hx | ⟨m, h1, h2, h3, h4⟩⟩
        · exact absurd hx e
        · exact absurd hx e
        · exact o x (Or.inl ⟨k, h1, h2, h3⟩)
        · rw [q _ _ (wf c hc (Or.inl k)).1 hi] at hx
          exact o x (Or.inr (Or.inl ⟨k, Or.inl hx⟩))
        · rw [q _ _ (wf c hc (Or.inl k)).2 hi] at hx
          exact o x (Or.inr (Or.inl ⟨k, Or.inr hx⟩))
        · rw [q _ _ (wf c hc (Or.inr k)).1 hi, q _ _ (wf c hc (Or.inr k)).2 (Nat.le_refl _)] at hx
          rw [h0 _ (wf c hc (Or.inr k)).2] at hx
          exact o x (Or.inr (Or.inr ⟨k, Or.inl hx⟩))
        · rw [q _ _ (wf c hc (Or.inr k)).2 h2] at h4
          by_cases e1 : m = i
          · subst e1
            exact o x (Or.inr (Or.inr ⟨k, Or.inr (Or.inl ⟨h3, h4⟩)⟩))
          · by_cases e2 : m = n
            · subst e2
              have a := o _ (Or.inr (Or.inr ⟨k, Or.inl rfl⟩))
              have b := gr_zero hB wf GL h0 hT (wf c hc (Or.inr k)).1 hi h3
              rw [h0 _ (wf c hc (Or.inr k)).2] at h4
              omega
            · exact o x (Or.inr (Or.inr ⟨k, Or.inr (Or.inr ⟨m, by omega, by omega, h3, h4⟩)⟩))
  have h1 := GR.2.2.1 (gr_pT C n T) hp (c * 14 + i) (by omega)
  rw [gr_pT_at hn c i hc hi] at h1
  have := ge (n - i) i (by omega) c hc
  omega
end
end
section
/-! rows of the kit's kit/rows (pasted), bits of a mask, small helps on Int32 -/
def bt (x : Int32) (i : Nat) : Bool := x.toBitVec.getLsbD i
theorem b_ext {x y : Int32} (h : ∀ i, i < 32 → bt x i = bt y i) : x = y := Int32.toBitVec_inj.mp (BitVec.eq_of_getLsbD_eq (fun i hi => h i hi))
theorem b_or (x y : Int32) (i : Nat) : bt (x ||| y) i = (bt x i || bt y i) := by unfold bt; rw [Int32.toBitVec_or, BitVec.getLsbD_or]
theorem b_and (x y : Int32) (i : Nat) : bt (x &&& y) i = (bt x i && bt y i) := by unfold bt; rw [Int32.toBitVec_and, BitVec.getLsbD_and]
theorem b_big {x : Int32} {i : Nat} (h : 32 ≤ i) : bt x i = false := BitVec.getLsbD_of_ge _ _ h
theorem b_0 (i : Nat) : bt 0 i = false := BitVec.getLsbD_zero
theorem s_l : ∀ n, n < 32 → ((nI n &&& 31).toBitVec.smod 32).toNat = n := by decide +kernel
theorem b_shl (n : Nat) (hn : n < 32) (x : Int32) {i : Nat} (hi : i < 32) : bt (x <<< (nI n &&& 31)) i = (decide (n ≤ i) && bt x (i - n)) := by
  unfold bt
  rw [Int32.toBitVec_shiftLeft]
  show (x.toBitVec <<< ((nI n &&& 31).toBitVec.smod 32).toNat).getLsbD i = _
  rw [s_l n hn, BitVec.getLsbD_shiftLeft]
  rcases Nat.lt_or_ge i n with h | h
  · simp [h, Nat.not_le.mpr h]
  · simp [hi, h, Nat.not_lt.mpr h]
theorem b_sshr (n : Nat) (hn : n < 32) (x : Int32) {i : Nat} (hi : i < 32) : bt (x >>> (nI n &&& 31)) i = if n + i < 32 then bt x (n + i) else bt x 31 := by
  unfold bt
  rw [Int32.toBitVec_shiftRight]
  show (x.toBitVec.sshiftRight ((nI n &&& 31).toBitVec.smod 32).toNat).getLsbD i = _
  rw [s_l n hn, BitVec.getLsbD_sshiftRight, BitVec.msb_eq_getLsbD_last]
  simp [hi]
theorem bm_1 : ∀ i, i < 32 → bt 1 i = decide (i = 0) := by decide +kernel
theorem bm_and1 (y : Int32) : (y &&& 1) = 0 ↔ bt y 0 = false := by
  constructor
  · intro h
    have e := b_and y 1 0
    rw [h, b_0, bm_1 0 (by omega)] at e
    simpa using e.symm
  · intro h
    apply b_ext
    intro i hi
    rw [b_and, b_0, bm_1 i hi]
    by_cases e : i = 0
    · rw [e, h]; rfl
    · rw [decide_eq_false e, Bool.and_false]
theorem bm_get (x : Int32) {c : Nat} (hc : c < 32) : ((x >>> (nI c &&& 31)) &&& 1) = 0 ↔ bt x c = false := by
  rw [bm_and1, b_sshr c hc x (by omega), if_pos (by omega), Nat.add_zero]
theorem bm_set (x : Int32) {c i : Nat} (hc : c < 32) (hi : i < 32) : bt (x ||| ((1 : Int32) <<< (nI c &&& 31))) i = (bt x i || decide (i = c)) := by
  rw [b_or, b_shl c hc 1 hi]
  by_cases h : c ≤ i
  · rw [bm_1 (i - c) (by omega), decide_eq_true h, Bool.true_and]
    by_cases e : i = c
    · rw [decide_eq_true e, decide_eq_true (by omega)]
    · rw [decide_eq_false e, decide_eq_false (by omega)]
  · rw [decide_eq_false h, Bool.false_and, decide_eq_false (by omega)]
end
section
/-! the component's cells: their least lengths -/
def gx_ok (C : Nat) (K L R : Nat → Nat) (kd lf rg : Nat → Int32) : Prop :=
  C ≤ 16 ∧ ∀ c, c < C → kd c = nI (K c) ∧ K c ≤ 4 ∧ ((K c = 3 ∨ K c = 4) → lf c = nI (L c) ∧ rg c = nI (R c) ∧ L c < C ∧ R c < C)
def gx_V (N : Nat) (a : Nat → Int32) (s : Nat → Nat) : Prop := ∀ v, v < N → a v = nI (s v) ∧ s v ≤ 16777216
theorem gx_wf {C : Nat} {K L R : Nat → Nat} {kd lf rg : Nat → Int32} (G : gx_ok C K L R kd lf rg) : gr_wf C K L R :=
  fun c hc h => ((G.2 c hc).2.2 h).2.2
theorem gx_K4 {k : Nat} (h : k ≤ 4) : k = 0 ∨ k = 1 ∨ k = 2 ∨ k = 3 ∨ k = 4 := by omega
theorem gx_V_upd {N : Nat} {a : Nat → Int32} {s : Nat → Nat} (h : gx_V N a s) {c x : Nat} (hx : x ≤ 16777216) : gx_V N (upd a c (nI x)) (fun u => if u = c then x else s u) := by
  intro u hu
  dsimp only
  by_cases e : u = c
  · rw [if_pos e, e, pk_us]; exact ⟨rfl, hx⟩
  · rw [if_neg e, pk_un e]; exact h u hu
theorem xs_smaller {a b : Nat} (ha : a ≤ 16777216) (hb : b ≤ 16777216) {post : Int32 → Prop} (h1 : b ≤ a → post (nI b)) (h2 : a < b → post (nI a)) : wpX_smaller post () (nI a) (nI b) :=
  pk_le b a h1 h2
theorem xs_joined {a b : Nat} (ha : a ≤ 16777216) (hb : b ≤ 16777216) {post : Int32 → Prop} (h1 : 16777216 ≤ a + b → post (nI 16777216)) (h2 : a + b < 16777216 → post (nI (a + b))) : wpX_joined post () (nI a) (nI b) :=
  nm_r (nI_add a b) (pk_le 16777216 (a + b) h1 h2)
section
variable {C : Nat} {K L R : Nat → Nat} {fl ft fo fr fi : Int32} {kd lf rg tok st ta : Nat → Int32}
theorem xl_rule (G : gx_ok C K L R kd lf rg) {ls : Nat → Int32} {s : Nat → Nat} (hV : gx_V C ls s) {c : Nat} (hc : c < C) (post : Int32 → Prop)
    (h : ∀ x, x ≤ 16777216 → (∀ y, of_L K L R s c y → x ≤ y) → (x < 16777216 → of_L K L R s c x) → post (nI x)) :
    wpX_leastByRule post (nI C, fl, ft, fo, fr, fi, kd, lf, rg, ls, tok, st, ta) (nI c) := by
  have hC := G.1
  obtain ⟨hk, h4, hlr⟩ := G.2 c hc
  have hi : vp_in (nI c) 16 := vp_in_nI (by omega) (by omega)
  unfold wpX_leastByRule
  dsimp only
  rw [show (nI c).toNatClampNeg = c from nI_clamp (by omega)]
  refine ⟨hi, nm_r hk ?_⟩
  rcases gx_K4 h4 with e | e | e | e | e
  · rw [e]
    refine br_t (by decide) (h 16777216 (Nat.le_refl _) (fun y hy => ?_) (fun z => absurd z (by omega)))
    rcases hy with ⟨k, hy⟩ | ⟨k, hy⟩ | ⟨k, hy | hy⟩ | ⟨k, hy⟩ <;> omega
  · rw [e]
    exact br_f (by decide) (br_f (by decide) (br_t rfl (h 0 (by omega) (fun y _ => by omega) (fun _ => Or.inl ⟨e, rfl⟩))))
  · rw [e]
    refine br_f (by decide) (br_f (by decide) (br_f (by decide) (br_t rfl (h 1 (by omega) (fun y hy => ?_) (fun _ => Or.inr (Or.inl ⟨e, rfl⟩))))))
    rcases hy with ⟨k, hy⟩ | ⟨k, hy⟩ | ⟨k, hy | hy⟩ | ⟨k, hy⟩ <;> omega
  · obtain ⟨el, er, hl, hr⟩ := hlr (Or.inl e)
    have vl := hV _ hl
    have vr := hV _ hr
    rw [e, el, er, show (nI (L c)).toNatClampNeg = L c from nI_clamp (by omega), show (nI (R c)).toNatClampNeg = R c from nI_clamp (by omega), vl.1, vr.1]
    refine br_f (by decide) (br_f (by decide) (br_f (by decide) (br_f (by decide) (br_t rfl ⟨hi, vp_in_nI (by omega) (by omega), hi, vp_in_nI (by omega) (by omega), ?_⟩))))
    refine xs_smaller vl.2 vr.2 (fun z => h _ vr.2 (fun y hy => ?_) (fun _ => Or.inr (Or.inr (Or.inl ⟨e, Or.inr rfl⟩)))) (fun z => h _ vl.2 (fun y hy => ?_) (fun _ => Or.inr (Or.inr (Or.inl ⟨e, Or.inl rfl⟩))))
    · rcases hy with ⟨k, hy⟩ | ⟨k, hy⟩ | ⟨k, hy | hy⟩ | ⟨k, hy⟩ <;> omega
    · rcases hy with ⟨k, hy⟩ | ⟨k, hy⟩ | ⟨k, hy | hy⟩ | ⟨k, hy⟩ <;> omega
  · obtain ⟨el, er, hl, hr⟩ := hlr (Or.inr e)
    have vl := hV _ hl
    have vr := hV _ hr
    rw [e, el, er, show (nI (L c)).toNatClampNeg = L c from nI_clamp (by omega), show (nI (R c)).toNatClampNeg = R c from nI_clamp (by omega), vl.1, vr.1]
    refine br_f (by decide) (br_f (by decide) (br_f (by decide) (br_f (by decide) (br_f (by decide) (br_t rfl ⟨hi, vp_in_nI (by omega) (by omega), hi, vp_in_nI (by omega) (by omega), ?_⟩)))))
    refine xs_joined vl.2 vr.2 (fun z => h _ (by omega) (fun y hy => ?_) (fun z2 => absurd z2 (by omega))) (fun z => h _ (by omega) (fun y hy => ?_) (fun _ => Or.inr (Or.inr (Or.inr ⟨e, rfl⟩))))
    · rcases hy with ⟨k, hy⟩ | ⟨k, hy⟩ | ⟨k, hy | hy⟩ | ⟨k, hy⟩ <;> omega
    · rcases hy with ⟨k, hy⟩ | ⟨k, hy⟩ | ⟨k, hy | hy⟩ | ⟨k, hy⟩ <;> omega
theorem xc_44 (G : gx_ok C K L R kd lf rg) {D s : Nat → Nat} (GD : fx_Good C 16777216 (of_L K L R) D) (hs : ∀ v, v < C → s v ≤ 16777216) (post : St2 → Prop)
    (J28 : Int32 → Int32 → (Nat → Int32) → (Nat → Int32) → (Nat → Int32) → (Nat → Int32) → (Nat → Int32) → (Nat → Int32) → (Nat → Int32) → Prop) (x2 : Int32)
    (hJ : ∀ x1 ls t, gx_V C ls t → fx_In C (of_L K L R) D s C t → (x1 = 0 → ∀ u, u < C → t u = s u) → J28 x1 (x2 + 1) kd lf rg ls tok st ta) :
    ∀ f c x1 ls t, c ≤ C → C - c < f → gx_V C ls t → fx_In C (of_L K L R) D s c t → (x1 = 0 → ∀ u, u < C → t u = s u) →
      wX_measureCells_44 post J28 x2 (nI C) fl ft fo fr fi f x1 (nI c) kd lf rg ls tok st ta := by
  have hC := G.1
  intro f
  induction f with
  | zero => intro c x1 ls t _ h; omega
  | succ f ih =>
    intro c x1 ls t hc hf hV hI hx
    by_cases z : c < C
    · refine br_f (nI_ge z (by omega)) (xl_rule G hV z _ (fun x hxB hl ho => ?_))
      rw [show (nI c).toNatClampNeg = c from nI_clamp (by omega), (hV c z).1]
      refine ⟨vp_in_nI (by omega) (by omega), ?_⟩
      have hB := (hV c z).2
      refine pk_le (t c) x (fun hle => nm_r (nI_1 c) (ih (c + 1) x1 ls t z (by omega) hV (fx_in_skip (of_L_m (gx_wf G)) hI (fun y hy => Nat.le_trans hle (hl y hy))) hx))
        (fun hlt => ⟨vp_in_nI (by omega) (by omega), nm_e (nm_r (nI_1 c) (ih (c + 1) 1 (upd ls c (nI x)) (fun u => if u = c then x else t u) z (by omega) (gx_V_upd hV hxB)
          (fx_in_set GD (of_L_m (gx_wf G)) hI z hlt (ho (by omega)) hl) (fun h => absurd h (by decide))))⟩)
    · have e : c = C := by omega
      subst e
      exact br_t (nI_le (Nat.le_refl _) (by omega)) (nm_e (hJ x1 ls t hV hI hx))
theorem xc_28 (G : gx_ok C K L R kd lf rg) {D : Nat → Nat} (GD : fx_Good C 16777216 (of_L K L R) D) (post : St2 → Prop)
    (hp : ∀ ls, gx_V C ls D → post (nI C, fl, ft, fo, fr, fi, kd, lf, rg, ls, tok, st, ta)) :
    ∀ f k x1 ls s, k ≤ C → C - k < f → gx_V C ls s → fx_R C 16777216 (fun _ => true) D k s → (x1 = 0 → ∀ u, u < C → s u = D u) →
      wX_measureCells_28 post (nI C) fl ft fo fr fi f x1 (nI k) kd lf rg ls tok st ta := by
  have hC := G.1
  have fin : ∀ ls s, gx_V C ls s → (∀ u, u < C → s u = D u) → post (nI C, fl, ft, fo, fr, fi, kd, lf, rg, ls, tok, st, ta) :=
    fun ls s hV e => hp ls (fun v hv => by rw [← e v hv]; exact hV v hv)
  intro f
  induction f with
  | zero => intro k x1 ls s _ h; omega
  | succ f ih =>
    intro k x1 ls s hk hf hV hR hx
    by_cases z : x1 = 0
    · exact br_t z (fin ls s hV (hx z))
    · refine br_f z (pk_le C k (fun h => fin ls s hV (fx_fin GD (fun _ _ _ _ _ => rfl) hR (by rw [fx_cnt_all]; exact h))) (fun h => ⟨C + 1, ?_⟩))
      refine xc_44 G GD (fun v hv => (hV v hv).2) post _ (nI k) (fun y ls' t hV' hI hy => ?_) (C + 1) 0 0 ls s (by omega) (by omega) hV (fx_in0 hR) (fun _ u _ => rfl)
      rw [nI_1]
      exact ih (k + 1) y ls' t (by omega) (by omega) hV' (fx_in_end GD (fun _ _ _ _ _ => rfl) hR hI) (fun e => fx_in_stop GD hR hI (hy e))
theorem xc_2 (G : gx_ok C K L R kd lf rg) {D : Nat → Nat} (GD : fx_Good C 16777216 (of_L K L R) D) (post : St2 → Prop)
    (hp : ∀ ls, gx_V C ls D → post (nI C, fl, ft, fo, fr, fi, kd, lf, rg, ls, tok, st, ta)) :
    ∀ f c ls, c ≤ C → C - c < f → (∀ u, u < c → ls u = nI 16777216) → wX_measureCells_2 post (nI C) fl ft fo fr fi f (nI c) kd lf rg ls tok st ta := by
  have hC := G.1
  intro f
  induction f with
  | zero => intro c ls _ h; omega
  | succ f ih =>
    intro c ls hc hf hu
    refine pk_le C c (fun h => ⟨C + 1, ?_⟩) (fun h => ⟨vp_in_nI (by omega) (by omega), nm_e (nm_r (nI_1 c) (ih (c + 1) _ (by omega) (by omega) ?_))⟩)
    · have e : c = C := by omega
      subst e
      exact xc_28 G GD post hp (c + 1) 0 1 ls (fun _ => 16777216) (by omega) (by omega) (fun v hv => ⟨hu v hv, Nat.le_refl _⟩) (fx_R0 GD (fun _ _ => rfl)) (fun h => absurd h (by decide))
    · intro u hu'
      rw [nI_clamp (by omega)]
      by_cases e : u = c
      · rw [e, pk_us]; rfl
      · rw [pk_un e]; exact hu u (by omega)
theorem xc_all (G : gx_ok C K L R kd lf rg) {ls : Nat → Int32} (post : St2 → Prop)
    (hp : ∀ ls D, fx_Good C 16777216 (of_L K L R) D → gx_V C ls D → post (nI C, fl, ft, fo, fr, fi, kd, lf, rg, ls, tok, st, ta)) :
    wpX_measureCells post (nI C, fl, ft, fo, fr, fi, kd, lf, rg, ls, tok, st, ta) := by
  obtain ⟨D, GD⟩ := fx_good (B := 16777216) (of_L_m (gx_wf G)) (of_L_w _ (gx_wf G))
  exact ⟨C + 1, xc_2 G GD post (fun ls hV => hp ls D GD hV) (C + 1) 0 ls (by omega) (by omega) (fun u hu => absurd hu (by omega))⟩
end
end
section
/-! the component's stretches: a bit mask each -/
def gx_S (C : Nat) (K L R : Nat → Nat) (tk : Nat → Nat → Prop) (st : Nat → Int32) (n : Nat) : Prop :=
  ∀ c i j, c < C → i ≤ j → j < n → (bt (st (i * 13 + j)) c = true ↔ gr_Sp C K L R tk c i j)
theorem nx_13 (f t : Nat) : nI f * 13 + nI t = nI (f * 13 + t) := by
  show nI f * nI 13 + nI t = _
  rw [pk_mul, nI_add]
theorem bm_nf {b : Bool} (h : ¬ b = false) : b = true := by
  cases b with
  | true => rfl
  | false => exact absurd rfl h
theorem bm_nt {b : Bool} (h : b = false) : ¬ b = true := by
  rw [h]
  exact Bool.false_ne_true
section
variable {C : Nat} {K L R : Nat → Nat} {cc fl ft fo fr fi : Int32} {kd lf rg ls tok st ta : Nat → Int32}
theorem xm_at {c f t : Nat} (hc : c < 16) (ht : f * 13 + t < 169) {post : Int32 → Prop} (h1 : bt (st (f * 13 + t)) c = true → post 1) (h0 : bt (st (f * 13 + t)) c = false → post 0) :
    wpX_matches post (cc, fl, ft, fo, fr, fi, kd, lf, rg, ls, tok, st, ta) (nI c) (nI f) (nI t) := by
  unfold wpX_matches
  dsimp only
  rw [nx_13, show (nI (f * 13 + t)).toNatClampNeg = f * 13 + t from nI_clamp (by omega)]
  exact ⟨vp_in_nI ht (by omega), ek_if (bm_get _ (by omega)) h0 (fun h => h1 (bm_nf h))⟩
theorem xm_two3 {l r f t : Nat} (hl : l < 16) (hr : r < 16) (ht : t ≤ 12) (post : Int32 → Prop)
    (h1 : ∀ k, f ≤ k → k ≤ t → bt (st (f * 13 + k)) l = true → bt (st (k * 13 + t)) r = true → post 1)
    (h0 : (∀ k, f ≤ k → k ≤ t → ¬ (bt (st (f * 13 + k)) l = true ∧ bt (st (k * 13 + t)) r = true)) → post 0) :
    ∀ n k, f ≤ k → k ≤ t + 1 → t + 1 - k < n → (∀ m, f ≤ m → m < k → ¬ (bt (st (f * 13 + m)) l = true ∧ bt (st (m * 13 + t)) r = true)) →
      wX_matchesInTwo_3 post (nI l) (nI r) (nI f) (nI t) cc fl ft fo fr fi kd lf rg ls tok st ta n (nI k) := by
  intro n
  induction n with
  | zero => intro k _ _ h; omega
  | succ n ih =>
    intro k hfk hkt hn hm
    have next : k ≤ t → ¬ (bt (st (f * 13 + k)) l = true ∧ bt (st (k * 13 + t)) r = true) → wX_matchesInTwo_3 post (nI l) (nI r) (nI f) (nI t) cc fl ft fo fr fi kd lf rg ls tok st ta n (nI (k + 1)) := fun hk z =>
      ih (k + 1) (by omega) (by omega) (by omega) (fun m a b => by
        by_cases e : m = k
        · rw [e]; exact z
        · exact hm m a (by omega))
    refine pk_lt t k (fun h => h0 (fun m a b => hm m a (by omega))) (fun h => xm_at hl (by omega) (fun b1 => ?_) (fun b0 => ?_))
    · refine br_f (by decide) (xm_at hr (by omega) (fun c1 => br_f (by decide) (h1 k hfk h b1 c1)) (fun c0 => br_t rfl (nm_r (nI_1 k) (next h (fun z => bm_nt c0 z.2)))))
    · exact br_t rfl (nm_r (nI_1 k) (next h (fun z => bm_nt b0 z.1)))
theorem xm_two {l r f t : Nat} (hl : l < 16) (hr : r < 16) (hft : f ≤ t) (ht : t ≤ 12) (post : Int32 → Prop)
    (h1 : ∀ k, f ≤ k → k ≤ t → bt (st (f * 13 + k)) l = true → bt (st (k * 13 + t)) r = true → post 1)
    (h0 : (∀ k, f ≤ k → k ≤ t → ¬ (bt (st (f * 13 + k)) l = true ∧ bt (st (k * 13 + t)) r = true)) → post 0) :
    wpX_matchesInTwo post (cc, fl, ft, fo, fr, fi, kd, lf, rg, ls, tok, st, ta) (nI l) (nI r) (nI f) (nI t) :=
  ⟨t + 2, xm_two3 hl hr ht post h1 h0 (t + 2) f (Nat.le_refl _) (by omega) (by omega) (fun m a b => absurd a (by omega))⟩
theorem xm_rule (G : gx_ok C K L R kd lf rg) {c f t : Nat} (hc : c < C) (hft : f < t) (ht : t ≤ 12) {s : Nat → Nat} {Mt : Nat → Nat → Nat → Prop}
    (hs : ∀ l, l < C → (bt (st (f * 13 + t)) l = true ↔ s l = 0))
    (hm1 : ∀ l k, l < C → f ≤ k → k < t → (bt (st (f * 13 + k)) l = true ↔ Mt l f k)) (hm2 : ∀ r k, r < C → f < k → k ≤ t → (bt (st (k * 13 + t)) r = true ↔ Mt r k t))
    (post : Int32 → Prop) (h1 : of_M K L R (fun i c => tok i = lf c) Mt f t s c 0 → post 1) (h0 : (∀ x, ¬ of_M K L R (fun i c => tok i = lf c) Mt f t s c x) → post 0) :
    wpX_matchesByRule post (nI C, fl, ft, fo, fr, fi, kd, lf, rg, ls, tok, st, ta) (nI c) (nI f) (nI t) := by
  have hC := G.1
  obtain ⟨hk, h4, hlr⟩ := G.2 c hc
  have hi : vp_in (nI c) 16 := vp_in_nI (by omega) (by omega)
  unfold wpX_matchesByRule
  dsimp only
  rw [show (nI c).toNatClampNeg = c from nI_clamp (by omega), show (nI f).toNatClampNeg = f from nI_clamp (by omega)]
  refine ⟨hi, nm_r hk ?_⟩
  rcases gx_K4 h4 with e | e | e | e | e
  · rw [e]
    refine br_t (by decide) (h0 (fun x hx => ?_))
    obtain ⟨_, hx⟩ := hx
    rcases hx with ⟨k, _⟩ | ⟨k, _⟩ | ⟨k, _⟩ <;> omega
  · rw [e]
    refine br_t (by decide) (h0 (fun x hx => ?_))
    obtain ⟨_, hx⟩ := hx
    rcases hx with ⟨k, _⟩ | ⟨k, _⟩ | ⟨k, _⟩ <;> omega
  · rw [e]
    refine br_f (by decide) (br_f (by decide) (br_t rfl (pk_eq (f + 1) t (fun e2 => ⟨vp_in_nI (by omega) (by omega), hi, br_c (fun w => h1 ⟨rfl, Or.inl ⟨e, e2, w⟩⟩) (fun w => h0 (fun x hx => ?_))⟩) (fun e2 => h0 (fun x hx => ?_)) (nI_1 f))))
    · obtain ⟨_, hx⟩ := hx
      rcases hx with ⟨k, _, h⟩ | ⟨k, _⟩ | ⟨k, _⟩
      · exact w h
      · omega
      · omega
    · obtain ⟨_, hx⟩ := hx
      rcases hx with ⟨k, h, _⟩ | ⟨k, _⟩ | ⟨k, _⟩ <;> omega
  · obtain ⟨el, er, hl, hr⟩ := hlr (Or.inl e)
    rw [e, el, er]
    refine br_f (by decide) (br_f (by decide) (br_f (by decide) (br_t rfl ⟨hi, xm_at (by omega) (by omega) (fun b1 => ?_) (fun b0 => ?_)⟩)))
    · exact br_f (by decide) (h1 ⟨rfl, Or.inr (Or.inl ⟨e, Or.inl ((hs _ hl).1 b1)⟩)⟩)
    · refine br_t rfl ⟨hi, xm_at (by omega) (by omega) (fun c1 => ?_) (fun c0 => ?_)⟩
      · exact br_f (by decide) (h1 ⟨rfl, Or.inr (Or.inl ⟨e, Or.inr ((hs _ hr).1 c1)⟩)⟩)
      · refine br_t rfl (h0 (fun x hx => ?_))
        obtain ⟨_, hx⟩ := hx
        rcases hx with ⟨k, _⟩ | ⟨k, h | h⟩ | ⟨k, _⟩
        · omega
        · exact bm_nt b0 ((hs _ hl).2 h)
        · exact bm_nt c0 ((hs _ hr).2 h)
        · omega
  · obtain ⟨el, er, hl, hr⟩ := hlr (Or.inr e)
    rw [e, el, er]
    refine br_f (by decide) (br_f (by decide) (br_f (by decide) (br_f (by decide) (br_t rfl ⟨hi, hi, xm_two (by omega) (by omega) (by omega) ht _ (fun k a b b1 b2 => ⟨rfl, h1 ⟨rfl, Or.inr (Or.inr ⟨e, k, a, b, ?_, ?_⟩)⟩⟩) (fun hn => ⟨rfl, h0 (fun x hx => ?_)⟩)⟩))))
    · by_cases e2 : k = t
      · rw [e2] at b1
        exact Or.inl ⟨e2, (hs _ hl).1 b1⟩
      · exact Or.inr ⟨e2, (hm1 _ k hl a (by omega)).1 b1⟩
    · by_cases e2 : k = f
      · rw [e2] at b2
        exact Or.inl ⟨e2, (hs _ hr).1 b2⟩
      · exact Or.inr ⟨e2, (hm2 _ k hr (by omega) b).1 b2⟩
    · obtain ⟨_, hx⟩ := hx
      rcases hx with ⟨k, _⟩ | ⟨k, _⟩ | ⟨k, m, a, b, p, q⟩
      · omega
      · omega
      · refine hn m a b ⟨?_, ?_⟩
        · rcases p with ⟨e2, p⟩ | ⟨e2, p⟩
          · rw [e2]; exact (hs _ hl).2 p
          · exact (hm1 _ m hl a (by omega)).2 p
        · rcases q with ⟨e2, q⟩ | ⟨e2, q⟩
          · rw [e2]; exact (hs _ hr).2 q
          · exact (hm2 _ m hr (by omega) b).2 q
/-- the mask at place p of st against the values t (0: set); elsewhere st is st0 -/
def xm_rel (C p : Nat) (st0 st : Nat → Int32) (t : Nat → Nat) : Prop := (∀ i, i ≠ p → st i = st0 i) ∧ ∀ l, l < C → (bt (st p) l = true ↔ t l = 0) ∧ t l ≤ 1
theorem xm_45 (G : gx_ok C K L R kd lf rg) {f t : Nat} (hft : f < t) (ht : t ≤ 12) {st0 : Nat → Int32} {D s : Nat → Nat}
    (GD : fx_Good C 1 (of_M K L R (fun i c => tok i = lf c) (fun l i j => bt (st0 (i * 13 + j)) l = true) f t) D) (post : St2 → Prop)
    (J20 : Int32 → Int32 → (Nat → Int32) → (Nat → Int32) → (Nat → Int32) → (Nat → Int32) → (Nat → Int32) → (Nat → Int32) → (Nat → Int32) → Prop) (x5 x6 : Int32)
    (hJ : ∀ x4 st w, xm_rel C (f * 13 + t) st0 st w → fx_In C (of_M K L R (fun i c => tok i = lf c) (fun l i j => bt (st0 (i * 13 + j)) l = true) f t) D s C w →
      (x4 = 0 → st (f * 13 + t) = x6) → J20 x4 (x5 + 1) kd lf rg ls tok st ta) :
    ∀ n c st w, c ≤ C → C - c < n → xm_rel C (f * 13 + t) st0 st w → fx_In C (of_M K L R (fun i c => tok i = lf c) (fun l i j => bt (st0 (i * 13 + j)) l = true) f t) D s c w →
      wX_matchStretch_45 post J20 (nI f) (nI t) (nI (f * 13 + t)) x5 x6 (nI C) fl ft fo fr fi n (nI c) kd lf rg ls tok st ta := by
  have hC := G.1
  have hat : (nI (f * 13 + t)).toNatClampNeg = f * 13 + t := nI_clamp (by omega)
  have hin : vp_in (nI (f * 13 + t)) 169 := vp_in_nI (by omega) (by omega)
  intro n
  induction n with
  | zero => intro c st w _ h; omega
  | succ n ih =>
    intro c st w hc hn hr hI
    by_cases z : c < C
    · refine br_f (nI_ge z (by omega)) (xm_rule G z hft ht (s := w) (Mt := fun l i j => bt (st0 (i * 13 + j)) l = true) (fun l hl => (hr.2 l hl).1) (fun l k _ _ h => ?_) (fun r k _ h _ => ?_) _ (fun ho => ?_) (fun hno => ?_))
      · rw [hr.1 (f * 13 + k) (by omega)]
      · rw [hr.1 (k * 13 + t) (by omega)]
      · refine br_f (by decide) ⟨hin, hin, ?_⟩
        rw [hat]
        refine nm_e (nm_r (nI_1 c) (ih (c + 1) _ (fun u => if u = c then 0 else w u) z (by omega) ⟨fun i hi => by rw [pk_un hi]; exact hr.1 i hi, fun l hl => ?_⟩ ?_))
        · rw [pk_us, bm_set _ (by omega) (by omega)]
          dsimp only
          by_cases e : l = c
          · rw [if_pos e, decide_eq_true e, Bool.or_true]
            exact ⟨⟨fun _ => rfl, fun _ => rfl⟩, Nat.zero_le _⟩
          · rw [if_neg e, decide_eq_false e, Bool.or_false]
            exact hr.2 l hl
        · by_cases e : w c = 0
          · refine fx_in_ext (fx_in_skip (of_M_m _ f t (gx_wf G)) hI (fun y _ => by omega)) (fun u _ => ?_)
            by_cases e2 : u = c
            · rw [if_pos e2, e2, e]
            · rw [if_neg e2]
          · exact fx_in_set GD (of_M_m _ f t (gx_wf G)) hI z (by omega) ho (fun y _ => Nat.zero_le _)
      · exact br_t rfl (nm_r (nI_1 c) (ih (c + 1) st w z (by omega) hr (fx_in_skip (of_M_m _ f t (gx_wf G)) hI (fun y hy => absurd hy (hno y)))))
    · have e : c = C := by omega
      subst e
      refine br_t (nI_le (Nat.le_refl _) (by omega)) ⟨hin, ?_⟩
      rw [hat]
      exact br_c (fun e => nm_e (hJ 0 st w hr hI (fun _ => e))) (fun e => nm_e (hJ 1 st w hr hI (fun z => absurd z (by decide))))
theorem xm_20 (G : gx_ok C K L R kd lf rg) {f t : Nat} (hft : f < t) (ht : t ≤ 12) {st0 : Nat → Int32} {D : Nat → Nat}
    (GD : fx_Good C 1 (of_M K L R (fun i c => tok i = lf c) (fun l i j => bt (st0 (i * 13 + j)) l = true) f t) D) (post : St2 → Prop)
    (hp : ∀ st, xm_rel C (f * 13 + t) st0 st D → post (nI C, fl, ft, fo, fr, fi, kd, lf, rg, ls, tok, st, ta)) :
    ∀ n k x4 st s, k ≤ C → C - k < n → xm_rel C (f * 13 + t) st0 st s → fx_R C 1 (fun _ => true) D k s → (x4 = 0 → ∀ u, u < C → s u = D u) →
      wX_matchStretch_20 post (nI f) (nI t) (nI (f * 13 + t)) (nI C) fl ft fo fr fi n x4 (nI k) kd lf rg ls tok st ta := by
  have hC := G.1
  have hat : (nI (f * 13 + t)).toNatClampNeg = f * 13 + t := nI_clamp (by omega)
  have hin : vp_in (nI (f * 13 + t)) 169 := vp_in_nI (by omega) (by omega)
  have fin : ∀ st s, xm_rel C (f * 13 + t) st0 st s → (∀ u, u < C → s u = D u) → post (nI C, fl, ft, fo, fr, fi, kd, lf, rg, ls, tok, st, ta) :=
    fun st s hr e => hp st ⟨hr.1, fun l hl => by rw [← e l hl]; exact hr.2 l hl⟩
  intro n
  induction n with
  | zero => intro k x4 st s _ h; omega
  | succ n ih =>
    intro k x4 st s hk hn hr hR hx
    by_cases z : x4 = 0
    · exact br_t z (fin st s hr (hx z))
    · refine br_f z (pk_le C k (fun h => fin st s hr (fx_fin GD (fun _ _ _ _ _ => rfl) hR (by rw [fx_cnt_all]; exact h))) (fun h => ⟨hin, ?_⟩))
      rw [hat]
      refine nm_e ⟨C + 1, xm_45 G hft ht GD post _ (nI k) _ (fun y st' w hr' hI hy => ?_) (C + 1) 0 st s (by omega) (by omega) hr (fx_in0 hR)⟩
      rw [nI_1]
      refine ih (k + 1) y st' w (by omega) (by omega) hr' (fx_in_end GD (fun _ _ _ _ _ => rfl) hR hI) (fun e => fx_in_stop GD hR hI (fun u hu => ?_))
      have a := hr.2 u hu
      have b := hr'.2 u hu
      rw [hy e] at b
      have q : s u = 0 ↔ w u = 0 := a.1.symm.trans b.1
      omega
theorem xm_stretch (G : gx_ok C K L R kd lf rg) {f t : Nat} (hft : f < t) (ht : t ≤ 12)
    (hl : ∀ l k, l < C → f ≤ k → k < t → (bt (st (f * 13 + k)) l = true ↔ gr_Sp C K L R (fun i c => tok i = lf c) l f k))
    (hr : ∀ r k, r < C → f < k → k ≤ t → (bt (st (k * 13 + t)) r = true ↔ gr_Sp C K L R (fun i c => tok i = lf c) r k t)) (post : St2 → Prop)
    (hp : ∀ st', (∀ i, i ≠ f * 13 + t → st' i = st i) → (∀ c, c < C → (bt (st' (f * 13 + t)) c = true ↔ gr_Sp C K L R (fun i c => tok i = lf c) c f t)) →
      post (nI C, fl, ft, fo, fr, fi, kd, lf, rg, ls, tok, st', ta)) :
    wpX_matchStretch post (nI C, fl, ft, fo, fr, fi, kd, lf, rg, ls, tok, st, ta) (nI f) (nI t) := by
  have hC := G.1
  obtain ⟨D, GD⟩ := fx_good (B := 1) (of_M_m (tk := fun i c => tok i = lf c) (fun l i j => bt (st (i * 13 + j)) l = true) f t (gx_wf G)) (of_M_w _ _ f t (gx_wf G))
  unfold wpX_matchStretch
  dsimp only
  refine nm_r (nx_13 f t) ⟨vp_in_nI (by omega) (by omega), ?_⟩
  rw [show (nI (f * 13 + t)).toNatClampNeg = f * 13 + t from nI_clamp (by omega)]
  refine nm_e ⟨C + 1, xm_20 G hft ht GD post (fun st' h => hp st' h.1 (fun c hc => (h.2 c hc).1.trans (gr_mask (gx_wf G) GD hft hl hr hc))) (C + 1) 0 1 _ (fun _ => 1) (by omega) (by omega)
    ⟨fun i hi => pk_un hi, fun l hl => ?_⟩ (fx_R0 GD (fun _ _ => rfl)) (fun z => absurd z (by decide))⟩
  rw [pk_us, b_0]
  exact ⟨⟨fun z => absurd z (by decide), fun z => absurd (show (1 : Nat) = 0 from z) (by decide)⟩, Nat.le_refl _⟩
theorem xm_49 (G : gx_ok C K L R kd lf rg) {t : Nat} (ht : t ≤ 12) (post : St2 → Prop)
    (hp : ∀ st, gx_S C K L R (fun i c => tok i = lf c) st (t + 1) → post (nI C, fl, ft, fo, fr, fi, kd, lf, rg, ls, tok, st, ta)) :
    ∀ n k st, k ≤ t → k < n → gx_S C K L R (fun i c => tok i = lf c) st t → (∀ c i, c < C → k ≤ i → i ≤ t → (bt (st (i * 13 + t)) c = true ↔ gr_Sp C K L R (fun i c => tok i = lf c) c i t)) →
      wX_matchUpTo_49 post (nI t) n (nI k + (-1)) (nI C) fl ft fo fr fi kd lf rg ls tok st ta := by
  intro n
  induction n with
  | zero => intro k st _ h; omega
  | succ n ih =>
    intro k st hk hn hS hT
    cases k with
    | zero =>
      refine br_t (by decide) (hp st (fun c i j hc hij hj => ?_))
      by_cases e : j = t
      · rw [e]
        exact hT c i hc (Nat.zero_le _) (by omega)
      · exact hS c i j hc hij (by omega)
    | succ j =>
      rw [pk_m1]
      refine br_f (nI_pos (by omega)) (xm_stretch G (by omega) ht (fun l k hl a b => hS l j k hl a b) (fun r k hr a b => hT r k hr (by omega) b) _ (fun st' h1 h2 => ?_))
      refine nm_e (ih j st' (by omega) (by omega) (fun c i j2 hc hij hj => ?_) (fun c i hc hi hit => ?_))
      · rw [h1 _ (by omega)]
        exact hS c i j2 hc hij hj
      · by_cases e : i = j
        · rw [e]
          exact h2 c hc
        · rw [h1 _ (by omega)]
          exact hT c i hc (by omega) hit
theorem xm_4 (G : gx_ok C K L R kd lf rg) {D : Nat → Nat} (GD : fx_Good C 16777216 (of_L K L R) D) (hV : gx_V C ls D) {t : Nat} (ht : t ≤ 12)
    (hS : gx_S C K L R (fun i c => tok i = lf c) st t) (post : St2 → Prop)
    (hp : ∀ st, gx_S C K L R (fun i c => tok i = lf c) st (t + 1) → post (nI C, fl, ft, fo, fr, fi, kd, lf, rg, ls, tok, st, ta)) :
    ∀ n c x2, c ≤ C → C - c < n → (∀ l, l < C → (bt x2 l = true ↔ l < c ∧ D l = 0)) → wX_matchUpTo_4 post (nI t) (nI C) fl ft fo fr fi kd lf rg ls tok st ta n x2 (nI c) := by
  have hC := G.1
  intro n
  induction n with
  | zero => intro c x2 _ h; omega
  | succ n ih =>
    intro c x2 hc hn hx
    refine pk_le C c (fun h => ?_) (fun h => ⟨vp_in_nI (by omega) (by omega), ?_⟩)
    · rw [nx_13, show (nI (t * 13 + t)).toNatClampNeg = t * 13 + t from nI_clamp (by omega)]
      refine ⟨vp_in_nI (by omega) (by omega), nm_e (nm_r (Int32.sub_eq_add_neg _ _) ⟨t + 1, xm_49 G ht post hp (t + 1) t _ (Nat.le_refl _) (by omega) (fun l i j hl hij hj => ?_) (fun l i hl hi hit => ?_)⟩)⟩
      · rw [pk_un (by omega)]
        exact hS l i j hl hij hj
      · have e : i = t := by omega
        rw [e, pk_us, hx l hl, ← gr_null (by omega) (gx_wf G) GD hl t]
        exact ⟨fun z => z.2, fun z => ⟨by omega, z⟩⟩
    · rw [show (nI c).toNatClampNeg = c from nI_clamp (by omega), (hV c h).1]
      have hB := (hV c h).2
      refine pk_eq (D c) 0 (fun e => nm_e (nm_r (nI_1 c) (ih (c + 1) _ (by omega) (by omega) (fun l hl => ?_)))) (fun e => nm_r (nI_1 c) (ih (c + 1) x2 (by omega) (by omega) (fun l hl => ?_)))
      · rw [bm_set _ (by omega) (by omega), Bool.or_eq_true, hx l hl, decide_eq_true_eq]
        constructor
        · intro q
          rcases q with q | q
          · exact ⟨by omega, q.2⟩
          · rw [q]; exact ⟨by omega, e⟩
        · intro q
          by_cases e2 : l = c
          · exact Or.inr e2
          · exact Or.inl ⟨by omega, q.2⟩
      · rw [hx l hl]
        constructor
        · intro q
          exact ⟨by omega, q.2⟩
        · intro q
          refine ⟨?_, q.2⟩
          by_cases e2 : l = c
          · rw [e2] at q
            exact absurd q.2 e
          · omega
theorem xm_upto (G : gx_ok C K L R kd lf rg) {D : Nat → Nat} (GD : fx_Good C 16777216 (of_L K L R) D) (hV : gx_V C ls D) {t : Nat} (ht : t ≤ 12)
    (hS : gx_S C K L R (fun i c => tok i = lf c) st t) (post : St2 → Prop)
    (hp : ∀ st, gx_S C K L R (fun i c => tok i = lf c) st (t + 1) → post (nI C, fl, ft, fo, fr, fi, kd, lf, rg, ls, tok, st, ta)) :
    wpX_matchUpTo post (nI C, fl, ft, fo, fr, fi, kd, lf, rg, ls, tok, st, ta) (nI t) :=
  ⟨C + 1, xm_4 G GD hV ht hS post hp (C + 1) 0 0 (by omega) (by omega) (fun l _ => by
    rw [b_0]
    exact ⟨fun z => absurd z (by decide), fun z => absurd z.1 (by omega)⟩)⟩
end
end
section
/-! the component's tails, row by row from the input's end -/
theorem nx_16m (f : Nat) : nI f * 16 = nI (f * 16) := pk_mul f 16
theorem nx_16 (f t : Nat) : nI f * 16 + nI t = nI (f * 16 + t) := by rw [nx_16m, nI_add]
theorem of_T_ext {K L R : Nat → Nat} {tk : Nat → Nat → Prop} {Mt : Nat → Nat → Nat → Prop} {Ls : Nat → Nat} {T U : Nat → Nat → Nat} {f e : Nat} (h : ∀ k, f < k → T k = U k) :
    of_T K L R tk Mt Ls T f e = of_T K L R tk Mt Ls U f e := by
  funext s c x
  apply propext
  constructor
  · intro o
    rcases o with o | o | ⟨k, o | o | ⟨m, h1, h2, h3, h4⟩⟩
    · exact Or.inl o
    · exact Or.inr (Or.inl o)
    · exact Or.inr (Or.inr ⟨k, Or.inl o⟩)
    · exact Or.inr (Or.inr ⟨k, Or.inr (Or.inl o)⟩)
    · exact Or.inr (Or.inr ⟨k, Or.inr (Or.inr ⟨m, h1, h2, h3, by rw [← h m h1]; exact h4⟩)⟩)
  · intro o
    rcases o with o | o | ⟨k, o | o | ⟨m, h1, h2, h3, h4⟩⟩
    · exact Or.inl o
    · exact Or.inr (Or.inl o)
    · exact Or.inr (Or.inr ⟨k, Or.inl o⟩)
    · exact Or.inr (Or.inr ⟨k, Or.inr (Or.inl o)⟩)
    · exact Or.inr (Or.inr ⟨k, Or.inr (Or.inr ⟨m, h1, h2, h3, by rw [h m h1]; exact h4⟩)⟩)
section
variable {C : Nat} {K L R : Nat → Nat} {cc fl ft fo fr fi : Int32} {kd lf rg ls tok st : Nat → Int32}
theorem xt_25 {ta : Nat → Int32} {l r f e b0 : Nat} (hl : l < 16) (hr : r < 16) (he : e ≤ 13) {P : Nat → Prop} {tv : Nat → Nat}
    (hS : ∀ k, f ≤ k → k < e → (bt (st (f * 13 + k)) l = true ↔ P k)) (hta : ∀ k, f ≤ k → k < e → ta (k * 16 + r) = nI (tv k) ∧ tv k ≤ 16777216) (post : Int32 → Prop)
    (h : ∀ x, x ≤ 16777216 → x ≤ b0 → (∀ k, f ≤ k → k < e → P k → x ≤ tv k) → (x = b0 ∨ ∃ k, f ≤ k ∧ k < e ∧ P k ∧ x = tv k) → post (nI x)) :
    ∀ n k b, f ≤ k → k ≤ e → e - k < n → b ≤ 16777216 → b ≤ b0 → (∀ m, f ≤ m → m < k → P m → b ≤ tv m) → (b = b0 ∨ ∃ m, f ≤ m ∧ m < k ∧ P m ∧ b = tv m) →
      wX_tailInTwo_25 post (nI l) (nI r) (nI f) (nI e) cc fl ft fo fr fi kd lf rg ls tok st ta n (nI b) (nI k) := by
  intro n
  induction n with
  | zero => intro k b _ _ h; omega
  | succ n ih =>
    intro k b hfk hke hn hb hb0 hm hw
    refine pk_le e k (fun z => h b hb hb0 (fun m a c => hm m a (by omega)) ?_) (fun z => xm_at hl (by omega) (fun b1 => ?_) (fun b1 => ?_))
    · rcases hw with hw | ⟨m, a, c, d⟩
      · exact Or.inl hw
      · exact Or.inr ⟨m, a, by omega, d⟩
    · have hv := hta k hfk z
      refine br_f (by decide) ?_
      rw [nx_16, show (nI (k * 16 + r)).toNatClampNeg = k * 16 + r from nI_clamp (by omega), hv.1]
      refine ⟨vp_in_nI (by omega) (by omega), xs_smaller hb hv.2 (fun w => nm_r (nI_1 k) (ih (k + 1) (tv k) (by omega) (by omega) (by omega) hv.2 (by omega) (fun m a c d => ?_) (Or.inr ⟨k, hfk, by omega, (hS k hfk z).1 b1, rfl⟩)))
        (fun w => nm_r (nI_1 k) (ih (k + 1) b (by omega) (by omega) (by omega) hb hb0 (fun m a c d => ?_) ?_))⟩
      · by_cases e2 : m = k
        · rw [e2]; exact Nat.le_refl _
        · exact Nat.le_trans w (hm m a (by omega) d)
      · by_cases e2 : m = k
        · rw [e2]; omega
        · exact hm m a (by omega) d
      · rcases hw with hw | ⟨m, a, c, d⟩
        · exact Or.inl hw
        · exact Or.inr ⟨m, a, by omega, d⟩
    · refine br_t rfl (nm_r (nI_1 k) (ih (k + 1) b (by omega) (by omega) (by omega) hb hb0 (fun m a c d => ?_) ?_))
      · by_cases e2 : m = k
        · rw [e2] at d
          exact absurd ((hS k hfk z).2 d) (bm_nt b1)
        · exact hm m a (by omega) d
      · rcases hw with hw | ⟨m, a, c, d⟩
        · exact Or.inl hw
        · exact Or.inr ⟨m, a, by omega, d⟩
theorem xt_two {ta : Nat → Int32} {D s : Nat → Nat} {T : Nat → Nat → Nat} {l r f e : Nat} (hC : C ≤ 16) (hl : l < C) (hr : r < C) (hfe : f < e) (he : e ≤ 13) {P : Nat → Prop}
    (hS : ∀ k, f ≤ k → k < e → (bt (st (f * 13 + k)) l = true ↔ P k)) (hV : gx_V C ls D) (hs : ∀ c, c < C → ta (f * 16 + c) = nI (s c) ∧ s c ≤ 16777216)
    (hT : ∀ k c, f < k → k < e → c < C → ta (k * 16 + c) = nI (T k c) ∧ T k c ≤ 16777216) (post : Int32 → Prop)
    (h : ∀ x, x ≤ 16777216 → x ≤ s l + D r → (P f → x ≤ s r) → (∀ k, f < k → k < e → P k → x ≤ T k r) → (x < 16777216 → x = s l + D r ∨ (P f ∧ x = s r) ∨ ∃ k, f < k ∧ k < e ∧ P k ∧ x = T k r) → post (nI x)) :
    wpX_tailInTwo post (cc, fl, ft, fo, fr, fi, kd, lf, rg, ls, tok, st, ta) (nI l) (nI r) (nI f) (nI e) := by
  have hsl := hs l hl
  have hsr := hs r hr
  have hD := hV r hr
  have key : ∀ b0, b0 ≤ 16777216 → b0 ≤ s l + D r → (b0 < 16777216 → b0 = s l + D r) → ∃ n, wX_tailInTwo_25 post (nI l) (nI r) (nI f) (nI e) cc fl ft fo fr fi kd lf rg ls tok st ta n (nI b0) (nI f) := by
    intro b0 hb hb1 hb2
    refine ⟨e + 1, xt_25 (P := P) (tv := fun k => if k = f then s r else T k r) (by omega) (by omega) he hS (fun k a b => ?_) post (fun x hx h1 h2 h3 => ?_) (e + 1) f b0 (Nat.le_refl _) (by omega) (by omega) hb (Nat.le_refl _) (fun m a b => absurd a (by omega)) (Or.inl rfl)⟩
    · try dsimp only
      by_cases e2 : k = f
      · rw [if_pos e2, e2]; exact hsr
      · rw [if_neg e2]; exact hT k r (by omega) b hr
    · refine h x hx (by omega) (fun p => ?_) (fun k a b p => ?_) (fun hlt => ?_)
      · have := h2 f (Nat.le_refl _) hfe p
        try dsimp only at this
        rw [if_pos rfl] at this
        exact this
      · have := h2 k (by omega) b p
        try dsimp only at this
        rw [if_neg (by omega)] at this
        exact this
      · rcases h3 with h3 | ⟨k, a, b, p, q⟩
        · exact Or.inl (by omega)
        · try dsimp only at q
          by_cases e2 : k = f
          · rw [if_pos e2] at q
            rw [e2] at p
            exact Or.inr (Or.inl ⟨p, q⟩)
          · rw [if_neg e2] at q
            exact Or.inr (Or.inr ⟨k, by omega, b, p, q⟩)
  unfold wpX_tailInTwo
  try dsimp only
  rw [nx_16, show (nI (f * 16 + l)).toNatClampNeg = f * 16 + l from nI_clamp (by omega), show (nI r).toNatClampNeg = r from nI_clamp (by omega), hsl.1, hD.1]
  exact ⟨vp_in_nI (by omega) (by omega), vp_in_nI (by omega) (by omega), xs_joined hsl.2 hD.2 (fun z => key _ (Nat.le_refl _) z (fun w => absurd w (by omega))) (fun z => key _ (by omega) (Nat.le_refl _) (fun _ => rfl))⟩
theorem xt_rule (G : gx_ok C K L R kd lf rg) {ta : Nat → Int32} {D s : Nat → Nat} {T : Nat → Nat → Nat} {c f e : Nat} (hc : c < C) (hfe : f < e) (he : e ≤ 13)
    (hS : gx_S C K L R (fun i c => tok i = lf c) st e) (hV : gx_V C ls D) (hs : ∀ c, c < C → ta (f * 16 + c) = nI (s c) ∧ s c ≤ 16777216)
    (hT : ∀ k c, f < k → k < e → c < C → ta (k * 16 + c) = nI (T k c) ∧ T k c ≤ 16777216) (post : Int32 → Prop)
    (h : ∀ x, x ≤ 16777216 → (∀ y, of_T K L R (fun i c => tok i = lf c) (gr_Sp C K L R (fun i c => tok i = lf c)) D T f e s c y → x ≤ y) →
      (x < 16777216 → of_T K L R (fun i c => tok i = lf c) (gr_Sp C K L R (fun i c => tok i = lf c)) D T f e s c x) → post (nI x)) :
    wpX_tailByRule post (nI C, fl, ft, fo, fr, fi, kd, lf, rg, ls, tok, st, ta) (nI c) (nI f) (nI e) := by
  have hC := G.1
  obtain ⟨hk, h4, hlr⟩ := G.2 c hc
  have hi : vp_in (nI c) 16 := vp_in_nI (by omega) (by omega)
  unfold wpX_tailByRule
  try dsimp only
  rw [show (nI c).toNatClampNeg = c from nI_clamp (by omega), show (nI f).toNatClampNeg = f from nI_clamp (by omega)]
  refine nm_r (nx_16m f) ⟨hi, nm_r hk ?_⟩
  rcases gx_K4 h4 with e0 | e0 | e0 | e0 | e0
  · rw [e0]
    refine br_t (by decide) (h 16777216 (Nat.le_refl _) (fun y hy => ?_) (fun z => absurd z (by omega)))
    rcases hy with ⟨k, hy⟩ | ⟨k, hy⟩ | ⟨k, hy⟩ <;> omega
  · rw [e0]
    refine br_t (by decide) (h 16777216 (Nat.le_refl _) (fun y hy => ?_) (fun z => absurd z (by omega)))
    rcases hy with ⟨k, hy⟩ | ⟨k, hy⟩ | ⟨k, hy⟩ <;> omega
  · rw [e0]
    refine br_f (by decide) (br_f (by decide) (br_t rfl (pk_eq (f + 1) e (fun e2 => ⟨vp_in_nI (by omega) (by omega), hi, br_c (fun w => h 0 (by omega) (fun y _ => by omega) (fun _ => Or.inl ⟨e0, e2, w, rfl⟩)) (fun w => h 16777216 (Nat.le_refl _) (fun y hy => ?_) (fun z => absurd z (by omega)))⟩)
      (fun e2 => h 16777216 (Nat.le_refl _) (fun y hy => ?_) (fun z => absurd z (by omega))) (nI_1 f))))
    · rcases hy with ⟨k, _, q, _⟩ | ⟨k, hy⟩ | ⟨k, hy⟩
      · exact absurd q w
      · omega
      · omega
    · rcases hy with ⟨k, q, _⟩ | ⟨k, hy⟩ | ⟨k, hy⟩ <;> omega
  · obtain ⟨el, er, hl, hr⟩ := hlr (Or.inl e0)
    have vl := hs _ hl
    have vr := hs _ hr
    rw [e0, el, er, nI_add, nI_add, show (nI (f * 16 + L c)).toNatClampNeg = f * 16 + L c from nI_clamp (by omega), show (nI (f * 16 + R c)).toNatClampNeg = f * 16 + R c from nI_clamp (by omega), vl.1, vr.1]
    refine br_f (by decide) (br_f (by decide) (br_f (by decide) (br_t rfl ⟨hi, vp_in_nI (by omega) (by omega), hi, vp_in_nI (by omega) (by omega), ?_⟩)))
    refine xs_smaller vl.2 vr.2 (fun z => h _ vr.2 (fun y hy => ?_) (fun _ => Or.inr (Or.inl ⟨e0, Or.inr rfl⟩))) (fun z => h _ vl.2 (fun y hy => ?_) (fun _ => Or.inr (Or.inl ⟨e0, Or.inl rfl⟩)))
    · rcases hy with ⟨k, hy⟩ | ⟨k, hy | hy⟩ | ⟨k, hy⟩ <;> omega
    · rcases hy with ⟨k, hy⟩ | ⟨k, hy | hy⟩ | ⟨k, hy⟩ <;> omega
  · obtain ⟨el, er, hl, hr⟩ := hlr (Or.inr e0)
    rw [e0, el, er]
    refine br_f (by decide) (br_f (by decide) (br_f (by decide) (br_f (by decide) (br_t rfl ⟨hi, hi, ?_⟩))))
    refine xt_two hC hl hr hfe he (P := fun k => gr_Sp C K L R (fun i c => tok i = lf c) (L c) f k) (fun k a b => hS _ f k hl a b) hV hs hT _ (fun x hx h1 h2 h3 h5 => h x hx (fun y hy => ?_) (fun w => ?_))
    · rcases hy with ⟨k, hy⟩ | ⟨k, hy⟩ | ⟨k, hy | ⟨p, hy⟩ | ⟨m, a, b, p, hy⟩⟩
      · omega
      · omega
      · rw [hy]; exact h1
      · rw [hy]; exact h2 p
      · rw [hy]; exact h3 m a b p
    · exact Or.inr (Or.inr ⟨e0, h5 w⟩)
/-- row f of the tails against the values t; the other rows are ta0's -/
def xt_rel (C f : Nat) (ta0 ta : Nat → Int32) (t : Nat → Nat) : Prop := (∀ k c, c < 16 → k ≠ f → ta (k * 16 + c) = ta0 (k * 16 + c)) ∧ ∀ c, c < C → ta (f * 16 + c) = nI (t c) ∧ t c ≤ 16777216
theorem xt_60 (G : gx_ok C K L R kd lf rg) {ta0 : Nat → Int32} {D E s : Nat → Nat} {T : Nat → Nat → Nat} {f e : Nat} (hfe : f < e) (he : e ≤ 13)
    (hS : gx_S C K L R (fun i c => tok i = lf c) st e) (hV : gx_V C ls D)
    (hT : ∀ k c, f < k → k < e → c < C → ta0 (k * 16 + c) = nI (T k c) ∧ T k c ≤ 16777216)
    (GE : fx_Good C 16777216 (of_T K L R (fun i c => tok i = lf c) (gr_Sp C K L R (fun i c => tok i = lf c)) D T f e) E) (post : St2 → Prop)
    (J40 : Int32 → Int32 → (Nat → Int32) → (Nat → Int32) → (Nat → Int32) → (Nat → Int32) → (Nat → Int32) → (Nat → Int32) → (Nat → Int32) → Prop) (x5 : Int32)
    (hJ : ∀ x4 ta t, xt_rel C f ta0 ta t → fx_In C (of_T K L R (fun i c => tok i = lf c) (gr_Sp C K L R (fun i c => tok i = lf c)) D T f e) E s C t → (x4 = 0 → ∀ u, u < C → t u = s u) →
      J40 x4 (x5 + 1) kd lf rg ls tok st ta) :
    ∀ n c x4 ta t, c ≤ C → C - c < n → xt_rel C f ta0 ta t → fx_In C (of_T K L R (fun i c => tok i = lf c) (gr_Sp C K L R (fun i c => tok i = lf c)) D T f e) E s c t → (x4 = 0 → ∀ u, u < C → t u = s u) →
      wX_measureTails_60 post J40 (nI f) (nI e) (nI (f * 16)) x5 (nI C) fl ft fo fr fi n x4 (nI c) kd lf rg ls tok st ta := by
  have hC := G.1
  intro n
  induction n with
  | zero => intro c x4 ta t _ h; omega
  | succ n ih =>
    intro c x4 ta t hc hn hr hI hx
    by_cases z : c < C
    · refine br_f (nI_ge z (by omega)) (xt_rule G z hfe he hS hV hr.2 (T := T) (fun k c a b d => by rw [hr.1 k c (by omega) (by omega)]; exact hT k c a b d) _ (fun x hxB hl ho => ?_))
      rw [nI_add, show (nI (f * 16 + c)).toNatClampNeg = f * 16 + c from nI_clamp (by omega), (hr.2 c z).1]
      have hin : vp_in (nI (f * 16 + c)) 224 := vp_in_nI (by omega) (by omega)
      have hB := (hr.2 c z).2
      refine ⟨hin, pk_le (t c) x (fun hle => nm_r (nI_1 c) (ih (c + 1) x4 ta t z (by omega) hr (fx_in_skip (of_T_m _ _ _ f e (gx_wf G)) hI (fun y hy => Nat.le_trans hle (hl y hy))) hx))
        (fun hlt => ⟨hin, nm_e (nm_r (nI_1 c) (ih (c + 1) 1 _ (fun u => if u = c then x else t u) z (by omega) ⟨fun k c' a b => ?_, fun c' hc' => ?_⟩
          (fx_in_set GE (of_T_m _ _ _ f e (gx_wf G)) hI z hlt (ho (by omega)) hl) (fun h => absurd h (by decide))))⟩)⟩
      · rw [pk_un (by omega)]
        exact hr.1 k c' a b
      · try dsimp only
        by_cases e2 : c' = c
        · rw [if_pos e2, e2, pk_us]; exact ⟨rfl, hxB⟩
        · rw [if_neg e2, pk_un (by omega)]; exact hr.2 c' hc'
    · have e2 : c = C := by omega
      subst e2
      exact br_t (nI_le (Nat.le_refl _) (by omega)) (nm_e (hJ x4 ta t hr hI hx))
theorem xt_40 (G : gx_ok C K L R kd lf rg) {ta0 : Nat → Int32} {D E : Nat → Nat} {T : Nat → Nat → Nat} {f e : Nat} (hfe : f < e) (he : e ≤ 13)
    (hS : gx_S C K L R (fun i c => tok i = lf c) st e) (hV : gx_V C ls D)
    (hT : ∀ k c, f < k → k < e → c < C → ta0 (k * 16 + c) = nI (T k c) ∧ T k c ≤ 16777216)
    (GE : fx_Good C 16777216 (of_T K L R (fun i c => tok i = lf c) (gr_Sp C K L R (fun i c => tok i = lf c)) D T f e) E) (post : St2 → Prop)
    (hp : ∀ ta, xt_rel C f ta0 ta E → post (nI C, fl, ft, fo, fr, fi, kd, lf, rg, ls, tok, st, ta)) :
    ∀ n k x4 ta s, k ≤ C → C - k < n → xt_rel C f ta0 ta s → fx_R C 16777216 (fun _ => true) E k s → (x4 = 0 → ∀ u, u < C → s u = E u) →
      wX_measureTails_40 post (nI f) (nI e) (nI (f * 16)) (nI C) fl ft fo fr fi n x4 (nI k) kd lf rg ls tok st ta := by
  have hC := G.1
  have fin : ∀ ta s, xt_rel C f ta0 ta s → (∀ u, u < C → s u = E u) → post (nI C, fl, ft, fo, fr, fi, kd, lf, rg, ls, tok, st, ta) :=
    fun ta s hr e => hp ta ⟨hr.1, fun l hl => by rw [← e l hl]; exact hr.2 l hl⟩
  intro n
  induction n with
  | zero => intro k x4 ta s _ h; omega
  | succ n ih =>
    intro k x4 ta s hk hn hr hR hx
    by_cases z : x4 = 0
    · exact br_t z (fin ta s hr (hx z))
    · refine br_f z (pk_le C k (fun h => fin ta s hr (fx_fin GE (fun _ _ _ _ _ => rfl) hR (by rw [fx_cnt_all]; exact h))) (fun h => ⟨C + 1, ?_⟩))
      refine xt_60 G hfe he hS hV hT GE post _ (nI k) (fun y ta' t hr' hI hy => ?_) (C + 1) 0 0 ta s (by omega) (by omega) hr (fx_in0 hR) (fun _ u _ => rfl)
      rw [nI_1]
      exact ih (k + 1) y ta' t (by omega) (by omega) hr' (fx_in_end GE (fun _ _ _ _ _ => rfl) hR hI) (fun e => fx_in_stop GE hR hI (hy e))
theorem xt_8 (G : gx_ok C K L R kd lf rg) {ta0 : Nat → Int32} {D E : Nat → Nat} {T : Nat → Nat → Nat} {f e : Nat} (hfe : f < e) (he : e ≤ 13)
    (hS : gx_S C K L R (fun i c => tok i = lf c) st e) (hV : gx_V C ls D)
    (hT : ∀ k c, f < k → k < e → c < C → ta0 (k * 16 + c) = nI (T k c) ∧ T k c ≤ 16777216)
    (GE : fx_Good C 16777216 (of_T K L R (fun i c => tok i = lf c) (gr_Sp C K L R (fun i c => tok i = lf c)) D T f e) E) (post : St2 → Prop)
    (hp : ∀ ta, xt_rel C f ta0 ta E → post (nI C, fl, ft, fo, fr, fi, kd, lf, rg, ls, tok, st, ta)) :
    ∀ n c ta, c ≤ C → C - c < n → (∀ k c, c < 16 → k ≠ f → ta (k * 16 + c) = ta0 (k * 16 + c)) → (∀ u, u < c → ta (f * 16 + u) = nI 16777216) →
      wX_measureTails_8 post (nI f) (nI e) (nI (f * 16)) (nI C) fl ft fo fr fi n (nI c) kd lf rg ls tok st ta := by
  have hC := G.1
  intro n
  induction n with
  | zero => intro c ta _ h; omega
  | succ n ih =>
    intro c ta hc hn h0 hu
    refine pk_le C c (fun h => ⟨C + 1, ?_⟩) (fun h => ?_)
    · have e2 : c = C := by omega
      subst e2
      exact xt_40 G hfe he hS hV hT GE post hp (c + 1) 0 1 ta (fun _ => 16777216) (by omega) (by omega) ⟨h0, fun v hv => ⟨hu v hv, Nat.le_refl _⟩⟩ (fx_R0 GE (fun _ _ => rfl)) (fun h => absurd h (by decide))
    · rw [nI_add, show (nI (f * 16 + c)).toNatClampNeg = f * 16 + c from nI_clamp (by omega)]
      refine ⟨vp_in_nI (by omega) (by omega), nm_e (nm_r (nI_1 c) (ih (c + 1) _ (by omega) (by omega) (fun k c' a b => ?_) (fun u hu' => ?_)))⟩
      · rw [pk_un (by omega)]
        exact h0 k c' a b
      · by_cases e2 : u = c
        · rw [e2, pk_us]; rfl
        · rw [pk_un (by omega)]; exact hu u (by omega)
theorem xt_row (G : gx_ok C K L R kd lf rg) {ta : Nat → Int32} {D : Nat → Nat} {T : Nat → Nat → Nat} {f e : Nat} (hfe : f < e) (he : e ≤ 13)
    (hS : gx_S C K L R (fun i c => tok i = lf c) st e) (hV : gx_V C ls D)
    (hT : ∀ k c, f < k → k < e → c < C → ta (k * 16 + c) = nI (T k c) ∧ T k c ≤ 16777216) (post : St2 → Prop)
    (hp : ∀ ta' E, fx_Good C 16777216 (of_T K L R (fun i c => tok i = lf c) (gr_Sp C K L R (fun i c => tok i = lf c)) D T f e) E → xt_rel C f ta ta' E →
      post (nI C, fl, ft, fo, fr, fi, kd, lf, rg, ls, tok, st, ta')) :
    wpX_measureTails post (nI C, fl, ft, fo, fr, fi, kd, lf, rg, ls, tok, st, ta) (nI f) (nI e) := by
  obtain ⟨E, GE⟩ := fx_good (B := 16777216) (of_T_m (tk := fun i c => tok i = lf c) (gr_Sp C K L R (fun i c => tok i = lf c)) D T f e (gx_wf G)) (of_T_w _ _ _ _ f e (gx_wf G))
  exact nm_r (nx_16m f) ⟨C + 1, xt_8 G hfe he hS hV hT GE post (fun ta' h => hp ta' E GE h) (C + 1) 0 ta (by omega) (by omega) (fun _ _ _ _ => rfl) (fun u hu => absurd hu (by omega))⟩
theorem xt_37 (G : gx_ok C K L R kd lf rg) {D : Nat → Nat} {e ro : Nat} (he : e ≤ 13) (hro : ro < C)
    (hS : gx_S C K L R (fun i c => tok i = lf c) st e) (hV : gx_V C ls D) (post : Int32 → St2 → Prop)
    (hp : ∀ ta T, (∀ c, c < C → T e c = D c) → (∀ i, i < e → fx_Good C 16777216 (of_T K L R (fun i c => tok i = lf c) (gr_Sp C K L R (fun i c => tok i = lf c)) D T i e) (T i)) →
      T 0 ro ≤ 16777216 → post (nI (T 0 ro)) (nI C, fl, ft, fo, nI ro, fi, kd, lf, rg, ls, tok, st, ta)) :
    ∀ n k ta T, k ≤ e → k < n → (∀ i c, k ≤ i → i ≤ e → c < C → ta (i * 16 + c) = nI (T i c) ∧ T i c ≤ 16777216) → (∀ c, c < C → T e c = D c) →
      (∀ i, k ≤ i → i < e → fx_Good C 16777216 (of_T K L R (fun i c => tok i = lf c) (gr_Sp C K L R (fun i c => tok i = lf c)) D T i e) (T i)) →
      wX_tokensMissing_37 post (nI e) n (nI k + (-1)) (nI C) fl ft fo (nI ro) fi kd lf rg ls tok st ta := by
  have hC := G.1
  intro n
  induction n with
  | zero => intro k ta T _ h; omega
  | succ n ih =>
    intro k ta T hk hn hv hD hG
    cases k with
    | zero =>
      have h0 := hv 0 ro (Nat.le_refl _) (by omega) hro
      rw [show 0 * 16 + ro = ro from by omega] at h0
      refine br_t (by decide) ⟨vp_in_nI (by omega) (by omega), ?_⟩
      rw [show (nI ro).toNatClampNeg = ro from nI_clamp (by omega), h0.1]
      exact hp ta T hD (fun i hi => hG i (Nat.zero_le _) hi) h0.2
    | succ j =>
      rw [pk_m1]
      refine br_f (nI_pos (by omega)) (xt_row G (by omega) he hS hV (T := T) (fun k c a b d => hv k c (by omega) (by omega) d) _ (fun ta' E GE hr => ?_))
      have up : ∀ k, j < k → (fun i => if i = j then E else T i) k = T k := fun k h => if_neg (by omega)
      refine nm_e (ih j ta' (fun i => if i = j then E else T i) (by omega) (by omega) (fun i c a b d => ?_) (fun c d => ?_) (fun i a b => ?_))
      · try dsimp only
        by_cases e2 : i = j
        · rw [if_pos e2, e2]; exact hr.2 c d
        · rw [if_neg e2, hr.1 i c (by omega) e2]; exact hv i c (by omega) b d
      · try dsimp only
        rw [if_neg (by omega)]
        exact hD c d
      · rw [of_T_ext (U := T) (fun k h => up k (by omega))]
        try dsimp only
        by_cases e2 : i = j
        · rw [if_pos e2, e2]; exact GE
        · rw [if_neg e2]; exact hG i (by omega) b
theorem xt_2 (G : gx_ok C K L R kd lf rg) {D : Nat → Nat} {e ro : Nat} (he : e ≤ 13) (hro : ro < C)
    (hS : gx_S C K L R (fun i c => tok i = lf c) st e) (hV : gx_V C ls D) (post : Int32 → St2 → Prop)
    (hp : ∀ ta T, (∀ c, c < C → T e c = D c) → (∀ i, i < e → fx_Good C 16777216 (of_T K L R (fun i c => tok i = lf c) (gr_Sp C K L R (fun i c => tok i = lf c)) D T i e) (T i)) →
      T 0 ro ≤ 16777216 → post (nI (T 0 ro)) (nI C, fl, ft, fo, nI ro, fi, kd, lf, rg, ls, tok, st, ta)) :
    ∀ n c ta, c ≤ C → C - c < n → (∀ u, u < c → ta (e * 16 + u) = nI (D u)) → wX_tokensMissing_2 post (nI e) (nI C) fl ft fo (nI ro) fi n (nI c) kd lf rg ls tok st ta := by
  have hC := G.1
  intro n
  induction n with
  | zero => intro c ta _ h; omega
  | succ n ih =>
    intro c ta hc hn hu
    refine pk_le C c (fun h => ?_) (fun h => ⟨vp_in_nI (by omega) (by omega), ?_⟩)
    · have e2 : c = C := by omega
      subst e2
      refine nm_r (Int32.sub_eq_add_neg _ _) ⟨e + 1, xt_37 G he hro hS hV post hp (e + 1) e ta (fun _ => D) (Nat.le_refl _) (by omega) (fun i c' a b d => ?_) (fun _ _ => rfl) (fun i a b => absurd a (by omega))⟩
      have e3 : i = e := by omega
      rw [e3]
      exact ⟨hu c' d, (hV c' d).2⟩
    · rw [nx_16, show (nI (e * 16 + c)).toNatClampNeg = e * 16 + c from nI_clamp (by omega), show (nI c).toNatClampNeg = c from nI_clamp (by omega), (hV c h).1]
      refine ⟨vp_in_nI (by omega) (by omega), nm_e (nm_r (nI_1 c) (ih (c + 1) _ (by omega) (by omega) (fun u hu' => ?_)))⟩
      by_cases e2 : u = c
      · rw [e2, pk_us]
      · rw [pk_un (by omega)]; exact hu u (by omega)
theorem xt_missing (G : gx_ok C K L R kd lf rg) {ta : Nat → Int32} {D : Nat → Nat} {e ro : Nat} (he : e ≤ 13) (hro : ro < C)
    (hS : gx_S C K L R (fun i c => tok i = lf c) st e) (hV : gx_V C ls D) (post : Int32 → St2 → Prop)
    (hp : ∀ ta T, (∀ c, c < C → T e c = D c) → (∀ i, i < e → fx_Good C 16777216 (of_T K L R (fun i c => tok i = lf c) (gr_Sp C K L R (fun i c => tok i = lf c)) D T i e) (T i)) →
      T 0 ro ≤ 16777216 → post (nI (T 0 ro)) (nI C, fl, ft, fo, nI ro, fi, kd, lf, rg, ls, tok, st, ta)) :
    wpX_tokensMissing post (nI C, fl, ft, fo, nI ro, fi, kd, lf, rg, ls, tok, st, ta) (nI e) :=
  ⟨C + 1, xt_2 G he hro hS hV post hp (C + 1) 0 ta (by omega) (by omega) (fun u hu => absurd hu (by omega))⟩
end
end
section
/-! words as lists of tokens; a tail is the least number of tokens that complete -/
theorem fx_bound {N B : Nat} {Of : (Nat → Nat) → Nat → Nat → Prop} {D : Nat → Nat} (G : fx_Good N B Of D) (hm : fx_Mono N Of) (b : Nat → Nat) (hb : ∀ k, b k ≤ b (k + 1))
    (hs : ∀ k v x, v < N → Of (fun u => if D u ≤ b k then D u else B) v x → x < B → x ≤ b (k + 1)) : ∀ v, v < N → D v < B → D v ≤ b N := by
  have key : ∀ k, k ≤ fx_cnt (fun v => decide (D v ≤ b k)) N ∨ ∀ v, v < N → D v < B → D v ≤ b k := by
    intro k
    induction k with
    | zero => exact Or.inl (Nat.zero_le _)
    | succ k ih =>
      by_cases h : ∀ v, v < N → D v < B → D v ≤ b k
      · exact Or.inr (fun v hv hl => Nat.le_trans (h v hv hl) (hb k))
      · rcases ih with ih | ih
        · left
          have hx : ∃ v, v < N ∧ (fun u => if D u ≤ b k then D u else B) v ≠ D v := by
            by_cases h2 : ∃ v, v < N ∧ D v < B ∧ ¬ D v ≤ b k
            · obtain ⟨v, h3, h4, h5⟩ := h2
              refine ⟨v, h3, ?_⟩
              try dsimp only
              rw [if_neg h5]
              omega
            · exact absurd (fun v h3 h4 => Classical.byContradiction (fun z => h2 ⟨v, h3, h4, z⟩)) h
          obtain ⟨v, hv, hn, x, hxD, ho⟩ := G.2.2.2 _ (fun v hv => by
            have := G.1 v hv
            try dsimp only
            by_cases e : D v ≤ b k
            · rw [if_pos e]; omega
            · rw [if_neg e]; omega) hx
          try dsimp only at hn
          have h1 : ¬ D v ≤ b k := fun e => hn (if_pos e)
          rw [if_neg h1] at hn
          have h2 := G.1 v hv
          have h3 := hs k v x hv ho (by omega)
          obtain ⟨y, hy, oy⟩ := hm _ D v x hv (fun u hu => by
            have := G.1 u hu
            try dsimp only
            by_cases e : D u ≤ b k
            · rw [if_pos e]; exact Nat.le_refl _
            · rw [if_neg e]; exact this) ho
          have h4 := G.2.1 v hv y oy
          refine Nat.lt_of_le_of_lt ih (fx_cnt_lt N (fun u _ h => ?_) ⟨v, hv, decide_eq_false h1, decide_eq_true (by omega)⟩)
          rw [decide_eq_true_eq] at h ⊢
          exact Nat.le_trans h (hb k)
        · exact absurd ih h
  intro v hv hl
  rcases key N with h | h
  · have := fx_cnt_full (p := fun v => decide (D v ≤ b N)) (q := fun _ => true) (n := N) (fun _ _ _ => rfl) (by rw [fx_cnt_all]; exact h) v hv rfl
    exact of_decide_eq_true this
  · exact h v hv hl
def wd_s (w : Nat → Int32) : Nat → Nat → List Int32
  | _, 0 => []
  | i, k + 1 => w i :: wd_s w (i + 1) k
theorem wd_len (w : Nat → Int32) : ∀ k i, (wd_s w i k).length = k := by
  intro k
  induction k with
  | zero => intro i; rfl
  | succ k ih => intro i; exact congrArg (· + 1) (ih (i + 1))
theorem wd_add (w : Nat → Int32) : ∀ a i b, wd_s w i (a + b) = wd_s w i a ++ wd_s w (i + a) b := by
  intro a
  induction a with
  | zero => intro i b; rw [Nat.zero_add]; rfl
  | succ a ih =>
    intro i b
    rw [show a + 1 + b = (a + b) + 1 from by omega]
    show w i :: wd_s w (i + 1) (a + b) = w i :: (wd_s w (i + 1) a ++ wd_s w (i + (a + 1)) b)
    rw [ih (i + 1) b, show i + 1 + a = i + (a + 1) from by omega]
theorem wd_split {w : Nat → Int32} {i m : Nat} {a b : List Int32} (h : wd_s w i m = a ++ b) : a.length ≤ m ∧ a = wd_s w i a.length ∧ b = wd_s w (i + a.length) (m - a.length) := by
  have hl : m = a.length + b.length := by
    have := congrArg List.length h
    rw [wd_len, List.length_append] at this
    exact this
  have e : wd_s w i m = wd_s w i a.length ++ wd_s w (i + a.length) (m - a.length) := by
    rw [← wd_add]
    exact congrArg (wd_s w i) (by omega)
  have := List.append_inj (h.symm.trans e) (by rw [wd_len])
  exact ⟨by omega, this.1, this.2⟩
theorem wd_ext {w w' : Nat → Int32} : ∀ k i, (∀ t, i ≤ t → t < i + k → w t = w' t) → wd_s w i k = wd_s w' i k := by
  intro k
  induction k with
  | zero => intro i _; rfl
  | succ k ih =>
    intro i h
    show w i :: wd_s w (i + 1) k = w' i :: wd_s w' (i + 1) k
    rw [h i (Nat.le_refl _) (by omega), ih (i + 1) (fun t a b => h t (by omega) (by omega))]
theorem wd_upd (w : Nat → Int32) (n : Nat) (x : Int32) : wd_s (upd w n x) 0 (n + 1) = wd_s w 0 n ++ [x] := by
  rw [wd_add, wd_ext (w := upd w n x) (w' := w) n 0 (fun t _ h => pk_un (by omega))]
  show _ ++ [upd w n x (0 + n)] = _
  rw [Nat.zero_add, pk_us]
section
variable (C : Nat) (K L R : Nat → Nat) (lf : Nat → Int32)
def la_cl (P : Nat → List Int32 → Prop) : Prop :=
  ∀ c u, c < C → ((K c = 1 ∧ u = []) ∨ (K c = 2 ∧ u = [lf c]) ∨ (K c = 3 ∧ (P (L c) u ∨ P (R c) u)) ∨ (K c = 4 ∧ ∃ a b, u = a ++ b ∧ P (L c) a ∧ P (R c) b)) → P c u
def la_In (c : Nat) (u : List Int32) : Prop := ∀ P, la_cl C K L R lf P → P c u
/-- x tokens complete the first n of w to a word of c, and no fewer; 16777216 if none do -/
def la_V (w : Nat → Int32) (n c x : Nat) : Prop :=
  x ≤ 16777216 ∧ (x < 16777216 → ∃ q : List Int32, q.length = x ∧ la_In C K L R lf c (wd_s w 0 n ++ q)) ∧ ∀ q, la_In C K L R lf c (wd_s w 0 n ++ q) → x ≤ q.length ∧ x < 16777216
end
section
variable {C : Nat} {K L R : Nat → Nat} {lf w : Nat → Int32}
theorem la_in : la_cl C K L R lf (la_In C K L R lf) := by
  intro c u hc h P hP
  refine hP c u hc ?_
  rcases h with h | h | ⟨k, h | h⟩ | ⟨k, a, b, e, h1, h2⟩
  · exact Or.inl h
  · exact Or.inr (Or.inl h)
  · exact Or.inr (Or.inr (Or.inl ⟨k, Or.inl (h P hP)⟩))
  · exact Or.inr (Or.inr (Or.inl ⟨k, Or.inr (h P hP)⟩))
  · exact Or.inr (Or.inr (Or.inr ⟨k, a, b, e, h1 P hP, h2 P hP⟩))
theorem la_V_u {n c x y : Nat} (h : la_V C K L R lf w n c x) (g : la_V C K L R lf w n c y) : x = y := by
  by_cases hx : x < 16777216
  · obtain ⟨q, e, o⟩ := h.2.1 hx
    have a := g.2.2 q o
    obtain ⟨q2, e2, o2⟩ := g.2.1 a.2
    have b := h.2.2 q2 o2
    omega
  · by_cases hy : y < 16777216
    · obtain ⟨q, e, o⟩ := g.2.1 hy
      have a := h.2.2 q o
      omega
    · have := h.1
      have := g.1
      omega
theorem la_V_w {n c x : Nat} {w' : Nat → Int32} (h : la_V C K L R lf w n c x) (e : ∀ t, t < n → w t = w' t) : la_V C K L R lf w' n c x := by
  unfold la_V at h ⊢
  rw [← wd_ext (w := w) (w' := w') n 0 (fun t _ b => e t (by omega))]
  exact h
theorem la_sp {c i j : Nat} (h : gr_Sp C K L R (fun i c => w i = lf c) c i j) : la_In C K L R lf c (wd_s w i (j - i)) := by
  refine h (fun c i j => la_In C K L R lf c (wd_s w i (j - i))) ?_
  intro c i j hc hij h
  refine la_in c _ hc ?_
  rcases h with ⟨k, e⟩ | ⟨k, e, t⟩ | ⟨k, h | h⟩ | ⟨k, m, h1, h2, h3, h4⟩
  · rw [e, Nat.sub_self]
    exact Or.inl ⟨k, rfl⟩
  · rw [e, Nat.add_sub_cancel_left, ← t]
    exact Or.inr (Or.inl ⟨k, rfl⟩)
  · exact Or.inr (Or.inr (Or.inl ⟨k, Or.inl h⟩))
  · exact Or.inr (Or.inr (Or.inl ⟨k, Or.inr h⟩))
  · refine Or.inr (Or.inr (Or.inr ⟨k, _, _, ?_, h3, h4⟩))
    have := wd_add w (m - i) i (j - m)
    rw [show m - i + (j - m) = j - i from by omega, show i + (m - i) = m from by omega] at this
    exact this
theorem la_ps {c : Nat} {u : List Int32} (h : la_In C K L R lf c u) : ∀ i, u = wd_s w i u.length → gr_Sp C K L R (fun i c => w i = lf c) c i (i + u.length) := by
  refine h (fun c u => ∀ i, u = wd_s w i u.length → gr_Sp C K L R (fun i c => w i = lf c) c i (i + u.length)) ?_
  intro c u hc h i e
  refine gr_sp_cl c i (i + u.length) hc (by omega) ?_
  rcases h with ⟨k, e2⟩ | ⟨k, e2⟩ | ⟨k, h | h⟩ | ⟨k, a, b, e2, h1, h2⟩
  · rw [e2]
    exact Or.inl ⟨k, rfl⟩
  · rw [e2] at e ⊢
    have : [lf c] = [w i] := e
    exact Or.inr (Or.inl ⟨k, rfl, by injection this with h; exact h.symm⟩)
  · exact Or.inr (Or.inr (Or.inl ⟨k, Or.inl (h i e)⟩))
  · exact Or.inr (Or.inr (Or.inl ⟨k, Or.inr (h i e)⟩))
  · have s := wd_split (w := w) (i := i) (m := u.length) (a := a) (b := b) (by rw [← e]; exact e2)
    have hl : u.length = a.length + b.length := by rw [e2, List.length_append]
    refine Or.inr (Or.inr (Or.inr ⟨k, i + a.length, by omega, by omega, h1 i s.2.1, ?_⟩))
    have := h2 (i + a.length) (by rw [← show u.length - a.length = b.length from by omega]; exact s.2.2)
    rw [hl, ← Nat.add_assoc]
    exact this
theorem la_tok {A : Nat} (hA : ∀ c, c < C → K c = 2 → ∃ a, a < A ∧ lf c = nI a) {c : Nat} {u : List Int32} (h : la_In C K L R lf c u) : ∀ t, t ∈ u → ∃ a, a < A ∧ t = nI a := by
  refine h (fun c u => ∀ t, t ∈ u → ∃ a, a < A ∧ t = nI a) ?_
  intro c u hc h t ht
  rcases h with ⟨k, e⟩ | ⟨k, e⟩ | ⟨k, h | h⟩ | ⟨k, a, b, e, h1, h2⟩
  · rw [e] at ht
    exact absurd ht (List.not_mem_nil)
  · rw [e, List.mem_singleton] at ht
    rw [ht]
    exact hA c hc k
  · exact h t ht
  · exact h t ht
  · rw [e, List.mem_append] at ht
    rcases ht with ht | ht
    · exact h1 t ht
    · exact h2 t ht
theorem la_bL {D : Nat → Nat} (wf : gr_wf C K L R) (G : fx_Good C 16777216 (of_L K L R) D) {c : Nat} (hc : c < C) (h : D c < 16777216) : D c ≤ 2 ^ C := by
  refine fx_bound G (of_L_m wf) (fun k => 2 ^ k) (fun k => Nat.pow_le_pow_right (by omega) (by omega)) (fun k v x hv ho hx => ?_) c hc h
  have p : 1 ≤ 2 ^ k := Nat.one_le_two_pow
  have e : 2 ^ (k + 1) = 2 ^ k * 2 := Nat.pow_succ 2 k
  have q : ∀ u, (if D u ≤ 2 ^ k then D u else 16777216) < 16777216 → (if D u ≤ 2 ^ k then D u else 16777216) ≤ 2 ^ k := by
    intro u hu
    by_cases z : D u ≤ 2 ^ k
    · rw [if_pos z]; exact z
    · rw [if_neg z] at hu; omega
  show x ≤ 2 ^ (k + 1)
  rw [e]
  rcases ho with ⟨_, ho⟩ | ⟨_, ho⟩ | ⟨_, ho | ho⟩ | ⟨_, ho⟩
  · omega
  · omega
  · dsimp only at ho
    have := q (L v) (by omega); omega
  · dsimp only at ho
    have := q (R v) (by omega); omega
  · dsimp only at ho
    have := q (L v) (by omega)
    have := q (R v) (by omega)
    omega
theorem la_bT {D : Nat → Nat} {T : Nat → Nat → Nat} {n : Nat} (hC : C = 8) (wf : gr_wf C K L R) (G : fx_Good C 16777216 (of_L K L R) D)
    (h0 : ∀ c, c < C → T n c = D c) (hT : ∀ i, i < n → fx_Good C 16777216 (of_T K L R (fun i c => w i = lf c) (gr_Sp C K L R (fun i c => w i = lf c)) D T i n) (T i)) :
    ∀ d i, i + d = n → ∀ c, c < C → T i c < 16777216 → T i c ≤ 256 + d * 2048 := by
  have bL : ∀ c, c < C → D c < 16777216 → D c ≤ 256 := fun c hc h => by
    have := la_bL wf G hc h
    rw [hC] at this
    exact this
  intro d
  induction d using Nat.strongRecOn with
  | ind d ih =>
    intro i hd c hc h
    by_cases e : d = 0
    · have e2 : i = n := by omega
      rw [e2, h0 c hc] at h ⊢
      have := bL c hc h
      omega
    · have key := fx_bound (hT i (by omega)) (of_T_m _ _ _ i n wf) (fun k => (256 + (d - 1) * 2048) + k * 256) (fun k => by omega) (fun k v x hv ho hx => ?_) c hc h
      · rw [hC] at key
        omega
      · have q : ∀ u, (if T i u ≤ (256 + (d - 1) * 2048) + k * 256 then T i u else 16777216) < 16777216 → (if T i u ≤ (256 + (d - 1) * 2048) + k * 256 then T i u else 16777216) ≤ (256 + (d - 1) * 2048) + k * 256 := by
          intro u hu
          by_cases z : T i u ≤ (256 + (d - 1) * 2048) + k * 256
          · rw [if_pos z]; exact z
          · rw [if_neg z] at hu; omega
        show x ≤ (256 + (d - 1) * 2048) + (k + 1) * 256
        rcases ho with ⟨_, _, _, ho⟩ | ⟨_, ho | ho⟩ | ⟨kk, ho | ⟨_, ho⟩ | ⟨m, h1, h2, h3, ho⟩⟩
        · omega
        · dsimp only at ho
          have := q (L v) (by omega); omega
        · dsimp only at ho
          have := q (R v) (by omega); omega
        · dsimp only at ho
          have a := q (L v) (by omega)
          have b := bL (R v) (wf v hv (Or.inr kk)).2 (by omega)
          omega
        · dsimp only at ho
          have := q (R v) (by omega); omega
        · have := ih (n - m) (by omega) m (by omega) (R v) (wf v hv (Or.inr kk)).2 (by omega)
          omega
theorem la_up {D : Nat → Nat} {T : Nat → Nat → Nat} {n : Nat} (hC : C = 8) (hn : n ≤ 13) (wf : gr_wf C K L R) (G : fx_Good C 16777216 (of_L K L R) D)
    (h0 : ∀ c, c < C → T n c = D c) (hT : ∀ i, i < n → fx_Good C 16777216 (of_T K L R (fun i c => w i = lf c) (gr_Sp C K L R (fun i c => w i = lf c)) D T i n) (T i))
    {c : Nat} {u : List Int32} (hc : c < C) (h : la_In C K L R lf c u) : ∀ i q, i ≤ n → u = wd_s w i (n - i) ++ q → T i c ≤ q.length ∧ T i c < 16777216 := by
  refine (h (fun c u => la_In C K L R lf c u ∧ (c < C → ∀ i q, i ≤ n → u = wd_s w i (n - i) ++ q → T i c ≤ q.length ∧ T i c < 16777216)) ?_).2 hc
  intro c u hc h
  constructor
  · refine la_in c u hc ?_
    rcases h with h | h | ⟨k, h | h⟩ | ⟨k, a, b, e, h1, h2⟩
    · exact Or.inl h
    · exact Or.inr (Or.inl h)
    · exact Or.inr (Or.inr (Or.inl ⟨k, Or.inl h.1⟩))
    · exact Or.inr (Or.inr (Or.inl ⟨k, Or.inr h.1⟩))
    · exact Or.inr (Or.inr (Or.inr ⟨k, a, b, e, h1.1, h2.1⟩))
  · intro _ i q hi e
    have oL : i = n → ∀ y, of_L K L R D c y → T i c ≤ y := fun e y hy => by rw [e, h0 c hc]; exact G.2.1 c hc y hy
    have oT : i < n → ∀ y, of_T K L R (fun i c => w i = lf c) (gr_Sp C K L R (fun i c => w i = lf c)) D T i n (T i) c y → T i c ≤ y := fun e y hy => (hT i e).2.1 c hc y hy
    have hlen : u.length = (n - i) + q.length := by rw [e, List.length_append, wd_len]
    rcases h with ⟨k, e2⟩ | ⟨k, e2⟩ | ⟨k, h | h⟩ | ⟨k, a, b, e2, h1, h2⟩
    · rw [e2] at hlen
      have : ([] : List Int32).length = 0 := rfl
      have := oL (by omega) 0 (Or.inl ⟨k, rfl⟩)
      omega
    · have e3 : u.length = 1 := by rw [e2]; rfl
      by_cases z : i = n
      · have := oL z 1 (Or.inr (Or.inl ⟨k, rfl⟩))
        omega
      · have e4 : n - i = 1 := by omega
        rw [e4, e2] at e
        have e5 : [lf c] = w i :: ([] ++ q) := e
        injection e5 with e6 _
        have := oT (by omega) 0 (Or.inl ⟨k, by omega, e6.symm, rfl⟩)
        omega
    · have a := h.2 (wf c hc (Or.inl k)).1 i q hi e
      by_cases z : i = n
      · have := oL z _ (Or.inr (Or.inr (Or.inl ⟨k, Or.inl rfl⟩)))
        rw [← h0 _ (wf c hc (Or.inl k)).1, ← z] at this
        omega
      · have := oT (by omega) _ (Or.inr (Or.inl ⟨k, Or.inl rfl⟩))
        omega
    · have a := h.2 (wf c hc (Or.inl k)).2 i q hi e
      by_cases z : i = n
      · have := oL z _ (Or.inr (Or.inr (Or.inl ⟨k, Or.inr rfl⟩)))
        rw [← h0 _ (wf c hc (Or.inl k)).2, ← z] at this
        omega
      · have := oT (by omega) _ (Or.inr (Or.inl ⟨k, Or.inr rfl⟩))
        omega
    · have wl := (wf c hc (Or.inr k)).1
      have wr := (wf c hc (Or.inr k)).2
      rcases List.append_eq_append_iff.mp (e2.symm.trans e) with ⟨a', p1, p2⟩ | ⟨c', p1, p2⟩
      · obtain ⟨s1, s2, s3⟩ := wd_split p1
        have vr := h2.2 wr (i + a.length) q (by omega) (by rw [p2, s3, show n - (i + a.length) = n - i - a.length from by omega])
        by_cases z : i = n
        · have e3 : a.length = 0 := by omega
          have vl := h1.2 wl i [] hi (by rw [List.append_nil, show n - i = a.length from by omega]; exact s2)
          have := oL z _ (Or.inr (Or.inr (Or.inr ⟨k, rfl⟩)))
          rw [← h0 _ wl, ← h0 _ wr, ← z] at this
          rw [e3, Nat.add_zero] at vr
          have : ([] : List Int32).length = 0 := rfl
          omega
        · by_cases z2 : a.length = n - i
          · have vl := h1.2 wl i [] hi (by rw [List.append_nil, ← z2]; exact s2)
            have bl := la_bT hC wf G h0 hT (n - i) i (by omega) _ wl vl.2
            have a1 := oT (by omega) _ (Or.inr (Or.inr ⟨k, Or.inl rfl⟩))
            rw [← h0 _ wr] at a1
            rw [show i + a.length = n from by omega] at vr
            have : ([] : List Int32).length = 0 := rfl
            have br := la_bT hC wf G h0 hT 0 n (by omega) _ wr vr.2
            omega
          · have sp := la_ps h1.1 i s2
            by_cases z3 : a.length = 0
            · rw [z3, Nat.add_zero] at sp vr
              have a1 := oT (by omega) _ (Or.inr (Or.inr ⟨k, Or.inr (Or.inl ⟨sp, rfl⟩)⟩))
              omega
            · have a1 := oT (by omega) _ (Or.inr (Or.inr ⟨k, Or.inr (Or.inr ⟨i + a.length, by omega, by omega, sp, rfl⟩)⟩))
              omega
      · have vl := h1.2 wl i c' hi p1
        have vr := h2.2 wr n b (Nat.le_refl _) (by rw [Nat.sub_self]; rfl)
        have bl := la_bT hC wf G h0 hT (n - i) i (by omega) _ wl vl.2
        have br := la_bT hC wf G h0 hT 0 n (by omega) _ wr vr.2
        have hq : q.length = c'.length + b.length := by rw [p2, List.length_append]
        by_cases z : i = n
        · have := oL z _ (Or.inr (Or.inr (Or.inr ⟨k, rfl⟩)))
          rw [← h0 _ wl, ← h0 _ wr, ← z] at this
          rw [← z] at vr br
          omega
        · have a1 := oT (by omega) _ (Or.inr (Or.inr ⟨k, Or.inl rfl⟩))
          rw [← h0 _ wr] at a1
          omega
end
end
section
/-! the value of an input, and of an input with one more token -/
section
variable {C : Nat} {K L R : Nat → Nat} {lf w : Nat → Int32}
noncomputable def la_m (C : Nat) (K L R : Nat → Nat) (lf w : Nat → Int32) (n i c : Nat) : Nat :=
  fx_F 16777216 (fun _ _ x => ∃ q : List Int32, q.length = x ∧ la_In C K L R lf c (wd_s w i (n - i) ++ q)) (fun _ => 0) 0
theorem la_m_B (n i c : Nat) : la_m C K L R lf w n i c ≤ 16777216 := fx_F_B _ _
theorem la_m_le {n i c : Nat} {q : List Int32} (h : la_In C K L R lf c (wd_s w i (n - i) ++ q)) : la_m C K L R lf w n i c ≤ q.length :=
  fx_F_le (Of := fun _ _ x => ∃ q : List Int32, q.length = x ∧ la_In C K L R lf c (wd_s w i (n - i) ++ q)) (s := fun _ => 0) (v := 0) ⟨q, rfl, h⟩
theorem la_m_of {n i c : Nat} (h : la_m C K L R lf w n i c < 16777216) : ∃ q : List Int32, q.length = la_m C K L R lf w n i c ∧ la_In C K L R lf c (wd_s w i (n - i) ++ q) :=
  fx_F_of (Of := fun _ _ x => ∃ q : List Int32, q.length = x ∧ la_In C K L R lf c (wd_s w i (n - i) ++ q)) (s := fun _ => 0) (v := 0) h
/-- an offer made of others' values with words is no less -/
theorem la_m_1 {n i c j d x : Nat} (hx : x = la_m C K L R lf w n j d) (h : ∀ q, la_In C K L R lf d (wd_s w j (n - j) ++ q) → la_In C K L R lf c (wd_s w i (n - i) ++ q)) : la_m C K L R lf w n i c ≤ x := by
  by_cases z : la_m C K L R lf w n j d < 16777216
  · obtain ⟨q, e, o⟩ := la_m_of z
    have := la_m_le (h q o)
    omega
  · have := la_m_B (C := C) (K := K) (L := L) (R := R) (lf := lf) (w := w) n i c
    omega
theorem la_dn {D : Nat → Nat} {T : Nat → Nat → Nat} {n : Nat} (wf : gr_wf C K L R) (G : fx_Good C 16777216 (of_L K L R) D)
    (h0 : ∀ c, c < C → T n c = D c) (hT : ∀ i, i < n → fx_Good C 16777216 (of_T K L R (fun i c => w i = lf c) (gr_Sp C K L R (fun i c => w i = lf c)) D T i n) (T i)) :
    ∀ d i, i + d = n → ∀ c, c < C → la_m C K L R lf w n i c ≤ T i c := by
  have two : ∀ i c, i ≤ n → c < C → K c = 4 → la_m C K L R lf w n i c ≤ la_m C K L R lf w n i (L c) + la_m C K L R lf w n n (R c) := by
    intro i c hi hc k
    have b := la_m_B (C := C) (K := K) (L := L) (R := R) (lf := lf) (w := w) n i c
    by_cases z1 : la_m C K L R lf w n i (L c) < 16777216
    · by_cases z2 : la_m C K L R lf w n n (R c) < 16777216
      · obtain ⟨q1, e1, o1⟩ := la_m_of z1
        obtain ⟨q2, e2, o2⟩ := la_m_of z2
        rw [Nat.sub_self] at o2
        have := la_m_le (C := C) (K := K) (L := L) (R := R) (lf := lf) (w := w) (n := n) (i := i) (c := c) (q := q1 ++ q2) (la_in c _ hc (Or.inr (Or.inr (Or.inr ⟨k, wd_s w i (n - i) ++ q1, q2, by rw [List.append_assoc], o1, o2⟩))))
        rw [List.length_append] at this
        omega
      · omega
    · omega
  have row : ∀ c, c < C → la_m C K L R lf w n n c ≤ T n c := by
    intro c hc
    rw [h0 c hc]
    refine G.2.2.1 (fun c => la_m C K L R lf w n n c) (fun c hc => ⟨la_m_B n n c, fun x hx => ?_⟩) c hc
    show la_m C K L R lf w n n c ≤ x
    rcases hx with ⟨k, hx⟩ | ⟨k, hx⟩ | ⟨k, hx | hx⟩ | ⟨k, hx⟩
    · have := la_m_le (C := C) (K := K) (L := L) (R := R) (lf := lf) (w := w) (n := n) (i := n) (c := c) (q := []) (by rw [Nat.sub_self]; exact la_in c _ hc (Or.inl ⟨k, rfl⟩))
      have : ([] : List Int32).length = 0 := rfl
      omega
    · have := la_m_le (C := C) (K := K) (L := L) (R := R) (lf := lf) (w := w) (n := n) (i := n) (c := c) (q := [lf c]) (by rw [Nat.sub_self]; exact la_in c _ hc (Or.inr (Or.inl ⟨k, rfl⟩)))
      have : [lf c].length = 1 := rfl
      omega
    · exact la_m_1 hx (fun q o => la_in c _ hc (Or.inr (Or.inr (Or.inl ⟨k, Or.inl o⟩))))
    · exact la_m_1 hx (fun q o => la_in c _ hc (Or.inr (Or.inr (Or.inl ⟨k, Or.inr o⟩))))
    · rw [hx]
      exact two n c (Nat.le_refl _) hc k
  intro d
  induction d using Nat.strongRecOn with
  | ind d ih =>
    intro i hd c hc
    by_cases e : d = 0
    · have e2 : i = n := by omega
      rw [e2]
      exact row c hc
    · refine (hT i (by omega)).2.2.1 (fun c => la_m C K L R lf w n i c) (fun c hc => ⟨la_m_B n i c, fun x hx => ?_⟩) c hc
      show la_m C K L R lf w n i c ≤ x
      rcases hx with ⟨k, h1, h2, hx⟩ | ⟨k, hx | hx⟩ | ⟨k, hx | ⟨h1, hx⟩ | ⟨m, h1, h2, h3, hx⟩⟩
      · have := la_m_le (C := C) (K := K) (L := L) (R := R) (lf := lf) (w := w) (n := n) (i := i) (c := c) (q := []) (by
          rw [show n - i = 1 from by omega]
          refine la_in c _ hc (Or.inr (Or.inl ⟨k, ?_⟩))
          show [w i] ++ [] = [lf c]
          rw [h2]; rfl)
        have : ([] : List Int32).length = 0 := rfl
        omega
      · exact la_m_1 hx (fun q o => la_in c _ hc (Or.inr (Or.inr (Or.inl ⟨k, Or.inl o⟩))))
      · exact la_m_1 hx (fun q o => la_in c _ hc (Or.inr (Or.inr (Or.inl ⟨k, Or.inr o⟩))))
      · have a := two i c (by omega) hc k
        have b := row (R c) (wf c hc (Or.inr k)).2
        rw [h0 _ (wf c hc (Or.inr k)).2] at b
        have hx' : x = la_m C K L R lf w n i (L c) + D (R c) := hx
        omega
      · have o1 := la_sp h1
        rw [Nat.sub_self] at o1
        exact la_m_1 hx (fun q o => la_in c _ hc (Or.inr (Or.inr (Or.inr ⟨k, [], _, rfl, o1, o⟩))))
      · have o1 := la_sp h3
        have b := ih (n - m) (by omega) m (by omega) (R c) (wf c hc (Or.inr k)).2
        have a : la_m C K L R lf w n i c ≤ la_m C K L R lf w n m (R c) := la_m_1 rfl (fun q o => la_in c _ hc (Or.inr (Or.inr (Or.inr ⟨k, _, _, by
          rw [← List.append_assoc]
          have := wd_add w (m - i) i (n - m)
          rw [show m - i + (n - m) = n - i from by omega, show i + (m - i) = m from by omega] at this
          rw [← this], o1, o⟩))))
        omega
theorem la_val {D : Nat → Nat} {T : Nat → Nat → Nat} {n : Nat} (hC : C = 8) (hn : n ≤ 13) (wf : gr_wf C K L R) (G : fx_Good C 16777216 (of_L K L R) D)
    (h0 : ∀ c, c < C → T n c = D c) (hT : ∀ i, i < n → fx_Good C 16777216 (of_T K L R (fun i c => w i = lf c) (gr_Sp C K L R (fun i c => w i = lf c)) D T i n) (T i))
    {c : Nat} (hc : c < C) : la_V C K L R lf w n c (T 0 c) := by
  have bB : T 0 c ≤ 16777216 := by
    by_cases e : n = 0
    · rw [← e, h0 c hc]; exact G.1 c hc
    · exact (hT 0 (by omega)).1 c hc
  refine ⟨bB, fun h => ?_, fun q o => la_up hC hn wf G h0 hT hc o 0 q (Nat.zero_le _) rfl⟩
  have a := la_dn wf G h0 hT n 0 (by omega) c hc
  obtain ⟨q, e, o⟩ := la_m_of (C := C) (K := K) (L := L) (R := R) (lf := lf) (w := w) (n := n) (i := 0) (c := c) (by omega)
  have b := la_up hC hn wf G h0 hT hc o 0 q (Nat.zero_le _) rfl
  exact ⟨q, by omega, o⟩
theorem la_next {n c x y : Nat} {t : Int32} (h : la_V C K L R lf w n c x) (g : la_V C K L R lf (upd w n t) (n + 1) c y) (hy : y < 16777216) : x ≤ y + 1 ∧ x < 16777216 := by
  obtain ⟨q, e, o⟩ := g.2.1 hy
  rw [wd_upd, List.append_assoc] at o
  have := h.2.2 _ o
  have e2 : ([t] ++ q).length = q.length + 1 := rfl
  omega
theorem la_some {A n c x : Nat} (hA : ∀ c, c < C → K c = 2 → ∃ a, a < A ∧ lf c = nI a) (h : la_V C K L R lf w n c x) (h1 : 0 < x) (h2 : x < 16777216) :
    ∃ a, a < A ∧ ∀ y, la_V C K L R lf (upd w n (nI a)) (n + 1) c y → y + 1 ≤ x := by
  obtain ⟨q, e, o⟩ := h.2.1 h2
  cases q with
  | nil =>
    have : ([] : List Int32).length = 0 := rfl
    omega
  | cons t q =>
    obtain ⟨a, ha, rfl⟩ := la_tok hA o t (List.mem_append.mpr (Or.inr (List.mem_cons_self ..)))
    refine ⟨a, ha, fun y g => ?_⟩
    have := g.2.2 q (by
      rw [wd_upd, List.append_assoc]
      exact o)
    have e2 : (nI a :: q).length = q.length + 1 := rfl
    omega
end
end
section
/-! longs by their bits: nibbles, 8 by 8 matrices -/
def bL (x : Int64) (i : Nat) : Bool := x.toBitVec.getLsbD i
theorem bL_ext {x y : Int64} (h : ∀ i, i < 64 → bL x i = bL y i) : x = y := Int64.toBitVec_inj.mp (BitVec.eq_of_getLsbD_eq (fun i hi => h i hi))
theorem bL_or (x y : Int64) (i : Nat) : bL (x ||| y) i = (bL x i || bL y i) := by unfold bL; rw [Int64.toBitVec_or, BitVec.getLsbD_or]
theorem bL_and (x y : Int64) (i : Nat) : bL (x &&& y) i = (bL x i && bL y i) := by unfold bL; rw [Int64.toBitVec_and, BitVec.getLsbD_and]
theorem bL_xor (x y : Int64) (i : Nat) : bL (x ^^^ y) i = (bL x i ^^ bL y i) := by unfold bL; rw [Int64.toBitVec_xor, BitVec.getLsbD_xor]
theorem bL_0 (i : Nat) : bL 0 i = false := BitVec.getLsbD_zero
theorem bL_m1 : ∀ i, i < 64 → bL (-1) i = true := by decide +kernel
theorem bL_1 : ∀ i, i < 64 → bL 1 i = decide (i = 0) := by decide +kernel
theorem bL_15 : ∀ i, i < 64 → bL 15 i = decide (i < 4) := by decide +kernel
theorem bL_255 : ∀ i, i < 64 → bL 255 i = decide (i < 8) := by decide +kernel
theorem bL_min : ∀ i, i < 64 → bL (-9223372036854775808) i = decide (i = 63) := by decide +kernel
theorem bL_one : ∀ i, i < 64 → bL 72340172838076673 i = decide (i % 8 = 0) := by decide +kernel
theorem bL_eye : ∀ i, i < 8 → ∀ j, j < 8 → bL (-9205322385119247871) (8 * i + j) = decide (i = j) := by decide +kernel
theorem bL_lN {v : Nat} {i : Nat} (hi : i < 64) : bL (lN v) i = v.testBit i := by
  show (BitVec.ofNat 64 v).getLsbD i = v.testBit i
  rw [BitVec.getLsbD_ofNat, decide_eq_true hi, Bool.true_and]
theorem sL_l : ∀ n, n < 64 → (((nI n).toInt64 &&& 63).toBitVec.smod 64).toNat = n := by decide +kernel
theorem sL_u : ∀ n, n < 64 → (((nI n).toInt64.toUInt64 &&& Int64.toUInt64 63).toBitVec % 64).toNat = n := by decide +kernel
theorem bL_shl (n : Nat) (hn : n < 64) (x : Int64) {i : Nat} (hi : i < 64) : bL (x <<< ((nI n).toInt64 &&& 63)) i = (decide (n ≤ i) && bL x (i - n)) := by
  unfold bL
  rw [Int64.toBitVec_shiftLeft]
  show (x.toBitVec <<< (((nI n).toInt64 &&& 63).toBitVec.smod 64).toNat).getLsbD i = _
  rw [sL_l n hn, BitVec.getLsbD_shiftLeft]
  rcases Nat.lt_or_ge i n with h | h
  · simp [h, Nat.not_le.mpr h]
  · simp [hi, h, Nat.not_lt.mpr h]
theorem bL_ushr (n : Nat) (hn : n < 64) (x : Int64) (i : Nat) : bL ((x.toUInt64 >>> ((nI n).toInt64.toUInt64 &&& Int64.toUInt64 63)).toInt64) i = bL x (n + i) := by
  show (x.toUInt64 >>> ((nI n).toInt64.toUInt64 &&& Int64.toUInt64 63)).toBitVec.getLsbD i = x.toUInt64.toBitVec.getLsbD (n + i)
  rw [UInt64.toBitVec_shiftRight]
  show (x.toUInt64.toBitVec >>> (((nI n).toInt64.toUInt64 &&& Int64.toUInt64 63).toBitVec % 64).toNat).getLsbD i = _
  rw [sL_u n hn, BitVec.getLsbD_ushiftRight]
theorem nx_4 (c : Nat) : 4 * nI c = nI (4 * c) := pk_mul 4 c
theorem nx_8 (c : Nat) : 8 * nI c = nI (8 * c) := pk_mul 8 c
theorem nx_91 (c : Nat) : 9 * nI c + 1 = nI (9 * c + 1) := by
  rw [show 9 * nI c = nI (9 * c) from pk_mul 9 c, nI_1]
/-- nibble c of x is v -/
def nb_is (x : Int64) (c v : Nat) : Prop := ∀ i, i < 4 → bL x (4 * c + i) = v.testBit i
theorem nb_hi {v i : Nat} (hv : v < 16) (hi : 4 ≤ i) : v.testBit i = false :=
  Nat.testBit_lt_two_pow (Nat.lt_of_lt_of_le hv (Nat.pow_le_pow_right (n := 2) (by omega) hi))
theorem nb_get {x : Int64} {c v : Nat} (h : nb_is x c v) (hc : c < 16) (hv : v < 16) : (((x.toUInt64 >>> ((4 * nI c).toInt64.toUInt64 &&& Int64.toUInt64 63)).toInt64) &&& 15) = lN v := by
  apply bL_ext
  intro i hi
  rw [nx_4, bL_and, bL_ushr _ (by omega), bL_15 i hi, bL_lN hi]
  by_cases e : i < 4
  · rw [decide_eq_true e, Bool.and_true]; exact h i e
  · rw [decide_eq_false e, Bool.and_false, nb_hi hv (by omega)]
theorem nb_0 (c : Nat) : nb_is 0 c 0 := fun i _ => by rw [bL_0, Nat.zero_testBit]
theorem nb_put {x : Int64} {c v : Nat} (hc : c < 16) (hv : v < 16) :
    nb_is ((x &&& (((15 : Int64) <<< ((4 * nI c).toInt64 &&& 63)) ^^^ (-1))) ||| ((nI v).toInt64 <<< ((4 * nI c).toInt64 &&& 63))) c v := by
  intro i hi
  rw [nx_4, bL_or, bL_and, bL_xor, bL_m1 _ (by omega), bL_shl _ (by omega) _ (by omega), bL_shl _ (by omega) _ (by omega), Nat.add_sub_cancel_left, bL_15 i (by omega), nI_l (by omega), bL_lN (by omega), decide_eq_true (show 4 * c ≤ 4 * c + i by omega), decide_eq_true hi]
  simp
theorem nb_old {x : Int64} {c d v u : Nat} (hc : c < 16) (hd : d < 16) (hv : v < 16) (hn : d ≠ c) (h : nb_is x d u) :
    nb_is ((x &&& (((15 : Int64) <<< ((4 * nI c).toInt64 &&& 63)) ^^^ (-1))) ||| ((nI v).toInt64 <<< ((4 * nI c).toInt64 &&& 63))) d u := by
  intro i hi
  rw [nx_4, bL_or, bL_and, bL_xor, bL_m1 _ (by omega), bL_shl _ (by omega) _ (by omega), bL_shl _ (by omega) _ (by omega), nI_l (by omega), h i hi]
  by_cases e : 4 * c ≤ 4 * d + i
  · rw [decide_eq_true e, bL_15 _ (by omega), decide_eq_false (show ¬ 4 * d + i - 4 * c < 4 by omega), bL_lN (by omega), nb_hi hv (show 4 ≤ 4 * d + i - 4 * c by omega)]
    simp
  · rw [decide_eq_false e]
    simp
/-- the word: nibbles below n are the tokens, the others 0 -/
def nb_w (x : Int64) (tok : Nat → Int32) (n : Nat) : Prop := (∀ d, d < n → ∃ v, v < 8 ∧ tok d = nI v ∧ nb_is x d v) ∧ ∀ d, n ≤ d → d < 16 → nb_is x d 0
theorem nb_w0 (tok : Nat → Int32) : nb_w 0 tok 0 := ⟨fun d h => absurd h (by omega), fun d _ _ => nb_0 d⟩
theorem nb_add {x : Int64} {tok : Nat → Int32} {n a : Nat} (h : nb_w x tok n) (hn : n < 16) (ha : a < 8) :
    nb_w (x ||| ((nI a).toInt64 <<< ((4 * nI n).toInt64 &&& 63))) (upd tok n (nI a)) (n + 1) := by
  have bit : ∀ d i, d < 16 → i < 4 → bL (x ||| ((nI a).toInt64 <<< ((4 * nI n).toInt64 &&& 63))) (4 * d + i) = (bL x (4 * d + i) || (decide (n ≤ d) && a.testBit (4 * (d - n) + i))) := by
    intro d i hd hi
    rw [nx_4, bL_or, bL_shl _ (by omega) _ (by omega), nI_l (by omega), bL_lN (by omega)]
    by_cases e : n ≤ d
    · rw [decide_eq_true e, decide_eq_true (show 4 * n ≤ 4 * d + i by omega), show 4 * d + i - 4 * n = 4 * (d - n) + i by omega]
    · rw [decide_eq_false e, decide_eq_false (show ¬ 4 * n ≤ 4 * d + i by omega), Bool.false_and, Bool.false_and]
  constructor
  · intro d hd
    by_cases e : d = n
    · refine ⟨a, ha, by rw [e, pk_us], fun i hi => ?_⟩
      rw [bit d i (by omega) hi, h.2 d (by omega) (by omega) i hi, Nat.zero_testBit, e, Nat.sub_self, Nat.mul_zero, Nat.zero_add, decide_eq_true (Nat.le_refl n)]
      simp
    · obtain ⟨v, hv, e1, e2⟩ := h.1 d (by omega)
      refine ⟨v, hv, by rw [pk_un e]; exact e1, fun i hi => ?_⟩
      rw [bit d i (by omega) hi, e2 i hi, decide_eq_false (show ¬ n ≤ d by omega)]
      simp
  · intro d hd h16 i hi
    rw [bit d i h16 hi, h.2 d (by omega) h16 i hi, Nat.zero_testBit, nb_hi (v := a) (by omega) (show 4 ≤ 4 * (d - n) + i by omega)]
    simp
theorem nb_lowbits : ∀ m, m < 13 → ∀ i, i < 64 → bL (((1 : Int64) <<< ((4 * nI m).toInt64 &&& 63)) - 1) i = decide (i < 4 * m) := by decide +kernel
theorem nb_cut {x : Int64} {tok : Nat → Int32} {n m : Nat} (h : nb_w x tok n) (hm : m ≤ n) (hn : n ≤ 12) : nb_w (x &&& (((1 : Int64) <<< ((4 * nI m).toInt64 &&& 63)) - 1)) tok m := by
  constructor
  · intro d hd
    obtain ⟨v, hv, e1, e2⟩ := h.1 d (by omega)
    refine ⟨v, hv, e1, fun i hi => ?_⟩
    rw [bL_and, nb_lowbits m (by omega) _ (by omega), decide_eq_true (by omega), Bool.and_true]
    exact e2 i hi
  · intro d hd h16 i hi
    rw [bL_and, nb_lowbits m (by omega) _ (by omega), decide_eq_false (by omega), Bool.and_false, Nat.zero_testBit]
theorem nb_w_tok {x : Int64} {tok tok' : Nat → Int32} {n : Nat} (h : nb_w x tok n) (e : ∀ d, d < n → tok d = tok' d) : nb_w x tok' n :=
  ⟨fun d hd => by rw [← e d hd]; exact h.1 d hd, h.2⟩
/-! matrices -/
theorem mx_rep : ∀ b, b < 256 → ∀ i, i < 8 → ∀ j, j < 8 → bL (lN b * 72340172838076673) (8 * i + j) = b.testBit j := by decide +kernel
def mx_S (b : Nat) : Nat := b % 2 + b / 2 % 2 * 256 + b / 4 % 2 * 65536 + b / 8 % 2 * 16777216 + b / 16 % 2 * 4294967296 + b / 32 % 2 * 1099511627776 + b / 64 % 2 * 281474976710656 + b / 128 % 2 * 72057594037927936
theorem mx_S_bit : ∀ b, b < 256 → ∀ p, p < 64 → bL (lN (mx_S b)) p = (decide (p % 8 = 0) && b.testBit (p / 8)) := by decide +kernel
theorem mx_fill : ∀ b, b < 256 → ∀ i, i < 8 → ∀ j, j < 8 → bL (lN (mx_S b) * 255) (8 * i + j) = b.testBit i := by decide +kernel
theorem mx_ex (g : Nat → Bool) : ∀ n, ∃ b, b < 2 ^ n ∧ ∀ i, i < n → b.testBit i = g i := by
  intro n
  induction n with
  | zero => exact ⟨0, by omega, fun i hi => absurd hi (by omega)⟩
  | succ n ih =>
    obtain ⟨b, hb, h⟩ := ih
    have p : 2 ^ (n + 1) = 2 ^ n * 2 := Nat.pow_succ 2 n
    refine ⟨b + (g n).toNat * 2 ^ n, ?_, fun i hi => ?_⟩
    · cases g n with
      | true => show b + 1 * 2 ^ n < _; omega
      | false => show b + 0 * 2 ^ n < _; omega
    · by_cases e : i = n
      · rw [e, Nat.add_comm, Nat.mul_comm, Nat.testBit_two_pow_mul_add _ hb, if_neg (by omega), Nat.sub_self]
        cases g n <;> rfl
      · rw [Nat.add_comm, Nat.mul_comm, Nat.testBit_two_pow_mul_add _ hb, if_pos (by omega)]
        exact h i (by omega)
theorem mx_A (z : Int64) {i j : Nat} (hi : i < 8) (hj : j < 8) : bL ((z &&& 72340172838076673) * 255) (8 * i + j) = bL z (8 * i) := by
  obtain ⟨b, hb, h⟩ := mx_ex (fun i => bL z (8 * i)) 8
  have e : z &&& 72340172838076673 = lN (mx_S b) := by
    apply bL_ext
    intro p hp
    rw [bL_and, bL_one p hp, mx_S_bit b hb p hp]
    by_cases e : p % 8 = 0
    · have q := h (p / 8) (by omega)
      rw [show 8 * (p / 8) = p from by omega] at q
      rw [q, decide_eq_true e, Bool.and_true, Bool.true_and]
    · rw [decide_eq_false e, Bool.and_false, Bool.false_and]
  rw [e, mx_fill b hb i hi j hj]
  exact h i hi
theorem mx_B (z : Int64) {i j : Nat} (hi : i < 8) (hj : j < 8) : bL ((z &&& 255) * 72340172838076673) (8 * i + j) = bL z j := by
  obtain ⟨b, hb, h⟩ := mx_ex (fun i => bL z i) 8
  have e : z &&& 255 = lN b := by
    apply bL_ext
    intro p hp
    rw [bL_and, bL_255 p hp, bL_lN hp]
    by_cases e : p < 8
    · rw [h p e, decide_eq_true e, Bool.and_true]
    · rw [decide_eq_false e, Bool.and_false]
      exact (Nat.testBit_lt_two_pow (Nat.lt_of_lt_of_le hb (Nat.pow_le_pow_right (n := 2) (by omega) (by omega)))).symm
  rw [e, mx_rep b hb i hi j hj]
  exact h j hj
theorem mx_bit1 (x : Int64) {j : Nat} (hj : j < 64) : (((x.toUInt64 >>> ((nI j).toInt64.toUInt64 &&& Int64.toUInt64 63)).toInt64) &&& 1) = 1 ↔ bL x j = true := by
  constructor
  · intro h
    have e := bL_and ((x.toUInt64 >>> ((nI j).toInt64.toUInt64 &&& Int64.toUInt64 63)).toInt64) 1 0
    rw [h, bL_1 0 (by omega), bL_ushr j hj, Nat.add_zero] at e
    simpa using e.symm
  · intro h
    apply bL_ext
    intro i hi
    rw [bL_and, bL_1 i hi, bL_ushr j hj]
    by_cases e : i = 0
    · rw [e, Nat.add_zero, h]; rfl
    · rw [decide_eq_false e, Bool.and_false]
end
section
/-! the law's automaton: states 0 .. 7, arcs i to i + 1 (any token from place m on, the input's before it), 7 to 7 -/
def au_ar (w : Nat → Int32) (m i : Nat) (t : Int32) (j : Nat) : Prop := (i < 7 ∧ j = i + 1 ∧ (m ≤ i ∨ w i = t)) ∨ (i = 7 ∧ j = 7)
def au_pa (w : Nat → Int32) (m : Nat) : List Int32 → Nat → Nat → Prop
  | [], i, j => i = j
  | t :: u, i, j => ∃ k, au_ar w m i t k ∧ au_pa w m u k j
theorem au_ar8 {w : Nat → Int32} {m i j : Nat} {t : Int32} (h : au_ar w m i t j) : i < 8 ∧ j < 8 := by
  rcases h with ⟨h1, h2, _⟩ | ⟨h1, h2⟩ <;> omega
theorem au_app {w : Nat → Int32} {m : Nat} : ∀ (a b : List Int32) (i j : Nat), i < 8 → (au_pa w m (a ++ b) i j ↔ ∃ k, k < 8 ∧ au_pa w m a i k ∧ au_pa w m b k j) := by
  intro a
  induction a with
  | nil =>
    intro b i j hi
    constructor
    · intro h; exact ⟨i, hi, rfl, h⟩
    · intro h
      obtain ⟨k, _, h1, h2⟩ := h
      have h1 : i = k := h1
      rw [h1]; exact h2
  | cons t a ih =>
    intro b i j hi
    constructor
    · intro h
      obtain ⟨k, h1, h2⟩ := h
      obtain ⟨l, h3, h4, h5⟩ := (ih b k j (au_ar8 h1).2).1 h2
      exact ⟨l, h3, ⟨k, h1, h4⟩, h5⟩
    · intro h
      obtain ⟨l, h3, ⟨k, h1, h4⟩, h5⟩ := h
      exact ⟨k, h1, (ih b k j (au_ar8 h1).2).2 ⟨l, h3, h4, h5⟩⟩
/-- a path from i that ends before 7 is as long as it climbs; one that ends at 7 at least so long; each token below m is the input's -/
theorem au_len {w : Nat → Int32} {m : Nat} : ∀ (u : List Int32) (i j : Nat), i ≤ 7 → au_pa w m u i j → i ≤ j ∧ j ≤ 7 ∧ j ≤ i + u.length ∧ (j < 7 → j = i + u.length) ∧ ∀ a, a < u.length → i + a < 7 → i + a < m → u[a]? = some (w (i + a)) := by
  intro u
  induction u with
  | nil =>
    intro i j hi h
    have h : i = j := h
    have e : ([] : List Int32).length = 0 := rfl
    exact ⟨by omega, by omega, by omega, fun _ => by omega, fun a ha => absurd ha (by omega)⟩
  | cons t u ih =>
    intro i j hi h
    obtain ⟨k, h1, h2⟩ := h
    have e : (t :: u).length = u.length + 1 := rfl
    have k7 := (au_ar8 h1).2
    obtain ⟨b1, b2, b3, b4, b5⟩ := ih k j (by omega) h2
    rcases h1 with ⟨c1, c2, c3⟩ | ⟨c1, c2⟩
    · refine ⟨by omega, b2, by omega, fun z => by have := b4 z; omega, fun a ha h7 hm => ?_⟩
      cases a with
      | zero =>
        rcases c3 with c3 | c3
        · omega
        · rw [Nat.add_zero, c3]; rfl
      | succ a =>
        have := b5 a (by omega) (by omega) (by omega)
        rw [c2, show i + 1 + a = i + (a + 1) from by omega] at this
        exact this
    · exact ⟨by omega, b2, by omega, fun z => by omega, fun a ha h7 => by omega⟩
theorem au_go {w : Nat → Int32} {m : Nat} (hm7 : m ≤ 7) : ∀ (u : List Int32) (i : Nat), i ≤ 7 → (∀ a, a < u.length → i + a < m → u[a]? = some (w (i + a))) → au_pa w m u i (if i + u.length < 7 then i + u.length else 7) := by
  intro u
  induction u with
  | nil =>
    intro i hi _
    have e : ([] : List Int32).length = 0 := rfl
    show i = _
    by_cases z : i + ([] : List Int32).length < 7
    · rw [if_pos z]; omega
    · rw [if_neg z]; omega
  | cons t u ih =>
    intro i hi h
    have e : (t :: u).length = u.length + 1 := rfl
    by_cases z : i = 7
    · refine ⟨7, Or.inr ⟨z, rfl⟩, ?_⟩
      have := ih 7 (by omega) (fun a ha hm => absurd hm (by omega))
      rw [if_neg (by omega)] at this
      rw [if_neg (by omega)]
      exact this
    · refine ⟨i + 1, Or.inl ⟨by omega, rfl, ?_⟩, ?_⟩
      · by_cases z2 : m ≤ i
        · exact Or.inl z2
        · have := h 0 (by omega) (by omega)
          rw [Nat.add_zero] at this
          have e2 : (t :: u)[0]? = some t := rfl
          rw [e2] at this
          injection this with this
          exact Or.inr this.symm
      · have := ih (i + 1) (by omega) (fun a ha hm => by
          have := h (a + 1) (by omega) (by omega)
          rw [show i + (a + 1) = i + 1 + a from by omega] at this
          exact this)
        rw [show i + 1 + u.length = i + (t :: u).length from by omega] at this
        exact this
theorem wd_pre {w : Nat → Int32} : ∀ (m i : Nat) (u : List Int32), (∀ a, a < m → u[a]? = some (w (i + a))) → ∃ q, u = wd_s w i m ++ q := by
  intro m
  induction m with
  | zero => intro i u _; exact ⟨u, rfl⟩
  | succ m ih =>
    intro i u h
    cases u with
    | nil => have := h 0 (by omega); exact absurd this (by simp)
    | cons t u =>
      have h0 := h 0 (by omega)
      rw [Nat.add_zero] at h0
      have e2 : (t :: u)[0]? = some t := rfl
      rw [e2] at h0
      injection h0 with h0
      obtain ⟨q, e⟩ := ih (i + 1) u (fun a ha => by
        have := h (a + 1) (by omega)
        rw [show i + (a + 1) = i + 1 + a from by omega] at this
        exact this)
      refine ⟨q, ?_⟩
      show t :: u = w i :: (wd_s w (i + 1) m ++ q)
      rw [h0, ← e]
theorem wd_get {w : Nat → Int32} {q : List Int32} : ∀ (m i a : Nat), a < m → (wd_s w i m ++ q)[a]? = some (w (i + a)) := by
  intro m
  induction m with
  | zero => intro i a h; omega
  | succ m ih =>
    intro i a h
    cases a with
    | zero => rw [Nat.add_zero]; rfl
    | succ a =>
      have := ih (i + 1) a (by omega)
      rw [show i + 1 + a = i + (a + 1) from by omega] at this
      exact this
def of_A (K L R : Nat → Nat) (lf w : Nat → Int32) (m : Nat) (s : Nat → Nat) (v x : Nat) : Prop :=
  ∃ c i j, v = c * 64 + i * 8 + j ∧ c < 8 ∧ i < 8 ∧ j < 8 ∧ x = 0 ∧
    ((K c = 1 ∧ i = j) ∨ (K c = 2 ∧ au_ar w m i (lf c) j) ∨ (K c = 3 ∧ (s (L c * 64 + i * 8 + j) = 0 ∨ s (R c * 64 + i * 8 + j) = 0)) ∨
      (K c = 4 ∧ ∃ k, k < 8 ∧ s (L c * 64 + i * 8 + k) = 0 ∧ s (R c * 64 + k * 8 + j) = 0))
section
variable {K L R : Nat → Nat} {lf w : Nat → Int32} {m : Nat}
theorem of_A_inv {s : Nat → Nat} {c i j x : Nat} (hc : c < 8) (hi : i < 8) (hj : j < 8) (h : of_A K L R lf w m s (c * 64 + i * 8 + j) x) :
    x = 0 ∧ ((K c = 1 ∧ i = j) ∨ (K c = 2 ∧ au_ar w m i (lf c) j) ∨ (K c = 3 ∧ (s (L c * 64 + i * 8 + j) = 0 ∨ s (R c * 64 + i * 8 + j) = 0)) ∨
      (K c = 4 ∧ ∃ k, k < 8 ∧ s (L c * 64 + i * 8 + k) = 0 ∧ s (R c * 64 + k * 8 + j) = 0)) := by
  obtain ⟨c', i', j', e, h1, h2, h3, h0, h⟩ := h
  have a : c' = c := by omega
  have b : i' = i := by omega
  have d : j' = j := by omega
  subst a b d
  exact ⟨h0, h⟩
theorem of_A_m (wf : gr_wf 8 K L R) : fx_Mono 512 (of_A K L R lf w m) := by
  intro s u v x hv hts h
  obtain ⟨c, i, j, e, hc, hi, hj, h0, h⟩ := h
  refine ⟨x, Nat.le_refl _, c, i, j, e, hc, hi, hj, h0, ?_⟩
  have z : ∀ a p q, a < 8 → p < 8 → q < 8 → s (a * 64 + p * 8 + q) = 0 → u (a * 64 + p * 8 + q) = 0 := fun a p q ha hp hq e => by
    have := hts (a * 64 + p * 8 + q) (by omega)
    omega
  rcases h with h | h | ⟨k, h | h⟩ | ⟨k, n, h1, h3, h4⟩
  · exact Or.inl h
  · exact Or.inr (Or.inl h)
  · exact Or.inr (Or.inr (Or.inl ⟨k, Or.inl (z _ _ _ (wf c hc (Or.inl k)).1 hi hj h)⟩))
  · exact Or.inr (Or.inr (Or.inl ⟨k, Or.inr (z _ _ _ (wf c hc (Or.inl k)).2 hi hj h)⟩))
  · exact Or.inr (Or.inr (Or.inr ⟨k, n, h1, z _ _ _ (wf c hc (Or.inr k)).1 hi h1 h3, z _ _ _ (wf c hc (Or.inr k)).2 h1 hj h4⟩))
theorem of_A_w (wf : gr_wf 8 K L R) : fx_Wit 512 1 (of_A K L R lf w m) := by
  intro D s v x hv hD h _
  obtain ⟨c, i, j, e, hc, hi, hj, h0, h⟩ := h
  refine ⟨c, i, j, e, hc, hi, hj, h0, ?_⟩
  have z : ∀ a p q, a < 8 → p < 8 → q < 8 → s (a * 64 + p * 8 + q) = 0 → (if s (a * 64 + p * 8 + q) = D (a * 64 + p * 8 + q) then s (a * 64 + p * 8 + q) else 1) = 0 := fun a p q ha hp hq e => by
    have := hD (a * 64 + p * 8 + q) (by omega)
    rw [if_pos (by omega)]
    exact e
  rcases h with h | h | ⟨k, h | h⟩ | ⟨k, n, h1, h3, h4⟩
  · exact Or.inl h
  · exact Or.inr (Or.inl h)
  · exact Or.inr (Or.inr (Or.inl ⟨k, Or.inl (z _ _ _ (wf c hc (Or.inl k)).1 hi hj h)⟩))
  · exact Or.inr (Or.inr (Or.inl ⟨k, Or.inr (z _ _ _ (wf c hc (Or.inl k)).2 hi hj h)⟩))
  · exact Or.inr (Or.inr (Or.inr ⟨k, n, h1, z _ _ _ (wf c hc (Or.inr k)).1 hi h1 h3, z _ _ _ (wf c hc (Or.inr k)).2 h1 hj h4⟩))
theorem au_sol {D : Nat → Nat} (wf : gr_wf 8 K L R) (G : fx_Good 512 1 (of_A K L R lf w m) D) {c i j : Nat} (hc : c < 8) (hi : i < 8) (hj : j < 8) :
    D (c * 64 + i * 8 + j) = 0 ↔ ∃ u, la_In 8 K L R lf c u ∧ au_pa w m u i j := by
  constructor
  · intro h
    have q : ∀ a p r, p < 8 → r < 8 → gr_ind (∃ u, la_In 8 K L R lf ((a * 64 + p * 8 + r) / 64) u ∧ au_pa w m u ((a * 64 + p * 8 + r) / 8 % 8) ((a * 64 + p * 8 + r) % 8)) = gr_ind (∃ u, la_In 8 K L R lf a u ∧ au_pa w m u p r) := by
      intro a p r hp hr
      rw [show (a * 64 + p * 8 + r) / 64 = a from by omega, show (a * 64 + p * 8 + r) / 8 % 8 = p from by omega, show (a * 64 + p * 8 + r) % 8 = r from by omega]
    have h1 := G.2.2.1 (fun v => gr_ind (∃ u, la_In 8 K L R lf (v / 64) u ∧ au_pa w m u (v / 8 % 8) (v % 8))) (fun v _ => ⟨gr_ind_1 _, fun x hx => by
      try dsimp only at hx ⊢
      obtain ⟨c, i, j, e, hc, hi, hj, h0, h⟩ := hx
      rw [e, q c i j hi hj, h0]
      refine Nat.le_of_eq (gr_ind_t ?_)
      rcases h with ⟨k, h⟩ | ⟨k, h⟩ | ⟨k, h | h⟩ | ⟨k, n, h1, h3, h4⟩
      · exact ⟨[], la_in c _ hc (Or.inl ⟨k, rfl⟩), h⟩
      · exact ⟨[lf c], la_in c _ hc (Or.inr (Or.inl ⟨k, rfl⟩)), j, h, rfl⟩
      · try dsimp only at h
        rw [q _ i j hi hj] at h
        obtain ⟨u, o1, o2⟩ := gr_ind_0 h
        exact ⟨u, la_in c _ hc (Or.inr (Or.inr (Or.inl ⟨k, Or.inl o1⟩))), o2⟩
      · try dsimp only at h
        rw [q _ i j hi hj] at h
        obtain ⟨u, o1, o2⟩ := gr_ind_0 h
        exact ⟨u, la_in c _ hc (Or.inr (Or.inr (Or.inl ⟨k, Or.inr o1⟩))), o2⟩
      · try dsimp only at h3 h4
        rw [q _ i n hi h1] at h3
        rw [q _ n j h1 hj] at h4
        obtain ⟨u, o1, o2⟩ := gr_ind_0 h3
        obtain ⟨u2, o3, o4⟩ := gr_ind_0 h4
        exact ⟨u ++ u2, la_in c _ hc (Or.inr (Or.inr (Or.inr ⟨k, u, u2, rfl, o1, o3⟩))), (au_app u u2 i j hi).2 ⟨n, h1, o2, o4⟩⟩⟩) (c * 64 + i * 8 + j) (by omega)
    try dsimp only at h1
    rw [q c i j hi hj] at h1
    exact gr_ind_0 (by omega)
  · intro h
    obtain ⟨u, o, pa⟩ := h
    refine o (fun c u => c < 8 → ∀ i j, i < 8 → j < 8 → au_pa w m u i j → D (c * 64 + i * 8 + j) = 0) ?_ hc i j hi hj pa
    intro c u hc h _ i j hi hj pa
    refine Nat.le_zero.mp (G.2.1 _ (by omega) 0 ⟨c, i, j, rfl, hc, hi, hj, rfl, ?_⟩)
    rcases h with ⟨k, e⟩ | ⟨k, e⟩ | ⟨k, h | h⟩ | ⟨k, a, b, e, h1, h2⟩
    · rw [e] at pa
      exact Or.inl ⟨k, pa⟩
    · rw [e] at pa
      obtain ⟨l, p1, p2⟩ := pa
      have p2 : l = j := p2
      rw [p2] at p1
      exact Or.inr (Or.inl ⟨k, p1⟩)
    · exact Or.inr (Or.inr (Or.inl ⟨k, Or.inl (h (wf c hc (Or.inl k)).1 i j hi hj pa)⟩))
    · exact Or.inr (Or.inr (Or.inl ⟨k, Or.inr (h (wf c hc (Or.inl k)).2 i j hi hj pa)⟩))
    · rw [e] at pa
      obtain ⟨n, hn, p1, p2⟩ := (au_app a b i j hi).1 pa
      exact Or.inr (Or.inr (Or.inr ⟨k, n, hn, h1 (wf c hc (Or.inr k)).1 i n hi hn p1, h2 (wf c hc (Or.inr k)).2 n j hn hj p2⟩))
/-- the row's bits -/
def au_bit (K L R : Nat → Nat) (lf w : Nat → Int32) (m c j : Nat) : Prop := ∃ u, la_In 8 K L R lf c u ∧ au_pa w m u 0 j
theorem au_b1 (hm : m ≤ 7) {c j : Nat} (hj : j < 7) (hmj : m ≤ j) (h : au_bit K L R lf w m c j) : ∃ q : List Int32, la_In 8 K L R lf c (wd_s w 0 m ++ q) ∧ q.length = j - m := by
  obtain ⟨u, o, pa⟩ := h
  obtain ⟨_, _, b3, b4, b5⟩ := au_len u 0 j (by omega) pa
  have e := b4 hj
  obtain ⟨q, eq⟩ := wd_pre m 0 u (fun a ha => b5 a (by omega) (by omega) (by omega))
  have hl : u.length = m + q.length := by rw [eq, List.length_append, wd_len]
  exact ⟨q, by rw [← eq]; exact o, by omega⟩
theorem au_b7 (hm : m ≤ 7) {c : Nat} (h : au_bit K L R lf w m c 7) : ∃ q : List Int32, la_In 8 K L R lf c (wd_s w 0 m ++ q) ∧ 7 ≤ m + q.length := by
  obtain ⟨u, o, pa⟩ := h
  obtain ⟨_, _, b3, b4, b5⟩ := au_len u 0 7 (by omega) pa
  obtain ⟨q, eq⟩ := wd_pre m 0 u (fun a ha => b5 a (by omega) (by omega) (by omega))
  have hl : u.length = m + q.length := by rw [eq, List.length_append, wd_len]
  exact ⟨q, by rw [← eq]; exact o, by omega⟩
theorem au_bk (hm : m ≤ 7) {c : Nat} {q : List Int32} (o : la_In 8 K L R lf c (wd_s w 0 m ++ q)) : au_bit K L R lf w m c (if m + q.length < 7 then m + q.length else 7) := by
  have hl : (wd_s w 0 m ++ q).length = m + q.length := by rw [List.length_append, wd_len]
  have := au_go hm (wd_s w 0 m ++ q) 0 (by omega) (fun a _ ha => wd_get m 0 a (by omega))
  rw [hl, Nat.zero_add] at this
  exact ⟨_, o, this⟩
end
end
section
/-! the law's pick, times, arcs, row, fits -/
theorem lr_8 {l : Nat} (h : l < 8) : l = 0 ∨ l = 1 ∨ l = 2 ∨ l = 3 ∨ l = 4 ∨ l = 5 ∨ l = 6 ∨ l = 7 := by omega
theorem lr_pick {post : Int64 → Prop} (M : Nat → Int64) {l : Nat} (hl : l < 8) (h : post (M l)) : wpL_pick post () (nI l) (M 0) (M 1) (M 2) (M 3) (M 4) (M 5) (M 6) (M 7) := by
  rcases lr_8 hl with rfl | rfl | rfl | rfl | rfl | rfl | rfl | rfl
  · exact br_t rfl h
  · exact br_f (by decide) (br_t rfl h)
  · exact br_f (by decide) (br_f (by decide) (br_t rfl h))
  · exact br_f (by decide) (br_f (by decide) (br_f (by decide) (br_t rfl h)))
  · exact br_f (by decide) (br_f (by decide) (br_f (by decide) (br_f (by decide) (br_t rfl h))))
  · exact br_f (by decide) (br_f (by decide) (br_f (by decide) (br_f (by decide) (br_f (by decide) (br_t rfl h)))))
  · exact br_f (by decide) (br_f (by decide) (br_f (by decide) (br_f (by decide) (br_f (by decide) (br_f (by decide) (br_t rfl h))))))
  · exact br_f (by decide) (br_f (by decide) (br_f (by decide) (br_f (by decide) (br_f (by decide) (br_f (by decide) (br_f (by decide) (h)))))))
theorem lr_203 (M : Nat → Int64) {c : Nat} (hc : c < 8) (post : Int64 → Prop) (J30 J49 : Int64 → Int64 → Int64 → Int64 → Int64 → Int64 → Int64 → Int64 → Int32 → Int32 → Prop) (x0 x2 x4 : Int64) (x6 : Int32) (x7 : Int64) (x9 x26 x27 : Int32) (z0 : Int64)
    (h1 : z0 = M c → J49 (M 0) (M 1) (M 2) (M 3) (M 4) (M 5) (M 6) (M 7) x26 (nI (c + 1))) (h2 : ¬ z0 = M c → J49 (vp_updL M c z0 0) (vp_updL M c z0 1) (vp_updL M c z0 2) (vp_updL M c z0 3) (vp_updL M c z0 4) (vp_updL M c z0 5) (vp_updL M c z0 6) (vp_updL M c z0 7) 1 (nI (c + 1))) :
    wL_row_203 post J30 J49 x0 x2 x4 x6 x7 x9 (M 0) (M 1) (M 2) (M 3) (M 4) (M 5) (M 6) (M 7) x26 x27 (nI c) z0 := by
  unfold wL_row_203
  refine lr_pick M hc ?_
  refine br_c (fun e => nm_r (nI_1 c) (h1 e)) (fun e => ?_)
  have h3 := h2 e
  clear h1 h2
  rcases lr_8 hc with rfl | rfl | rfl | rfl | rfl | rfl | rfl | rfl
  · exact br_t rfl (nm_r (nI_1 0) h3)
  · exact br_f (by decide) (br_t rfl (nm_r (nI_1 1) h3))
  · exact br_f (by decide) (br_f (by decide) (br_t rfl (nm_r (nI_1 2) h3)))
  · exact br_f (by decide) (br_f (by decide) (br_f (by decide) (br_t rfl (nm_r (nI_1 3) h3))))
  · exact br_f (by decide) (br_f (by decide) (br_f (by decide) (br_f (by decide) (br_t rfl (nm_r (nI_1 4) h3)))))
  · exact br_f (by decide) (br_f (by decide) (br_f (by decide) (br_f (by decide) (br_f (by decide) (br_t rfl (nm_r (nI_1 5) h3))))))
  · exact br_f (by decide) (br_f (by decide) (br_f (by decide) (br_f (by decide) (br_f (by decide) (br_f (by decide) (br_t rfl (nm_r (nI_1 6) h3)))))))
  · exact br_f (by decide) (br_f (by decide) (br_f (by decide) (br_f (by decide) (br_f (by decide) (br_f (by decide) (br_f (by decide) (nm_r (nI_1 7) h3)))))))
theorem fx_in_blk {N : Nat} {Of : (Nat → Nat) → Nat → Nat → Prop} {D s t t' : Nat → Nat} {v v' : Nat} (hm : fx_Mono N Of) (h : fx_In N Of D s v t) (h1 : ∀ u, u < N → (u < v ∨ v' ≤ u) → t' u = t u)
    (h2 : ∀ u, v ≤ u → u < v' → u < N → D u ≤ t' u ∧ t' u ≤ t u ∧ ∀ x, Of t u x → t' u ≤ x) : fx_In N Of D s v' t' := by
  constructor
  · intro u hu
    have a := h.1 u hu
    by_cases z : v ≤ u ∧ u < v'
    · have b := h2 u z.1 z.2 hu
      omega
    · rw [h1 u hu (by omega)]
      exact a
  · intro u hu hn x hx
    by_cases z : v ≤ u
    · obtain ⟨y, hy, oy⟩ := hm s t u x hn (fun a ha => (h.1 a ha).2) hx
      exact Nat.le_trans ((h2 u z hu hn).2.2 y oy) hy
    · rw [h1 u hn (by omega)]
      exact h.2 u (by omega) hn x hx
theorem lr_times6 (x y : Int64) {post : Int64 → Prop} (h : ∀ z, (∀ i j, i < 8 → j < 8 → (bL z (8 * i + j) = true ↔ ∃ k, k < 8 ∧ bL x (8 * i + k) = true ∧ bL y (8 * k + j) = true)) → post z) :
    ∀ f k z, k ≤ 8 → 8 - k < f → (∀ i j, i < 8 → j < 8 → (bL z (8 * i + j) = true ↔ ∃ l, l < k ∧ bL x (8 * i + l) = true ∧ bL y (8 * l + j) = true)) → wL_times_6 post x y f z (nI k) := by
  intro f
  induction f with
  | zero => intro k z _ h; omega
  | succ f ih =>
    intro k z hk hf hz
    refine pk_le 8 k (fun e => h z ?_) (fun e => nm_e (nm_r (nI_1 k) (ih (k + 1) _ (by omega) (by omega) (fun i j hi hj => ?_))))
    · have e2 : k = 8 := by omega
      rw [e2] at hz
      exact hz
    · rw [bL_or, bL_and, mx_A _ hi hj, mx_B _ hi hj, nx_8, bL_ushr k (by omega), bL_ushr (8 * k) (by omega), Bool.or_eq_true, Bool.and_eq_true, hz i j hi hj, Nat.add_comm k (8 * i)]
      constructor
      · intro q
        rcases q with ⟨l, a, b, c⟩ | ⟨b, c⟩
        · exact ⟨l, by omega, b, c⟩
        · exact ⟨k, by omega, b, c⟩
      · intro q
        obtain ⟨l, a, b, c⟩ := q
        by_cases e2 : l = k
        · rw [e2] at b c
          exact Or.inr ⟨b, c⟩
        · exact Or.inl ⟨l, by omega, b, c⟩
theorem lr_times (x y : Int64) {post : Int64 → Prop} (h : ∀ z, (∀ i j, i < 8 → j < 8 → (bL z (8 * i + j) = true ↔ ∃ k, k < 8 ∧ bL x (8 * i + k) = true ∧ bL y (8 * k + j) = true)) → post z) : wpL_times post () x y :=
  ⟨9, lr_times6 x y h 9 0 0 (by omega) (by omega) (fun i j _ _ => by
    rw [bL_0]
    exact ⟨fun z => absurd z (by decide), fun ⟨l, a, _⟩ => absurd a (by omega)⟩)⟩
theorem lr_arcs8 {w : Nat → Int32} {m l : Nat} {x : Int64} (hm : m ≤ 7) (hl : l < 16) (hw : nb_w x w m) {post : Int64 → Prop} (h : ∀ z, (∀ i j, i < 8 → j < 8 → (bL z (8 * i + j) = true ↔ au_ar w m i (nI l) j)) → post z) :
    ∀ f k z, k ≤ 7 → 7 - k < f → (∀ i j, i < 8 → j < 8 → (bL z (8 * i + j) = true ↔ (i < k ∧ j = i + 1 ∧ (m ≤ i ∨ w i = nI l)) ∨ (i = 7 ∧ j = 7))) → wL_arcs_8 post (nI l) x (nI m) f z (nI k) := by
  intro f
  induction f with
  | zero => intro k z _ h; omega
  | succ f ih =>
    intro k z hk hf hz
    have set : k < 7 → (m ≤ k ∨ w k = nI l) → wL_arcs_37 post (wL_arcs_8 post (nI l) x (nI m) f) (nI l) x (nI m) z (nI k) := by
      intro h7 hc
      unfold wL_arcs_37
      rw [nx_91]
      refine nm_e (nm_r (nI_1 k) (ih (k + 1) _ (by omega) (by omega) (fun i j hi hj => ?_)))
      rw [bL_or, bL_shl _ (by omega) _ (by omega), Bool.or_eq_true, Bool.and_eq_true, decide_eq_true_eq, bL_1 _ (by omega), decide_eq_true_eq, hz i j hi hj]
      constructor
      · intro q
        rcases q with (⟨a, b, c⟩ | q) | ⟨a, b⟩
        · exact Or.inl ⟨by omega, b, c⟩
        · exact Or.inr q
        · have e1 : i = k := by omega
          have e2 : j = i + 1 := by omega
          rw [e1] at e2 ⊢
          exact Or.inl ⟨by omega, e2, hc⟩
      · intro q
        rcases q with ⟨a, b, c⟩ | q
        · by_cases e2 : i = k
          · exact Or.inr ⟨by omega, by omega⟩
          · exact Or.inl (Or.inl ⟨by omega, b, c⟩)
        · exact Or.inl (Or.inr q)
    have skip : k < 7 → ¬ (m ≤ k ∨ w k = nI l) → wL_arcs_8 post (nI l) x (nI m) f z (nI (k + 1)) := by
      intro h7 hc
      refine ih (k + 1) z (by omega) (by omega) (fun i j hi hj => ?_)
      rw [hz i j hi hj]
      constructor
      · intro q
        rcases q with ⟨a, b, c⟩ | q
        · exact Or.inl ⟨by omega, b, c⟩
        · exact Or.inr q
      · intro q
        rcases q with ⟨a, b, c⟩ | q
        · by_cases e2 : i = k
          · rw [e2] at c
            exact absurd c hc
          · exact Or.inl ⟨by omega, b, c⟩
        · exact Or.inr q
    refine pk_le 7 k (fun e => h z (fun i j hi hj => ?_)) (fun e => pk_le m k (fun a => set e (Or.inl a)) (fun a => ?_))
    · have e2 : k = 7 := by omega
      rw [hz i j hi hj, e2]
      exact Iff.rfl
    · obtain ⟨v, hv, e1, e2⟩ := hw.1 k a
      rw [nb_get e2 (by omega) (by omega), nI_l (show l < 2 ^ 31 by omega)]
      refine br_c (fun q => set e (Or.inr ?_)) (fun q => nm_r (nI_1 k) (skip e (fun q2 => ?_)))
      · rw [lN_eq (by omega) (by omega)] at q
        rw [e1, q]
      · rcases q2 with q2 | q2
        · omega
        · rw [e1, nI_eq (by omega) (by omega)] at q2
          rw [q2] at q
          exact q rfl
theorem lr_arcs {w : Nat → Int32} {m l : Nat} {x : Int64} (hm : m ≤ 7) (hl : l < 16) (hw : nb_w x w m) {post : Int64 → Prop} (h : ∀ z, (∀ i j, i < 8 → j < 8 → (bL z (8 * i + j) = true ↔ au_ar w m i (nI l) j)) → post z) :
    wpL_arcs post () (nI l) x (nI m) :=
  ⟨8, lr_arcs8 hm hl hw h 8 0 _ (by omega) (by omega) (fun i j hi hj => by
    rw [bL_min _ (by omega), decide_eq_true_eq]
    constructor
    · intro e; exact Or.inr ⟨by omega, by omega⟩
    · intro q
      rcases q with ⟨a, _⟩ | q <;> omega)⟩
/-- the packed grammar -/
def lr_nk (x0 x2 x4 : Int64) (K L R : Nat → Nat) (lf : Nat → Int32) : Prop :=
  ∀ c, c < 8 → nb_is x0 c (K c) ∧ K c ≤ 4 ∧ (∃ l, l < 8 ∧ nb_is x2 c l ∧ (K c = 2 → lf c = nI l) ∧ ((K c = 3 ∨ K c = 4) → L c = l)) ∧ ∃ r, r < 8 ∧ nb_is x4 c r ∧ ((K c = 3 ∨ K c = 4) → R c = r)
def lr_rel (M : Nat → Int64) (t : Nat → Nat) : Prop := ∀ c i j, c < 8 → i < 8 → j < 8 → (bL (M c) (8 * i + j) = true ↔ t (c * 64 + i * 8 + j) = 0) ∧ t (c * 64 + i * 8 + j) ≤ 1
def lr_sup (Of : (Nat → Nat) → Nat → Nat → Prop) (t : Nat → Nat) : Prop := ∀ v, v < 512 → t v = 0 → Of t v 0
theorem lr_dec {v : Nat} (h : v < 512) : v = v / 64 * 64 + v / 8 % 8 * 8 + v % 8 := by omega
section
variable {K L R : Nat → Nat} {lf w : Nat → Int32} {m : Nat} {x0 x2 x4 x7 : Int64}
theorem lr_49 (wf : gr_wf 8 K L R) (NK : lr_nk x0 x2 x4 K L R lf) (hm : m ≤ 7) (hw : nb_w x7 w m) {D s : Nat → Nat} (G : fx_Good 512 1 (of_A K L R lf w m) D) (post : Int64 → Prop)
    (J30 : Int64 → Int64 → Int64 → Int64 → Int64 → Int64 → Int64 → Int64 → Int32 → Int32 → Prop) (x6 x27 : Int32)
    (hJ : ∀ x26 M t, lr_rel M t → lr_sup (of_A K L R lf w m) t → fx_In 512 (of_A K L R lf w m) D s 512 t → (x26 = 0 → ∀ u, u < 512 → t u = s u) → J30 (M 0) (M 1) (M 2) (M 3) (M 4) (M 5) (M 6) (M 7) x26 (x27 + 1)) :
    ∀ f c x26 M t, c ≤ 8 → 8 - c < f → lr_rel M t → lr_sup (of_A K L R lf w m) t → fx_In 512 (of_A K L R lf w m) D s (c * 64) t → (x26 = 0 → ∀ u, u < 512 → t u = s u) →
      wL_row_49 post J30 x0 x2 x4 x6 x7 (nI m) x27 f (M 0) (M 1) (M 2) (M 3) (M 4) (M 5) (M 6) (M 7) x26 (nI c) := by
  have mo : fx_Mono 512 (of_A K L R lf w m) := of_A_m wf
  intro f
  induction f with
  | zero => intro c x26 M t _ h; omega
  | succ f ih =>
    intro c x26 M t hc hf hr hsup hI hx
    refine pk_le 8 c (fun e => ?_) (fun e => ?_)
    · have e2 : c = 8 := by omega
      subst e2
      exact nm_e (hJ x26 M t hr hsup hI hx)
    · obtain ⟨nk, k4, ⟨l, hl, nl, el2, el⟩, ⟨r, hrr, nr, er⟩⟩ := NK c e
      have fin : ∀ z0, (∀ i j, i < 8 → j < 8 → (bL z0 (8 * i + j) = true ↔ of_A K L R lf w m t (c * 64 + i * 8 + j) 0)) →
          wL_row_203 post J30 (wL_row_49 post J30 x0 x2 x4 x6 x7 (nI m) x27 f) x0 x2 x4 x6 x7 (nI m) (M 0) (M 1) (M 2) (M 3) (M 4) (M 5) (M 6) (M 7) x26 x27 (nI c) z0 := by
        intro z0 hz
        refine lr_203 M e post J30 _ x0 x2 x4 x6 x7 (nI m) x26 x27 z0 (fun ez => ?_) (fun ez => ?_)
        · refine ih (c + 1) x26 M t e (by omega) hr hsup (fx_in_blk mo hI (fun u _ _ => rfl) (fun u a b hu => ⟨(hI.1 u hu).1, Nat.le_refl _, fun x hxo => ?_⟩)) hx
          have eu := lr_dec hu
          have ec : u / 64 = c := by omega
          rw [ec] at eu
          have h0 := (hr c (u / 8 % 8) (u % 8) e (by omega) (by omega)).1
          rw [← ez, hz _ _ (by omega) (by omega), ← eu] at h0
          have hx0 : x = 0 := by
            rw [eu] at hxo
            exact (of_A_inv e (by omega) (by omega) hxo).1
          rw [hx0] at hxo ⊢
          exact Nat.le_of_eq (h0.1 hxo)
        · have t1 : ∀ u, u < 512 → (if u / 64 = c then (if bL z0 (u % 64) = true then 0 else 1) else t u) ≤ t u ∧ (u / 64 = c → ((if u / 64 = c then (if bL z0 (u % 64) = true then 0 else 1) else t u) = 0 ↔ of_A K L R lf w m t u 0)) := by
            intro u hu
            by_cases ec : u / 64 = c
            · have eu := lr_dec hu
              rw [ec] at eu
              have b := hz (u / 8 % 8) (u % 8) (by omega) (by omega)
              rw [← eu, show 8 * (u / 8 % 8) + u % 8 = u % 64 from by omega] at b
              rw [if_pos ec]
              have b1 := (hr c (u / 8 % 8) (u % 8) e (by omega) (by omega)).2
              rw [← eu] at b1
              by_cases q : bL z0 (u % 64) = true
              · rw [if_pos q]
                exact ⟨Nat.zero_le _, fun _ => ⟨fun _ => b.1 q, fun _ => rfl⟩⟩
              · rw [if_neg q]
                refine ⟨?_, fun _ => ⟨fun z => absurd z (by omega), fun z => absurd (b.2 z) q⟩⟩
                by_cases q0 : t u = 0
                · exact absurd (b.2 (hsup u hu q0)) q
                · omega
            · rw [if_neg ec]
              exact ⟨Nat.le_refl _, fun z => absurd z ec⟩
          refine ih (c + 1) 1 (vp_updL M c z0) (fun u => if u / 64 = c then (if bL z0 (u % 64) = true then 0 else 1) else t u) e (by omega) (fun d i j hd hi hj => ?_) (fun u hu h0 => ?_) (fx_in_blk mo hI (fun u _ h => ?_) (fun u a b hu => ?_)) (fun z => absurd z (by decide))
          · dsimp only
            rw [show (d * 64 + i * 8 + j) / 64 = d from by omega, show (d * 64 + i * 8 + j) % 64 = 8 * i + j from by omega]
            by_cases ed : d = c
            · rw [if_pos ed, ed, pk_uLs]
              by_cases q : bL z0 (8 * i + j) = true
              · rw [if_pos q, q]
                exact ⟨⟨fun _ => rfl, fun _ => rfl⟩, Nat.zero_le _⟩
              · rw [if_neg q]
                exact ⟨⟨fun z => absurd z q, fun z => absurd z (by omega)⟩, Nat.le_refl _⟩
            · rw [if_neg ed, pk_uLn ed]
              exact hr d i j hd hi hj
          · have o : of_A K L R lf w m t u 0 := by
              by_cases ec : u / 64 = c
              · exact ((t1 u hu).2 ec).1 h0
              · dsimp only at h0
                rw [if_neg ec] at h0
                exact hsup u hu h0
            obtain ⟨y, hy, oy⟩ := mo t _ u 0 hu (fun a ha => (t1 a ha).1) o
            have ey : y = 0 := by omega
            rw [ey] at oy
            exact oy
          · exact if_neg (by omega)
          · have ec : u / 64 = c := by omega
            have q := t1 u hu
            have q2 := q.2 ec
            try dsimp only
            refine ⟨?_, q.1, fun x hxo => ?_⟩
            · by_cases q0 : (if u / 64 = c then (if bL z0 (u % 64) = true then 0 else 1) else t u) = 0
              · obtain ⟨y, hy, oy⟩ := mo t D u 0 hu (fun a ha => (hI.1 a ha).1) (q2.1 q0)
                have := G.2.1 u hu y oy
                omega
              · have := G.1 u hu
                omega
            · have eu := lr_dec hu
              rw [ec] at eu
              have hx0 : x = 0 := by
                rw [eu] at hxo
                exact (of_A_inv e (by omega) (by omega) hxo).1
              rw [hx0] at hxo ⊢
              exact Nat.le_of_eq (q2.2 hxo)
      have mk : ∀ i j, i < 8 → j < 8 → (((K c = 1 ∧ i = j) ∨ (K c = 2 ∧ au_ar w m i (lf c) j) ∨ (K c = 3 ∧ (t (L c * 64 + i * 8 + j) = 0 ∨ t (R c * 64 + i * 8 + j) = 0)) ∨ (K c = 4 ∧ ∃ k, k < 8 ∧ t (L c * 64 + i * 8 + k) = 0 ∧ t (R c * 64 + k * 8 + j) = 0)) ↔ of_A K L R lf w m t (c * 64 + i * 8 + j) 0) :=
        fun i j hi hj => ⟨fun h => ⟨c, i, j, rfl, e, hi, hj, rfl, h⟩, fun h => (of_A_inv e hi hj h).2⟩
      refine nm_r (by rw [nb_get nk (by omega) (by omega), lN_i]) (nm_r (by rw [nb_get nl (by omega) (by omega), lN_i]) (nm_r (by rw [nb_get nr (by omega) (by omega), lN_i]) (lr_pick M hl (lr_pick M hrr ?_))))
      rcases gx_K4 k4 with ek | ek | ek | ek | ek
      · rw [ek]
        refine br_f (by decide) (br_f (by decide) (br_f (by decide) (br_f (by decide) (fin 0 (fun i j hi hj => ?_)))))
        rw [bL_0, ← mk i j hi hj]
        refine ⟨fun z => absurd z (by decide), fun h => ?_⟩
        rcases h with ⟨k, _⟩ | ⟨k, _⟩ | ⟨k, _⟩ | ⟨k, _⟩ <;> omega
      · rw [ek]
        refine br_t rfl (fin _ (fun i j hi hj => ?_))
        rw [bL_eye i hi j hj, decide_eq_true_eq, ← mk i j hi hj]
        refine ⟨fun z => Or.inl ⟨ek, z⟩, fun h => ?_⟩
        rcases h with ⟨k, h⟩ | ⟨k, _⟩ | ⟨k, _⟩ | ⟨k, _⟩
        · exact h
        · omega
        · omega
        · omega
      · rw [ek]
        refine br_f (by decide) (br_t rfl (lr_arcs hm (by omega) hw (fun z0 hz0 => fin z0 (fun i j hi hj => ?_))))
        rw [hz0 i j hi hj, ← mk i j hi hj, el2 ek]
        refine ⟨fun z => Or.inr (Or.inl ⟨ek, z⟩), fun h => ?_⟩
        rcases h with ⟨k, _⟩ | ⟨k, h⟩ | ⟨k, _⟩ | ⟨k, _⟩
        · omega
        · exact h
        · omega
        · omega
      · have e1 := el (Or.inl ek)
        have e2 := er (Or.inl ek)
        rw [ek]
        refine br_f (by decide) (br_f (by decide) (br_t rfl (fin _ (fun i j hi hj => ?_))))
        rw [bL_or, Bool.or_eq_true, (hr l i j hl hi hj).1, (hr r i j hrr hi hj).1, ← mk i j hi hj, e1, e2]
        refine ⟨fun z => Or.inr (Or.inr (Or.inl ⟨ek, z⟩)), fun h => ?_⟩
        rcases h with ⟨k, _⟩ | ⟨k, _⟩ | ⟨k, h⟩ | ⟨k, _⟩
        · omega
        · omega
        · exact h
        · omega
      · have e1 := el (Or.inr ek)
        have e2 := er (Or.inr ek)
        rw [ek]
        refine br_f (by decide) (br_f (by decide) (br_f (by decide) (br_t rfl (lr_times _ _ (fun z0 hz0 => fin z0 (fun i j hi hj => ?_))))))
        rw [hz0 i j hi hj, ← mk i j hi hj, e1, e2]
        constructor
        · intro h
          obtain ⟨k, h1, h2, h3⟩ := h
          exact Or.inr (Or.inr (Or.inr ⟨ek, k, h1, (hr l i k hl hi h1).1.1 h2, (hr r k j hrr h1 hj).1.1 h3⟩))
        · intro h
          rcases h with ⟨k, _⟩ | ⟨k, _⟩ | ⟨k, _⟩ | ⟨_, k, h1, h2, h3⟩
          · omega
          · omega
          · omega
          · exact ⟨k, h1, (hr l i k hl hi h1).1.2 h2, (hr r k j hrr h1 hj).1.2 h3⟩
theorem lr_30 (wf : gr_wf 8 K L R) (NK : lr_nk x0 x2 x4 K L R lf) (hm : m ≤ 7) (hw : nb_w x7 w m) {D : Nat → Nat} (G : fx_Good 512 1 (of_A K L R lf w m) D) {ro : Nat} (hro : ro < 8) (post : Int64 → Prop)
    (hp : ∀ z, (∀ j, j < 8 → (bL z j = true ↔ D (ro * 64 + 0 * 8 + j) = 0)) → post z) :
    ∀ f k x26 M s, k ≤ 600 → 600 - k < f → lr_rel M s → lr_sup (of_A K L R lf w m) s → fx_R 512 1 (fun _ => true) D k s → (x26 = 0 → ∀ u, u < 512 → s u = D u) →
      wL_row_30 post x0 x2 x4 (nI ro) x7 (nI m) f (M 0) (M 1) (M 2) (M 3) (M 4) (M 5) (M 6) (M 7) x26 (nI k) := by
  have fin : ∀ M s, lr_rel M s → (∀ u, u < 512 → s u = D u) → wL_row_342 post (nI ro) (M 0) (M 1) (M 2) (M 3) (M 4) (M 5) (M 6) (M 7) := by
    intro M s hr e
    unfold wL_row_342
    refine lr_pick M hro (hp _ (fun j hj => ?_))
    have := (hr ro 0 j hro (by omega) hj).1
    rw [show 8 * 0 + j = j from by omega, e _ (by omega)] at this
    rw [bL_and, bL_255 j (by omega), decide_eq_true hj, Bool.and_true]
    exact this
  intro f
  induction f with
  | zero => intro k x26 M s _ h; omega
  | succ f ih =>
    intro k x26 M s hk hf hr hsup hR hx
    refine pk_le 600 k (fun h => fin M s hr (fx_fin G (fun _ _ _ _ _ => rfl) hR (by rw [fx_cnt_all]; omega))) (fun h => ?_)
    by_cases z : x26 = 0
    · exact br_t z (fin M s hr (hx z))
    · refine br_f z ⟨9, ?_⟩
      refine lr_49 wf NK hm hw G post _ (nI ro) (nI k) (fun y M' t hr' hsup' hI hy => ?_) 9 0 0 M s (by omega) (by omega) hr hsup (by rw [Nat.zero_mul]; exact fx_in0 hR) (fun _ u _ => rfl)
      rw [nI_1]
      exact ih (k + 1) y M' t (by omega) (by omega) hr' hsup' (fx_in_end G (fun _ _ _ _ _ => rfl) hR hI) (fun e => fx_in_stop G hR hI (hy e))
theorem lr_row (wf : gr_wf 8 K L R) (NK : lr_nk x0 x2 x4 K L R lf) (hm : m ≤ 7) (hw : nb_w x7 w m) {ro : Nat} (hro : ro < 8) (post : Int64 → Prop)
    (hp : ∀ z, (∀ j, j < 8 → (bL z j = true ↔ au_bit K L R lf w m ro j)) → post z) : wpL_row post () x0 x2 x4 (nI ro) x7 (nI m) := by
  obtain ⟨D, G⟩ := fx_good (N := 512) (B := 1) (of_A_m (lf := lf) (w := w) (m := m) wf) (of_A_w wf)
  refine ⟨601, lr_30 wf NK hm hw G hro post (fun z hz => hp z (fun j hj => (hz j hj).trans (au_sol wf G hro (by omega) hj))) 601 0 1 (fun _ => 0) (fun _ => 1) (by omega) (by omega) (fun c i j _ _ _ => ?_) (fun v _ h => absurd (show (1 : Nat) = 0 from h) (by decide)) (fx_R0 G (fun _ _ => rfl)) (fun z => absurd z (by decide))⟩
  rw [bL_0]
  exact ⟨⟨fun z => absurd z (by decide), fun z => absurd (show (1 : Nat) = 0 from z) (by decide)⟩, Nat.le_refl _⟩
end
end
section
/-! the class's methods, as the law calls them -/
section
variable {C M A : Nat} {K L R D : Nat → Nat} {op rx ix ry iy : Int32} {kd lf rg ls tok st ta sp re : Nat → Int32}
theorem gx_S_le {tk : Nat → Nat → Prop} {m n : Nat} (h : gx_S C K L R tk st n) (hm : m ≤ n) : gx_S C K L R tk st m := fun c i j hc hij hj => h c i j hc hij (by omega)
theorem gx_S_tok {n : Nat} {x : Int32} (h : gx_S C K L R (fun i c => tok i = lf c) st (n + 1)) : gx_S C K L R (fun i c => upd tok n x i = lf c) st (n + 1) := by
  intro c i j hc hij hj
  rw [h c i j hc hij hj]
  refine gr_sp_iff (fun t a b c => ?_)
  rw [pk_un (by omega)]
def rl_v (x : Nat) : Int32 := if x = 0 then 3 else if x < 16777216 then 2 else 1
def rl_a (x : Nat) : Int32 := if x < 16777216 then nI x else -1
theorem xv_for {x : Nat} (hx : x ≤ 16777216) {post : Int32 → Prop} (h : post (rl_v x)) : wpX_verdictFor post () (nI x) := by
  refine pk_eq x 0 (fun e => ?_) (fun e => pk_le 16777216 x (fun z => ?_) (fun z => ?_))
  · rw [rl_v, if_pos e] at h; exact h
  · rw [rl_v, if_neg e, if_neg (by omega)] at h; exact h
  · rw [rl_v, if_neg e, if_pos z] at h; exact h
theorem xv_len {x : Nat} (hx : x ≤ 16777216) {post : Int32 → Prop} (h : post (rl_a x)) : wpX_lengthOrNone post () (nI x) := by
  refine pk_le 16777216 x (fun z => ?_) (fun z => ?_)
  · rw [rl_a, if_neg (by omega)] at h; exact h
  · rw [rl_a, if_pos z] at h; exact h
end
section
variable {C : Nat} {fl ft fo fr fi ml al ro sz op : Int32} {kd lf rg ls tok st ta wd sp re : Nat → Int32}
theorem xq_yes (hC : C ≤ 16) {c : Nat} (hc : c < C) {post : Int32 → Prop} (h : post 1) : wpX_isCell post (nI C, fl, ft, fo, fr, fi, kd, lf, rg, ls, tok, st, ta) (nI c) :=
  br_f (nI_pos (by omega)) (br_f (nI_ge hc (by omega)) h)
theorem xk_yes {A : Nat} (hA : A ≤ 8) {c : Nat} (hc : c < A) {post : Int32 → Prop} (h : post 1) : wpX_isToken post (nI C, fl, nI A, fo, fr, fi, kd, lf, rg, ls, tok, st, ta) (nI c) :=
  br_f (nI_pos (by omega)) (br_f (nI_ge hc (by omega)) h)
theorem gx_ok_upd {C : Nat} {K L R : Nat → Nat} {kd lf rg : Nat → Int32} (G : gx_ok C K L R kd lf rg) (c : Nat) {kk l0 r0 : Nat} {l r : Int32} (hk : kk ≤ 4)
    (h : (kk = 3 ∨ kk = 4) → l = nI l0 ∧ r = nI r0 ∧ l0 < C ∧ r0 < C) :
    gx_ok C (fun i => if i = c then kk else K i) (fun i => if i = c then l0 else L i) (fun i => if i = c then r0 else R i) (upd kd c (nI kk)) (upd lf c l) (upd rg c r) := by
  refine ⟨G.1, fun i hi => ?_⟩
  dsimp only
  by_cases e : i = c
  · rw [e, pk_us, pk_us, pk_us, if_pos rfl, if_pos rfl, if_pos rfl]
    exact ⟨rfl, hk, h⟩
  · rw [pk_un e, pk_un e, pk_un e, if_neg e, if_neg e, if_neg e]
    exact G.2 i hi
end
section
variable {C : Nat} {K L R : Nat → Nat} {fl ft fo fr fi : Int32} {kd lf rg ls tok st ta : Nat → Int32}
theorem xd_51 {c : Nat} {x2 x3 x4 x6 z0 l r : Int32} (hc : c < C) (G : gx_ok C K L R (upd kd c x2) (upd lf c l) (upd rg c r))
    (hl : z0 = 0 → l = 0) (hl' : ¬ z0 = 0 → l = x3) (hr : x6 = 0 → r = 0) (hr' : ¬ x6 = 0 → r = x4) (post : Int32 → St2 → Prop)
    (hp : ∀ ls D, fx_Good C 16777216 (of_L K L R) D → gx_V C ls D → post 0 (nI C, fl, ft, fo, fr, fi, upd kd c x2, upd lf c l, upd rg c r, ls, tok, st, ta)) :
    wX_define_51 post (nI c) x2 x3 x4 x6 z0 (nI C) fl ft fo fr fi kd lf rg ls tok st ta := by
  have hC := G.1
  have hi : vp_in (nI c) 16 := vp_in_nI (by omega) (by omega)
  have cc : (nI c).toNatClampNeg = c := nI_clamp (by omega)
  have h92 : ∀ z, z = r → wX_define_92 post z (nI c) (nI C) fl ft fo fr fi (upd kd c x2) (upd lf c l) rg ls tok st ta := by
    intro z ez
    unfold wX_define_92
    rw [cc, ez]
    exact ⟨hi, nm_e (xc_all G _ (fun ls D GD hV => hp ls D GD hV))⟩
  have h75 : ∀ z, z = l → wX_define_75 post (nI c) x4 x6 z (nI c) (nI C) fl ft fo fr fi (upd kd c x2) lf rg ls tok st ta := by
    intro z ez
    unfold wX_define_75
    rw [cc, ez]
    exact ⟨hi, nm_e (br_c (fun w => h92 0 (hr w).symm) (fun w => h92 x4 (hr' w).symm))⟩
  unfold wX_define_51
  rw [cc]
  exact ⟨hi, nm_e (br_c (fun w => h75 0 (hl w).symm) (fun w => h75 x3 (hl' w).symm))⟩
theorem xf_plain {x2 x3 x4 : Int32} {post : Int32 → Prop} (h3 : ¬ x2 = 3) (h4 : ¬ x2 = 4) (h : post 0) : wX_faultOf_49 post x2 x3 x4 (nI C) fl ft fo fr fi kd lf rg ls tok st ta := by
  unfold wX_faultOf_49
  refine br_f h3 (br_f h4 ?_)
  unfold wX_faultOf_64
  refine br_t rfl ?_
  unfold wX_faultOf_82
  exact br_t rfl h
theorem xf_pair {x2 x3 x4 : Int32} {post : Int32 → Prop} (h34 : x2 = 3 ∨ x2 = 4) (h : wX_faultOf_64 post x3 x4 1 (nI C) fl ft fo fr fi kd lf rg ls tok st ta) : wX_faultOf_49 post x2 x3 x4 (nI C) fl ft fo fr fi kd lf rg ls tok st ta := by
  unfold wX_faultOf_49
  rcases h34 with e | e
  · exact br_t e h
  · exact br_f (by rw [e]; decide) (br_t e h)
theorem xf_p0 {x2 : Int32} {l r : Nat} {post : Int32 → Prop} (hC : C ≤ 16) (h34 : x2 = 3 ∨ x2 = 4) (hl : l < C) (hr : r < C) (h : post 0) : wX_faultOf_49 post x2 (nI l) (nI r) (nI C) fl ft fo fr fi kd lf rg ls tok st ta := by
  refine xf_pair h34 ?_
  unfold wX_faultOf_64
  refine br_f (by decide) (xq_yes hC hl (br_f (by decide) ?_))
  unfold wX_faultOf_82
  exact br_f (by decide) (xq_yes hC hr (br_f (by decide) h))
theorem xd_34a {x1 x2 x3 x4 : Int32} {post : Int32 → St2 → Prop} (h : ¬ x2 = 2) (hp : wX_define_51 post x1 x2 x3 x4 0 0 (nI C) fl ft fo fr fi kd lf rg ls tok st ta) : wX_define_34 post x1 x2 x3 x4 0 (nI C) fl ft fo fr fi kd lf rg ls tok st ta := by
  unfold wX_define_34
  exact br_t rfl (br_f h hp)
theorem xd_34b {x1 x2 x3 x4 : Int32} {post : Int32 → St2 → Prop} (h : x2 = 2) (hp : wX_define_51 post x1 x2 x3 x4 0 1 (nI C) fl ft fo fr fi kd lf rg ls tok st ta) : wX_define_34 post x1 x2 x3 x4 0 (nI C) fl ft fo fr fi kd lf rg ls tok st ta := by
  unfold wX_define_34
  exact br_t rfl (br_t h hp)
theorem xd_29 {x1 x2 x3 x4 : Int32} {post : Int32 → St2 → Prop} (hp : wX_define_51 post x1 x2 x3 x4 1 1 (nI C) fl ft fo fr fi kd lf rg ls tok st ta) : wX_define_29 post x1 x2 x3 x4 (nI C) fl ft fo fr fi kd lf rg ls tok st ta := by
  unfold wX_define_29 wX_define_34
  exact br_f (by decide) hp
end
section
variable {M A n ro : Nat} {K L R D : Nat → Nat} {kd lf rg ls tok st ta : Nat → Int32}
theorem pm_miss (G : gx_ok 8 K L R kd lf rg) (GD : fx_Good 8 16777216 (of_L K L R) D) (hV : gx_V 8 ls D) (hro : ro < 8) {e : Nat} (he : e ≤ 13) (hS : gx_S 8 K L R (fun i c => tok i = lf c) st e) {fl ft fo fi : Int32} (post : Int32 → St2 → Prop)
    (hp : ∀ ta x, la_V 8 K L R lf tok e ro x → post (nI x) (nI 8, fl, ft, fo, nI ro, fi, kd, lf, rg, ls, tok, st, ta)) :
    wpX_tokensMissing post (nI 8, fl, ft, fo, nI ro, fi, kd, lf, rg, ls, tok, st, ta) (nI e) :=
  xt_missing G he hro hS hV post (fun ta T h0 hT _ => hp ta _ (la_val rfl he (gx_wf G) GD h0 hT hro))
theorem pm_shortest (G : gx_ok 8 K L R kd lf rg) (GD : fx_Good 8 16777216 (of_L K L R) D) (hV : gx_V 8 ls D) (hro : ro < 8) (hn : n ≤ 12) (hS : gx_S 8 K L R (fun i c => tok i = lf c) st (n + 1)) (post : Int32 → St2 → Prop)
    (hp : ∀ ta x, la_V 8 K L R lf tok n ro x → post (rl_a x) (nI 8, nI M, nI A, 1, nI ro, nI n, kd, lf, rg, ls, tok, st, ta)) :
    wpX_shortest post (nI 8, nI M, nI A, 1, nI ro, nI n, kd, lf, rg, ls, tok, st, ta) := by
  unfold wpX_shortest
  dsimp only
  exact br_f (by decide) (pm_miss G GD hV hro (by omega) (gx_S_le hS (by omega)) _ (fun ta x hx => xv_len hx.1 (hp ta x hx)))
theorem pm_verdict (G : gx_ok 8 K L R kd lf rg) (GD : fx_Good 8 16777216 (of_L K L R) D) (hV : gx_V 8 ls D) (hro : ro < 8) (hn : n ≤ 12) (hS : gx_S 8 K L R (fun i c => tok i = lf c) st (n + 1)) (post : Int32 → St2 → Prop)
    (hp : ∀ ta x, la_V 8 K L R lf tok n ro x → post (rl_v x) (nI 8, nI M, nI A, 1, nI ro, nI n, kd, lf, rg, ls, tok, st, ta)) :
    wpX_verdict post (nI 8, nI M, nI A, 1, nI ro, nI n, kd, lf, rg, ls, tok, st, ta) := by
  unfold wpX_verdict
  dsimp only
  exact br_f (by decide) (pm_miss G GD hV hro (by omega) (gx_S_le hS (by omega)) _ (fun ta x hx => xv_for hx.1 (hp ta x hx)))
theorem pm_keep (G : gx_ok 8 K L R kd lf rg) (GD : fx_Good 8 16777216 (of_L K L R) D) (hV : gx_V 8 ls D) (hro : ro < 8) (hn : n ≤ 12) (hS : gx_S 8 K L R (fun i c => tok i = lf c) st (n + 1)) {m : Nat} (hm : m ≤ n) (post : Int32 → St2 → Prop)
    (hp : ∀ ta x, la_V 8 K L R lf tok m ro x → post (rl_v x) (nI 8, nI M, nI A, 1, nI ro, nI m, kd, lf, rg, ls, tok, st, ta)) :
    wpX_keep post (nI 8, nI M, nI A, 1, nI ro, nI n, kd, lf, rg, ls, tok, st, ta) (nI m) := by
  unfold wpX_keep
  dsimp only
  exact br_f (by decide) (br_f (nI_pos (by omega)) (br_t (nI_le hm (by omega)) (pm_miss G GD hV hro (by omega) (gx_S_le hS (by omega)) _ (fun ta x hx => xv_for hx.1 (hp ta x hx)))))
theorem pm_ahead (G : gx_ok 8 K L R kd lf rg) (GD : fx_Good 8 16777216 (of_L K L R) D) (hV : gx_V 8 ls D) (hro : ro < 8) (hn : n ≤ 12) (hA8 : A ≤ 8) (hS : gx_S 8 K L R (fun i c => tok i = lf c) st (n + 1)) {a : Nat} (ha : a < A) (post : Int32 → St2 → Prop)
    (hp : ∀ ta x, la_V 8 K L R lf (upd tok n (nI a)) (n + 1) ro x → post (rl_a x) (nI 8, nI M, nI A, 1, nI ro, nI n, kd, lf, rg, ls, upd tok n (nI a), st, ta)) :
    wpX_ahead post (nI 8, nI M, nI A, 1, nI ro, nI n, kd, lf, rg, ls, tok, st, ta) (nI a) := by
  unfold wpX_ahead
  dsimp only
  rw [show (nI n).toNatClampNeg = n from nI_clamp (by omega), nI_1 n]
  exact br_f (by decide) (xk_yes hA8 ha (br_f (by decide) ⟨vp_in_nI (by omega) (by omega), nm_e (pm_miss G GD hV hro (by omega) (gx_S_tok hS) _ (fun ta x hx => xv_len hx.1 (hp ta x hx)))⟩))
theorem pm_feed (G : gx_ok 8 K L R kd lf rg) (GD : fx_Good 8 16777216 (of_L K L R) D) (hV : gx_V 8 ls D) (hro : ro < 8) (hnM : n < M) (hM : M ≤ 12) (hA8 : A ≤ 8) (hS : gx_S 8 K L R (fun i c => tok i = lf c) st (n + 1)) {a : Nat} (ha : a < A) (post : Int32 → St2 → Prop)
    (hp : ∀ st ta x, gx_S 8 K L R (fun i c => upd tok n (nI a) i = lf c) st (n + 2) → la_V 8 K L R lf (upd tok n (nI a)) (n + 1) ro x → post (rl_v x) (nI 8, nI M, nI A, 1, nI ro, nI (n + 1), kd, lf, rg, ls, upd tok n (nI a), st, ta)) :
    wpX_feed post (nI 8, nI M, nI A, 1, nI ro, nI n, kd, lf, rg, ls, tok, st, ta) (nI a) := by
  unfold wpX_feed
  dsimp only
  rw [show (nI n).toNatClampNeg = n from nI_clamp (by omega)]
  refine br_f (by decide) (xk_yes hA8 ha (br_f (by decide) (br_t (nI_lt hnM (by omega)) ⟨vp_in_nI (by omega) (by omega), nm_e (nm_r (nI_1 n) ?_)⟩)))
  refine xm_upto G GD hV (by omega) (gx_S_tok hS) _ (fun st' hS' => ?_)
  exact pm_miss G GD hV hro (by omega) (gx_S_le hS' (by omega)) _ (fun ta x hx => xv_for hx.1 (hp st' ta x hS' hx))
theorem pm_open (G : gx_ok 8 K L R kd lf rg) (GD : fx_Good 8 16777216 (of_L K L R) D) (hV : gx_V 8 ls D) (hro : ro < 8) {fr fi : Int32} (post : Int32 → St2 → Prop)
    (hp : ∀ st x, gx_S 8 K L R (fun i c => tok i = lf c) st (0 + 1) → la_V 8 K L R lf tok 0 ro x → post (rl_v x) (nI 8, nI M, nI A, 1, nI ro, nI 0, kd, lf, rg, ls, tok, st, ta)) :
    wpX_open post (nI 8, nI M, nI A, 0, fr, fi, kd, lf, rg, ls, tok, st, ta) (nI ro) := by
  unfold wpX_open
  dsimp only
  refine br_t rfl (xq_yes (by omega) hro (br_f (by decide) (xm_upto G GD hV (t := 0) (by omega) (fun c i j _ _ h => absurd h (by omega)) _ (fun st' hS => ⟨vp_in_nI (by omega) (by omega), ?_⟩))))
  dsimp only
  rw [show (nI ro).toNatClampNeg = ro from nI_clamp (by omega), (hV ro hro).1]
  exact xv_for (hV ro hro).2 (hp st' (D ro) hS (la_val (T := fun _ => D) (n := 0) rfl (by omega) (gx_wf G) GD (fun _ _ => rfl) (fun i hi => absurd hi (by omega)) hro))
/-- a cell's new content: kind kk, left l (kept from kind 2 on), right r (from kind 3 on) -/
theorem pm_define (G : gx_ok 8 K L R kd lf rg) {fr fi : Int32} {c kk l r : Nat} (hc : c < 8) (hk : kk ≤ 4) (hA8 : A ≤ 8) (hl : l < 8) (hr : r < 8) (h2 : kk = 2 → l < A) (post : Int32 → St2 → Prop)
    (hp : ∀ K' L' R' kd' lf' rg' ls' D, gx_ok 8 K' L' R' kd' lf' rg' → fx_Good 8 16777216 (of_L K' L' R') D → gx_V 8 ls' D →
      (∀ d, d < 8 → d ≠ c → K' d = K d ∧ L' d = L d ∧ R' d = R d ∧ lf' d = lf d) → K' c = kk → (2 ≤ kk → lf' c = nI l) → (3 ≤ kk → L' c = l ∧ R' c = r ∧ rg' c = nI r) → kd' c = nI kk →
      post 0 (nI 8, nI M, nI A, 0, fr, fi, kd', lf', rg', ls', tok, st, ta)) :
    wpX_define post (nI 8, nI M, nI A, 0, fr, fi, kd, lf, rg, ls, tok, st, ta) (nI c) (nI kk) (nI l) (nI r) := by
  have n01 : ¬ (1 : Int32) = 0 := by decide
  have go : ∀ (l' r' : Int32), (2 ≤ kk → l' = nI l) → (3 ≤ kk → r' = nI r) → ∀ ls' D, fx_Good 8 16777216 (of_L (fun i => if i = c then kk else K i) (fun i => if i = c then l else L i) (fun i => if i = c then r else R i)) D → gx_V 8 ls' D →
      gx_ok 8 (fun i => if i = c then kk else K i) (fun i => if i = c then l else L i) (fun i => if i = c then r else R i) (upd kd c (nI kk)) (upd lf c l') (upd rg c r') →
      post 0 (nI 8, nI M, nI A, 0, fr, fi, upd kd c (nI kk), upd lf c l', upd rg c r', ls', tok, st, ta) := by
    intro l' r' e1 e2 ls' D GD hV G'
    refine hp _ _ _ _ _ _ ls' D G' GD hV (fun d _ hn => ⟨if_neg hn, if_neg hn, if_neg hn, pk_un hn⟩) (if_pos rfl) (fun h => ?_) (fun h => ⟨if_pos rfl, if_pos rfl, ?_⟩) pk_us
    · rw [pk_us, e1 h]
    · rw [pk_us, e2 h]
  unfold wpX_define
  dsimp only
  unfold wpX_faultOf
  dsimp only
  refine br_t rfl (xq_yes (by omega) hc (br_f (by decide) (br_f (nI_pos (by omega)) (br_t (nI_le (b := 4) hk (by omega)) ?_))))
  rcases gx_K4 hk with rfl | rfl | rfl | rfl | rfl
  · have G' := gx_ok_upd G c (kk := 0) (l0 := l) (r0 := r) (l := 0) (r := 0) (by omega) (fun h => absurd h (by decide))
    exact br_f (by decide) (xf_plain (by decide) (by decide) (br_t rfl (br_f (by decide) (br_f (by decide) (xd_34a (by decide) (xd_51 hc G' (fun _ => rfl) (fun h => absurd rfl h) (fun _ => rfl) (fun h => absurd rfl h) _ (fun ls D GD hV => go 0 0 (fun h => absurd h (by omega)) (fun h => absurd h (by omega)) ls D GD hV G')))))))
  · have G' := gx_ok_upd G c (kk := 1) (l0 := l) (r0 := r) (l := 0) (r := 0) (by omega) (fun h => absurd h (by decide))
    exact br_f (by decide) (xf_plain (by decide) (by decide) (br_t rfl (br_f (by decide) (br_f (by decide) (xd_34a (by decide) (xd_51 hc G' (fun _ => rfl) (fun h => absurd rfl h) (fun _ => rfl) (fun h => absurd rfl h) _ (fun ls D GD hV => go 0 0 (fun h => absurd h (by omega)) (fun h => absurd h (by omega)) ls D GD hV G')))))))
  · have G' := gx_ok_upd G c (kk := 2) (l0 := l) (r0 := r) (l := nI l) (r := 0) (by omega) (fun h => absurd h (by decide))
    exact br_t (by decide) (xk_yes hA8 (h2 rfl) (br_f (by decide) (xf_plain (by decide) (by decide) (br_t rfl (br_f (by decide) (br_f (by decide) (xd_34b (by decide) (xd_51 hc G' (fun h => absurd h n01) (fun _ => rfl) (fun _ => rfl) (fun h => absurd rfl h) _ (fun ls D GD hV => go (nI l) 0 (fun _ => rfl) (fun h => absurd h (by omega)) ls D GD hV G')))))))))
  · have G' := gx_ok_upd G c (kk := 3) (l0 := l) (r0 := r) (l := nI l) (r := nI r) (by omega) (fun _ => ⟨rfl, rfl, hl, hr⟩)
    exact br_f (by decide) (xf_p0 (by omega) (Or.inl rfl) hl hr (br_t rfl (br_t rfl (xd_29 (xd_51 hc G' (fun h => absurd h n01) (fun _ => rfl) (fun h => absurd h n01) (fun _ => rfl) _ (fun ls D GD hV => go (nI l) (nI r) (fun _ => rfl) (fun _ => rfl) ls D GD hV G'))))))
  · have G' := gx_ok_upd G c (kk := 4) (l0 := l) (r0 := r) (l := nI l) (r := nI r) (by omega) (fun _ => ⟨rfl, rfl, hl, hr⟩)
    exact br_f (by decide) (xf_p0 (by omega) (Or.inr rfl) hl hr (br_t rfl (br_f (by decide) (br_t rfl (xd_29 (xd_51 hc G' (fun h => absurd h n01) (fun _ => rfl) (fun h => absurd h n01) (fun _ => rfl) _ (fun ls D GD hV => go (nI l) (nI r) (fun _ => rfl) (fun _ => rfl) ls D GD hV G')))))))
end
/-! what the law makes of the answers -/
theorem rl_nb {x : Nat} (hx : x ≤ 16777216) : (-1) ≤ rl_a x := by
  unfold rl_a
  by_cases h : x < 16777216
  · rw [if_pos h, Int32.le_iff_toInt_le, nI_toInt (by omega)]
    have : (-1 : Int32).toInt = -1 := by decide
    omega
  · rw [if_neg h]; decide
theorem rl_ver {x : Nat} (hx : x ≤ 16777216) {post : Int32 → Prop} (h : post (rl_v x)) : wpL_verdictOf post () (rl_a x) := by
  unfold wpL_verdictOf
  unfold rl_a
  by_cases z : x < 16777216
  · rw [if_pos z]
    refine pk_eq x 0 (fun e => ?_) (fun e => pk_le x 0 (fun y => absurd y (by omega)) (fun y => ?_))
    · rw [rl_v, if_pos e] at h; exact h
    · rw [rl_v, if_neg e, if_pos z] at h; exact h
  · rw [if_neg z]
    rw [rl_v, if_neg (by omega), if_neg z] at h
    exact br_f (by decide) (br_t (by decide) h)
theorem rl_neg {x : Nat} (hx : x ≤ 16777216) : rl_a x < 0 ↔ ¬ x < 16777216 := by
  unfold rl_a
  by_cases h : x < 16777216
  · rw [if_pos h]
    exact ⟨fun z => absurd z (nI_pos (by omega)), fun z => absurd h z⟩
  · rw [if_neg h]
    exact ⟨fun _ => h, fun _ => by decide⟩
theorem lr_fits3 {K L R : Nat → Nat} {lf w : Nat → Int32} {m ro x : Nat} {z : Int64} (hm : m ≤ 7) (hz : ∀ j, j < 8 → (bL z j = true ↔ au_bit K L R lf w m ro j)) (hV : la_V 8 K L R lf w m ro x) (post : Int32 → Prop) (hp : post 1) :
    ∀ f j, m ≤ j → j ≤ 7 → 7 - j < f → (∀ i, m ≤ i → i < j → ¬ au_bit K L R lf w m ro i) → wL_fits_3 post z (nI m) (rl_a x) f (nI j) := by
  have hx := hV.1
  have mine : x < 16777216 → au_bit K L R lf w m ro (if m + x < 7 then m + x else 7) := by
    intro h
    obtain ⟨q, e, o⟩ := hV.2.1 h
    have := au_bk hm o
    rw [e] at this
    exact this
  intro f
  induction f with
  | zero => intro j _ _ h; omega
  | succ f ih =>
    intro j hmj hj hf hno
    refine pk_le 7 j (fun e => ?_) (fun e => ?_)
    · have e7 : j = 7 := by omega
      refine ek_if (mx_bit1 z (j := 7) (by omega)) (fun b => ?_) (fun b => ?_)
      · obtain ⟨q, o, hq⟩ := au_b7 hm ((hz 7 (by omega)).1 b)
        have h1 := hV.2.2 q o
        have h2 := mine h1.2
        have h3 : ¬ m + x < 7 := fun y => by
          rw [if_pos y] at h2
          exact hno _ (by omega) (by omega) h2
        rw [show (7 : Int32) - nI m = nI (7 - m) from pk_sub (a := 7) hm]
        refine br_f ?_ hp
        rw [rl_a, if_pos h1.2]
        exact nI_nlt (by omega) (by omega)
      · have h1 : ¬ x < 16777216 := fun y => by
          have h2 := mine y
          by_cases h3 : m + x < 7
          · rw [if_pos h3] at h2
            exact hno _ (by omega) (by omega) h2
          · rw [if_neg h3] at h2
            exact b ((hz 7 (by omega)).2 h2)
        rw [rl_a, if_neg h1]
        exact br_t rfl hp
    · refine ek_if (mx_bit1 z (j := j) (by omega)) (fun b => ?_) (fun b => nm_r (nI_1 j) (ih (j + 1) (by omega) (by omega) (by omega) (fun i a c => ?_)))
      · obtain ⟨q, o, hq⟩ := au_b1 hm e hmj ((hz j (by omega)).1 b)
        have h1 := hV.2.2 q o
        have h2 := mine h1.2
        have h3 : ¬ m + x < j := fun y => by
          rw [if_pos (by omega)] at h2
          exact hno _ (by omega) (by omega) h2
        rw [show nI j - nI m = nI (j - m) from pk_sub hmj, rl_a, if_pos h1.2, show x = j - m from by omega]
        exact br_t rfl hp
      · by_cases e2 : i = j
        · rw [e2]
          exact fun y => b ((hz j (by omega)).2 y)
        · exact hno i a (by omega)
theorem lr_fits {K L R : Nat → Nat} {lf w : Nat → Int32} {m ro x : Nat} {z : Int64} (hm : m ≤ 7) (hz : ∀ j, j < 8 → (bL z j = true ↔ au_bit K L R lf w m ro j)) (hV : la_V 8 K L R lf w m ro x) (post : Int32 → Prop) (hp : post 1) :
    wpL_fits post () z (nI m) (rl_a x) :=
  ⟨8, lr_fits3 hm hz hV post hp 8 m (Nat.le_refl _) hm (by omega) (fun i a b => absurd b (by omega))⟩
theorem lc_any {L : Nat} (hL : L ≤ 260) (xs : Nat → Int32) {q : Nat} (hq : q < 100000) {post : Int32 → Prop} (h : ∀ x, post x) : wpL_cell post L xs () (nI q) :=
  pk_le L q (fun _ => h 0) (fun z => ⟨vp_in_nI z (by omega), h _⟩)
theorem lc_mod (x : Int32) {d : Nat} (hd : 0 < d) (hd2 : d < 100) {post : Int32 → Prop} (h : ∀ j, j < d → post (nI j)) : wpL_mod post () x (nI d) := by
  obtain ⟨j, hj, e⟩ := pk_andE x (m := 2147483647) 31 (by decide)
  refine ⟨nI_ne0 hd (by omega), ?_⟩
  rw [e, pk_rem (by omega) hd (by omega)]
  exact h _ (Nat.mod_lt _ hd)
end
section
/-! the law's inner loops: one step of a round -/
def ll_G (A : Nat) (K L R D : Nat → Nat) (kd lf rg ls : Nat → Int32) (x5 x7 x9 : Int64) : Prop :=
  gx_ok 8 K L R kd lf rg ∧ fx_Good 8 16777216 (of_L K L R) D ∧ gx_V 8 ls D ∧ (∀ c, c < 8 → K c = 2 → ∃ a, a < A ∧ lf c = nI a) ∧ lr_nk x5 x7 x9 K L R lf
/-- an open input of n tokens, packed in x15, with the value x -/
def ll_O (K L R : Nat → Nat) (lf tok st : Nat → Int32) (n ro : Nat) (x15 : Int64) (x : Nat) : Prop :=
  gx_S 8 K L R (fun i c => tok i = lf c) st (n + 1) ∧ nb_w x15 tok n ∧ la_V 8 K L R lf tok n ro x
theorem ll_O_tok {K L R : Nat → Nat} {lf tok st : Nat → Int32} {n ro x : Nat} {x15 : Int64} (h : ll_O K L R lf tok st n ro x15 x) (y : Int32) : ll_O K L R lf (upd tok n y) st n ro x15 x :=
  ⟨gx_S_tok h.1, nb_w_tok h.2.1 (fun d hd => (pk_un (by omega)).symm), la_V_w h.2.2 (fun t ht => (pk_un (by omega)).symm)⟩
/-- bb: the least value after one more token below a; w0 holds the input -/
def ll_B (K L R : Nat → Nat) (lf w0 : Nat → Int32) (n ro a bb : Nat) : Prop :=
  bb ≤ 16777216 ∧ (∀ t, t < a → ∃ y, la_V 8 K L R lf (upd w0 n (nI t)) (n + 1) ro y ∧ bb ≤ y) ∧ (bb < 16777216 → ∃ t, t < a ∧ la_V 8 K L R lf (upd w0 n (nI t)) (n + 1) ro bb)
theorem ll_B0 (K L R : Nat → Nat) (lf w0 : Nat → Int32) (n ro : Nat) : ll_B K L R lf w0 n ro 0 16777216 :=
  ⟨Nat.le_refl _, fun t h => absurd h (by omega), fun h => absurd h (by omega)⟩
theorem ll_B_keep {K L R : Nat → Nat} {lf w0 : Nat → Int32} {n ro a bb y : Nat} (h : ll_B K L R lf w0 n ro a bb) (hy : la_V 8 K L R lf (upd w0 n (nI a)) (n + 1) ro y) (hb : bb ≤ y) : ll_B K L R lf w0 n ro (a + 1) bb := by
  refine ⟨h.1, fun t ht => ?_, fun hl => ?_⟩
  · by_cases e : t = a
    · rw [e]; exact ⟨y, hy, hb⟩
    · exact h.2.1 t (by omega)
  · obtain ⟨t, ht, o⟩ := h.2.2 hl
    exact ⟨t, by omega, o⟩
theorem ll_B_new {K L R : Nat → Nat} {lf w0 : Nat → Int32} {n ro a bb y : Nat} (h : ll_B K L R lf w0 n ro a bb) (hy : la_V 8 K L R lf (upd w0 n (nI a)) (n + 1) ro y) (hb : y ≤ bb) : ll_B K L R lf w0 n ro (a + 1) y := by
  refine ⟨hy.1, fun t ht => ?_, fun hl => ⟨a, by omega, hy⟩⟩
  by_cases e : t = a
  · rw [e]; exact ⟨y, hy, Nat.le_refl _⟩
  · obtain ⟨z, o, hz⟩ := h.2.1 t (by omega)
    exact ⟨z, o, by omega⟩
theorem ll_B_end {K L R : Nat → Nat} {lf w0 : Nat → Int32} {n ro A bb x : Nat} (h : ll_B K L R lf w0 n ro A bb) (hA : ∀ c, c < 8 → K c = 2 → ∃ a, a < A ∧ lf c = nI a) (hx : la_V 8 K L R lf w0 n ro x) :
    (¬ x < 16777216 → bb = 16777216) ∧ (0 < x → x < 16777216 → bb = x - 1) := by
  constructor
  · intro z
    by_cases hb : bb < 16777216
    · obtain ⟨t, _, o⟩ := h.2.2 hb
      have := la_next hx o hb
      exact absurd this.2 z
    · have := h.1
      omega
  · intro h0 hl
    obtain ⟨a, ha, hle⟩ := la_some hA hx h0 hl
    obtain ⟨y, oy, hy⟩ := h.2.1 a ha
    have h1 := hle y oy
    have hb : bb < 16777216 := by omega
    obtain ⟨t, _, o⟩ := h.2.2 hb
    have := la_next hx o hb
    omega
section
variable {N0 : Nat} {xs : Nat → Int32} {kc ks M A ro : Nat} {K L R D : Nat → Nat} {kd lf rg ls : Nat → Int32} {x5 x7 x9 : Int64}
theorem ll_864 {n rd q : Nat} {tok st ta : Nat → Int32} (post : Int32 → Prop) (J54 : Int32 → Int64 → Int64 → Int64 → Int32 → Int32 → Int32 → Int32 → Int32 → Int32 → Int32 → (Nat → Int32) → (Nat → Int32) → (Nat → Int32) → (Nat → Int32) → (Nat → Int32) → (Nat → Int32) → (Nat → Int32) → Prop)
    (hJ : ∀ tok st ta, J54 (nI q) x5 x7 x9 (nI (rd + 1)) (nI 8) (nI M) (nI A) 0 0 0 kd lf rg ls tok st ta) :
    wL_law_864 post N0 xs J54 (nI A) (nI M) (nI q) x5 x7 x9 (nI rd) kc ks (nI 8) (nI M) (nI A) 1 (nI ro) (nI n) kd lf rg ls tok st ta := by
  unfold wL_law_864
  unfold wpX_close
  dsimp only
  exact br_f (by decide) (br_t rfl (nm_r (nI_1 rd) (hJ tok st ta)))
theorem ll_739 (G : ll_G A K L R D kd lf rg ls x5 x7 x9) (hro : ro < 8) (hM : M ≤ 12) {n rd q sp x : Nat} {tok st ta : Nat → Int32} {x15 : Int64} (hn : n ≤ M) (hn0 : 0 < n) (hO : ll_O K L R lf tok st n ro x15 x) (post : Int32 → Prop) (J54 : Int32 → Int64 → Int64 → Int64 → Int32 → Int32 → Int32 → Int32 → Int32 → Int32 → Int32 → (Nat → Int32) → (Nat → Int32) → (Nat → Int32) → (Nat → Int32) → (Nat → Int32) → (Nat → Int32) → (Nat → Int32) → Prop) (J367 : Int32 → Int32 → Int32 → Int64 → Int32 → Int32 → Int32 → Int32 → Int32 → Int32 → Int32 → (Nat → Int32) → (Nat → Int32) → (Nat → Int32) → (Nat → Int32) → (Nat → Int32) → (Nat → Int32) → (Nat → Int32) → Prop)
    (hJ : ∀ n x15 tok st ta x, n ≤ M → ll_O K L R lf tok st n ro x15 x → J367 (nI q) (nI n) (rl_v x) x15 (nI (sp + 1)) (nI 8) (nI M) (nI A) 1 (nI ro) (nI n) kd lf rg ls tok st ta) (x21 : Int32) :
    wL_law_739 post N0 xs J54 J367 (nI A) (nI M) (nI q) x5 x7 x9 (nI rd) (nI ro) (nI n) x15 (nI sp) x21 kc ks (nI 8) (nI M) (nI A) 1 (nI ro) (nI n) kd lf rg ls tok st ta := by
  unfold wL_law_739
  refine lc_mod _ hn0 (by omega) (fun m hm => nm_e (pm_keep G.1 G.2.1 G.2.2.1 hro (by omega) hO.1 (by omega) _ (fun ta x hx => ?_)))
  refine nm_r (nI_1 sp) (hJ m _ tok st ta x (by omega) ⟨gx_S_le hO.1 (by omega), nb_cut hO.2.1 (by omega) (by omega), hx⟩)
theorem ll_833 (G : ll_G A K L R D kd lf rg ls x5 x7 x9) (hro : ro < 8) (hM : M ≤ 12) (hA8 : A ≤ 4) {n rd q sp x a : Nat} {tok st ta : Nat → Int32} {x15 : Int64} (hn : n < M) (ha : a < A) (hO : ll_O K L R lf tok st n ro x15 x) (post : Int32 → Prop) (J54 : Int32 → Int64 → Int64 → Int64 → Int32 → Int32 → Int32 → Int32 → Int32 → Int32 → Int32 → (Nat → Int32) → (Nat → Int32) → (Nat → Int32) → (Nat → Int32) → (Nat → Int32) → (Nat → Int32) → (Nat → Int32) → Prop) (J367 : Int32 → Int32 → Int32 → Int64 → Int32 → Int32 → Int32 → Int32 → Int32 → Int32 → Int32 → (Nat → Int32) → (Nat → Int32) → (Nat → Int32) → (Nat → Int32) → (Nat → Int32) → (Nat → Int32) → (Nat → Int32) → Prop)
    (hJ : ∀ n x15 tok st ta x, n ≤ M → ll_O K L R lf tok st n ro x15 x → J367 (nI q) (nI n) (rl_v x) x15 (nI (sp + 1)) (nI 8) (nI M) (nI A) 1 (nI ro) (nI n) kd lf rg ls tok st ta) :
    wL_law_833 post N0 xs J54 J367 (nI A) (nI M) (nI q) x5 x7 x9 (nI rd) (nI ro) (nI n) x15 (nI sp) (nI a) kc ks (nI 8) (nI M) (nI A) 1 (nI ro) (nI n) kd lf rg ls tok st ta := by
  unfold wL_law_833
  refine pm_feed G.1 G.2.1 G.2.2.1 hro hn hM (by omega) hO.1 ha _ (fun st ta x hS hx => ?_)
  exact nm_e (nm_r (nI_1 n) (nm_r (nI_1 sp) (hJ (n + 1) _ _ st ta x (by omega) ⟨hS, nb_add hO.2.1 (by omega) (by omega), hx⟩)))
theorem ll_797 (G : ll_G A K L R D kd lf rg ls x5 x7 x9) (hro : ro < 8) (hM : M ≤ 12) (hA8 : A ≤ 4) {n rd q sp x : Nat} {st : Nat → Int32} {x15 : Int64} (hn : n < M) (post : Int32 → Prop) (J54 : Int32 → Int64 → Int64 → Int64 → Int32 → Int32 → Int32 → Int32 → Int32 → Int32 → Int32 → (Nat → Int32) → (Nat → Int32) → (Nat → Int32) → (Nat → Int32) → (Nat → Int32) → (Nat → Int32) → (Nat → Int32) → Prop) (J367 : Int32 → Int32 → Int32 → Int64 → Int32 → Int32 → Int32 → Int32 → Int32 → Int32 → Int32 → (Nat → Int32) → (Nat → Int32) → (Nat → Int32) → (Nat → Int32) → (Nat → Int32) → (Nat → Int32) → (Nat → Int32) → Prop)
    (hJ : ∀ n x15 tok st ta x, n ≤ M → ll_O K L R lf tok st n ro x15 x → J367 (nI q) (nI n) (rl_v x) x15 (nI (sp + 1)) (nI 8) (nI M) (nI A) 1 (nI ro) (nI n) kd lf rg ls tok st ta) (x22 : Int32) :
    ∀ f i a tok ta, i ≤ A → A - i < f → a < A → ll_O K L R lf tok st n ro x15 x →
    wL_law_797 post N0 xs J54 J367 (nI A) (nI M) (nI q) x5 x7 x9 (nI rd) (nI ro) (nI n) x15 (nI sp) x22 kc ks f (nI a) (nI i) (nI 8) (nI M) (nI A) 1 (nI ro) (nI n) kd lf rg ls tok st ta := by
  intro f
  induction f with
  | zero => intro i a tok ta _ h; omega
  | succ f ih =>
    intro i a tok ta hi hf ha hO
    refine pk_le A i (fun _ => ll_833 G hro hM hA8 hn ha hO post J54 J367 hJ) (fun hlt => br_c (fun _ => ll_833 G hro hM hA8 hn ha hO post J54 J367 hJ) (fun _ => ?_))
    refine pm_ahead G.1 G.2.1 G.2.2.1 hro (by omega) (by omega) hO.1 ha _ (fun ta x' hx => ?_)
    refine br_c (fun _ => ll_833 G hro hM hA8 hn ha (ll_O_tok hO _) post J54 J367 hJ) (fun _ => ⟨nI_ne0 (by omega) (by omega), ?_⟩)
    rw [nI_1, pk_rem (by omega) (by omega) (by omega)]
    exact nm_e (nm_r (nI_1 i) (ih (i + 1) _ _ ta (by omega) (by omega) (Nat.mod_lt _ (by omega)) (ll_O_tok hO _)))
theorem ll_778 (G : ll_G A K L R D kd lf rg ls x5 x7 x9) (hro : ro < 8) (hM : M ≤ 12) (hA2 : 0 < A) (hA8 : A ≤ 4) {n rd q sp x : Nat} {tok st ta : Nat → Int32} {x15 : Int64} (hn : n < M) (hO : ll_O K L R lf tok st n ro x15 x) (post : Int32 → Prop) (J54 : Int32 → Int64 → Int64 → Int64 → Int32 → Int32 → Int32 → Int32 → Int32 → Int32 → Int32 → (Nat → Int32) → (Nat → Int32) → (Nat → Int32) → (Nat → Int32) → (Nat → Int32) → (Nat → Int32) → (Nat → Int32) → Prop) (J367 : Int32 → Int32 → Int32 → Int64 → Int32 → Int32 → Int32 → Int32 → Int32 → Int32 → Int32 → (Nat → Int32) → (Nat → Int32) → (Nat → Int32) → (Nat → Int32) → (Nat → Int32) → (Nat → Int32) → (Nat → Int32) → Prop)
    (hJ : ∀ n x15 tok st ta x, n ≤ M → ll_O K L R lf tok st n ro x15 x → J367 (nI q) (nI n) (rl_v x) x15 (nI (sp + 1)) (nI 8) (nI M) (nI A) 1 (nI ro) (nI n) kd lf rg ls tok st ta) (x21 x22 : Int32) :
    wL_law_778 post N0 xs J54 J367 (nI A) (nI M) (nI q) x5 x7 x9 (nI rd) (nI ro) (nI n) x15 (nI sp) x21 x22 kc ks (nI 8) (nI M) (nI A) 1 (nI ro) (nI n) kd lf rg ls tok st ta := by
  unfold wL_law_778
  exact lc_mod _ hA2 (by omega) (fun a ha => ⟨A + 1, ll_797 G hro hM hA8 hn post J54 J367 hJ x22 (A + 1) 1 a tok ta (by omega) (by omega) ha hO⟩)
theorem ll_694 (hN : N0 ≤ 260) (G : ll_G A K L R D kd lf rg ls x5 x7 x9) (hro : ro < 8) (hM : M ≤ 12) (hM0 : 0 < M) (hA2 : 0 < A) (hA8 : A ≤ 4) {n rd q sp x : Nat} {tok st ta : Nat → Int32} {x15 : Int64} (hq : q < 10000) (hsp : sp < 12) (hn : n ≤ M) (hO : ll_O K L R lf tok st n ro x15 x) (post : Int32 → Prop) (J54 : Int32 → Int64 → Int64 → Int64 → Int32 → Int32 → Int32 → Int32 → Int32 → Int32 → Int32 → (Nat → Int32) → (Nat → Int32) → (Nat → Int32) → (Nat → Int32) → (Nat → Int32) → (Nat → Int32) → (Nat → Int32) → Prop) (J367 : Int32 → Int32 → Int32 → Int64 → Int32 → Int32 → Int32 → Int32 → Int32 → Int32 → Int32 → (Nat → Int32) → (Nat → Int32) → (Nat → Int32) → (Nat → Int32) → (Nat → Int32) → (Nat → Int32) → (Nat → Int32) → Prop)
    (hC : ∀ tok st ta, J54 (nI q) x5 x7 x9 (nI (rd + 1)) (nI 8) (nI M) (nI A) 0 0 0 kd lf rg ls tok st ta)
    (hJ : ∀ n x15 tok st ta x, n ≤ M → ll_O K L R lf tok st n ro x15 x → J367 (nI (q + 1)) (nI n) (rl_v x) x15 (nI (sp + 1)) (nI 8) (nI M) (nI A) 1 (nI ro) (nI n) kd lf rg ls tok st ta) :
    wL_law_694 post N0 xs J54 J367 (nI A) (nI M) (nI q) x5 x7 x9 (nI rd) (nI ro) (nI n) x15 (nI sp) kc ks (nI 8) (nI M) (nI A) 1 (nI ro) (nI n) kd lf rg ls tok st ta := by
  unfold wL_law_694
  refine br_c (fun _ => ll_864 post J54 hC) (fun _ => nm_r (nI_1 q) (lc_any hN xs (by omega) (fun c => nm_e ?_)))
  refine pk_eq n M (fun e => ll_739 G hro hM hn (by omega) hO post J54 J367 hJ c) (fun e => br_c (fun _ => pk_le n 0 (fun z => ll_778 G hro hM hA2 hA8 (by omega) hO post J54 J367 hJ c _) (fun z => ll_739 G hro hM hn z hO post J54 J367 hJ c)) (fun _ => ll_778 G hro hM hA2 hA8 (by omega) hO post J54 J367 hJ c _))
theorem ll_608 (G : ll_G A K L R D kd lf rg ls x5 x7 x9) (hro : ro < 8) (hM : M ≤ 12) (hA8 : A ≤ 4) {n rd q sp x y a bb : Nat} {w0 tok st ta : Nat → Int32} {x15 : Int64} (hn : n ≤ M) (ha : a < A) (he : ∀ d, d < n → tok d = w0 d)
    (hO : ll_O K L R lf tok st n ro x15 x) (hy : la_V 8 K L R lf (upd w0 n (nI a)) (n + 1) ro y) (hB : ll_B K L R lf w0 n ro (a + 1) bb) (post : Int32 → Prop) (J54 : Int32 → Int64 → Int64 → Int64 → Int32 → Int32 → Int32 → Int32 → Int32 → Int32 → Int32 → (Nat → Int32) → (Nat → Int32) → (Nat → Int32) → (Nat → Int32) → (Nat → Int32) → (Nat → Int32) → (Nat → Int32) → Prop) (J367 : Int32 → Int32 → Int32 → Int64 → Int32 → Int32 → Int32 → Int32 → Int32 → Int32 → Int32 → (Nat → Int32) → (Nat → Int32) → (Nat → Int32) → (Nat → Int32) → (Nat → Int32) → (Nat → Int32) → (Nat → Int32) → Prop) (J513 : Int32 → Int32 → Int32 → Int32 → Int32 → Int32 → Int32 → Int32 → (Nat → Int32) → (Nat → Int32) → (Nat → Int32) → (Nat → Int32) → (Nat → Int32) → (Nat → Int32) → (Nat → Int32) → Prop)
    (hJ : ∀ bb tok st ta, ll_B K L R lf w0 n ro (a + 1) bb → (∀ d, d < n → tok d = w0 d) → ll_O K L R lf tok st n ro x15 x → J513 (rl_a bb) (nI (a + 1)) (nI 8) (nI M) (nI A) 1 (nI ro) (nI n) kd lf rg ls tok st ta) :
    wL_law_608 post N0 xs J54 J367 J513 (nI A) (nI M) (nI q) x5 x7 x9 (nI rd) (nI ro) (nI n) x15 (nI sp) (rl_a x) (rl_v x) (rl_a bb) (nI a) (rl_a y) kc ks (nI 8) (nI M) (nI A) 1 (nI ro) (nI n) kd lf rg ls tok st ta := by
  unfold wL_law_608
  refine pk_le M n (fun _ => nm_r (nI_1 a) (hJ bb tok st ta hB he hO)) (fun hlt => ?_)
  have up : ∀ t, t < n + 1 → upd tok n (nI a) t = upd w0 n (nI a) t := fun t ht => by
    by_cases e : t = n
    · rw [e, pk_us, pk_us]
    · rw [pk_un e, pk_un e]; exact he t (by omega)
  refine pm_feed G.1 G.2.1 G.2.2.1 hro hlt hM (by omega) hO.1 ha _ (fun st ta y1 hS hy1 => ?_)
  have e1 : y1 = y := la_V_u (la_V_w hy1 up) hy
  refine rl_ver hy.1 ?_
  rw [e1]
  refine br_t rfl (pm_shortest G.1 G.2.1 G.2.2.1 hro (by omega) hS _ (fun ta y2 hy2 => ?_))
  have e2 : y2 = y := la_V_u (la_V_w hy2 up) hy
  rw [e2]
  refine br_t rfl (pm_keep G.1 G.2.1 G.2.2.1 hro (by omega) hS (m := n) (by omega) _ (fun ta x1 hx1 => ?_))
  have hO' := ll_O_tok hO (nI a)
  have e3 : x1 = x := la_V_u hx1 hO'.2.2
  rw [e3]
  exact br_t rfl (nm_r (nI_1 a) (hJ bb _ st ta hB (fun d hd => by rw [pk_un (by omega)]; exact he d hd) ⟨gx_S_le hS (by omega), hO'.2.1, hO'.2.2⟩))
theorem ll_587 (G : ll_G A K L R D kd lf rg ls x5 x7 x9) (hro : ro < 8) (hM : M ≤ 12) (hA8 : A ≤ 4) {n rd q sp x y a bb : Nat} {w0 tok st ta : Nat → Int32} {x15 : Int64} (hn : n ≤ M) (ha : a < A) (he : ∀ d, d < n → tok d = w0 d)
    (hO : ll_O K L R lf tok st n ro x15 x) (hy : la_V 8 K L R lf (upd w0 n (nI a)) (n + 1) ro y) (hB : ll_B K L R lf w0 n ro a bb) (post : Int32 → Prop) (J54 : Int32 → Int64 → Int64 → Int64 → Int32 → Int32 → Int32 → Int32 → Int32 → Int32 → Int32 → (Nat → Int32) → (Nat → Int32) → (Nat → Int32) → (Nat → Int32) → (Nat → Int32) → (Nat → Int32) → (Nat → Int32) → Prop) (J367 : Int32 → Int32 → Int32 → Int64 → Int32 → Int32 → Int32 → Int32 → Int32 → Int32 → Int32 → (Nat → Int32) → (Nat → Int32) → (Nat → Int32) → (Nat → Int32) → (Nat → Int32) → (Nat → Int32) → (Nat → Int32) → Prop) (J513 : Int32 → Int32 → Int32 → Int32 → Int32 → Int32 → Int32 → Int32 → (Nat → Int32) → (Nat → Int32) → (Nat → Int32) → (Nat → Int32) → (Nat → Int32) → (Nat → Int32) → (Nat → Int32) → Prop)
    (hJ : ∀ bb tok st ta, ll_B K L R lf w0 n ro (a + 1) bb → (∀ d, d < n → tok d = w0 d) → ll_O K L R lf tok st n ro x15 x → J513 (rl_a bb) (nI (a + 1)) (nI 8) (nI M) (nI A) 1 (nI ro) (nI n) kd lf rg ls tok st ta) :
    wL_law_587 post N0 xs J54 J367 J513 (nI A) (nI M) (nI q) x5 x7 x9 (nI rd) (nI ro) (nI n) x15 (nI sp) (rl_a x) (rl_v x) (rl_a bb) (nI a) (rl_a y) kc ks (nI 8) (nI M) (nI A) 1 (nI ro) (nI n) kd lf rg ls tok st ta := by
  unfold wL_law_587 wL_law_604
  have new : y ≤ bb → wL_law_608 post N0 xs J54 J367 J513 (nI A) (nI M) (nI q) x5 x7 x9 (nI rd) (nI ro) (nI n) x15 (nI sp) (rl_a x) (rl_v x) (rl_a y) (nI a) (rl_a y) kc ks (nI 8) (nI M) (nI A) 1 (nI ro) (nI n) kd lf rg ls tok st ta :=
    fun h => ll_608 G hro hM hA8 hn ha he hO hy (ll_B_new hB hy h) post J54 J367 J513 hJ
  have old : bb ≤ y → wL_law_608 post N0 xs J54 J367 J513 (nI A) (nI M) (nI q) x5 x7 x9 (nI rd) (nI ro) (nI n) x15 (nI sp) (rl_a x) (rl_v x) (rl_a bb) (nI a) (rl_a y) kc ks (nI 8) (nI M) (nI A) 1 (nI ro) (nI n) kd lf rg ls tok st ta :=
    fun h => ll_608 G hro hM hA8 hn ha he hO hy (ll_B_keep hB hy h) post J54 J367 J513 hJ
  have hb := hB.1
  have hyB := hy.1
  refine br_c (fun z => old ?_) (fun z => br_c (fun z2 => new ?_) (fun z2 => ?_))
  · have := (rl_neg hyB).1 z
    omega
  · have := (rl_neg hb).1 z2
    omega
  · have h1 : y < 16777216 := Classical.byContradiction (fun w => z ((rl_neg hyB).2 w))
    have h2 : bb < 16777216 := Classical.byContradiction (fun w => z2 ((rl_neg hb).2 w))
    refine ek_if (d := bb ≤ y) ?_ (fun w => old w) (fun w => new (by omega))
    rw [rl_a, rl_a, if_pos h1, if_pos h2, nI_leI (by omega) (by omega)]
theorem ll_513 (hN : N0 ≤ 260) (G : ll_G A K L R D kd lf rg ls x5 x7 x9) (hro : ro < 8) (hM : M ≤ 12) (hM0 : 0 < M) (hA2 : 0 < A) (hA8 : A ≤ 4) {n rd q sp x : Nat} {w0 : Nat → Int32} {x15 : Int64} (hq : q < 10000) (hsp : sp < 12) (hn : n ≤ M) (hx0 : la_V 8 K L R lf w0 n ro x) (post : Int32 → Prop) (J54 : Int32 → Int64 → Int64 → Int64 → Int32 → Int32 → Int32 → Int32 → Int32 → Int32 → Int32 → (Nat → Int32) → (Nat → Int32) → (Nat → Int32) → (Nat → Int32) → (Nat → Int32) → (Nat → Int32) → (Nat → Int32) → Prop) (J367 : Int32 → Int32 → Int32 → Int64 → Int32 → Int32 → Int32 → Int32 → Int32 → Int32 → Int32 → (Nat → Int32) → (Nat → Int32) → (Nat → Int32) → (Nat → Int32) → (Nat → Int32) → (Nat → Int32) → (Nat → Int32) → Prop)
    (hC : ∀ tok st ta, J54 (nI q) x5 x7 x9 (nI (rd + 1)) (nI 8) (nI M) (nI A) 0 0 0 kd lf rg ls tok st ta)
    (hJ : ∀ n x15 tok st ta x, n ≤ M → ll_O K L R lf tok st n ro x15 x → J367 (nI (q + 1)) (nI n) (rl_v x) x15 (nI (sp + 1)) (nI 8) (nI M) (nI A) 1 (nI ro) (nI n) kd lf rg ls tok st ta) :
    ∀ f a bb tok st ta, a ≤ A → A - a < f → (∀ d, d < n → tok d = w0 d) → ll_O K L R lf tok st n ro x15 x → ll_B K L R lf w0 n ro a bb →
    wL_law_513 post N0 xs J54 J367 (nI A) (nI M) (nI q) x5 x7 x9 (nI rd) (nI ro) (nI n) x15 (nI sp) (rl_a x) (rl_v x) kc ks f (rl_a bb) (nI a) (nI 8) (nI M) (nI A) 1 (nI ro) (nI n) kd lf rg ls tok st ta := by
  intro f
  induction f with
  | zero => intro a bb tok st ta _ h; omega
  | succ f ih =>
    intro a bb tok st ta ha hf he hO hB
    have hxB := hO.2.2.1
    refine pk_le A a (fun h => ?_) (fun h => ?_)
    · have ea : a = A := by omega
      rw [ea] at hB
      refine pm_shortest G.1 G.2.1 G.2.2.1 hro (by omega) hO.1 _ (fun ta x1 hx1 => ?_)
      have e1 : x1 = x := la_V_u hx1 hO.2.2
      rw [e1]
      have done := ll_694 (kc := kc) (ks := ks) (xs := xs) (ta := ta) hN G hro hM hM0 hA2 hA8 hq hsp hn hO post J54 J367 hC hJ
      have en := ll_B_end hB G.2.2.2.1 hx0
      refine br_t rfl (br_c (fun _ => done) (fun z0 => br_c (fun z => ?_) (fun z => ?_)))
      · unfold wL_law_689
        have h1 : ¬ x < 16777216 := fun w => by
          rw [rl_a, if_pos w] at z z0
          have h2 := (nI_leI (a := x) (b := 0) (by omega) (by omega)).1 z
          exact z0 (show nI x = nI 0 by rw [show x = 0 from by omega])
        refine br_t ?_ done
        rw [en.1 h1]
        rfl
      · unfold wL_law_689
        have h1 : x < 16777216 := Classical.byContradiction (fun w => z (by rw [rl_a, if_neg w]; decide))
        have h2 : 0 < x := by
          by_cases e : x = 0
          · rw [rl_a, if_pos h1, e] at z0
            exact absurd rfl z0
          · omega
        refine br_t ?_ done
        rw [en.2 h2 h1, rl_a, rl_a, if_pos (by omega), if_pos h1]
        exact (pk_sub (a := x) (b := 1) (by omega)).symm
    · refine pm_ahead G.1 G.2.1 G.2.2.1 hro (by omega) (by omega) hO.1 h _ (fun ta y hy => nm_e ?_)
      have hO' := ll_O_tok hO (nI a)
      have he' : ∀ d, d < n → upd tok n (nI a) d = w0 d := fun d hd => by rw [pk_un (by omega)]; exact he d hd
      have hy' : la_V 8 K L R lf (upd w0 n (nI a)) (n + 1) ro y := la_V_w hy (fun t ht => by
        by_cases e : t = n
        · rw [e, pk_us, pk_us]
        · rw [pk_un e, pk_un e]; exact he t (by omega))
      have go := ll_587 (N0 := N0) (xs := xs) (kc := kc) (ks := ks) (rd := rd) (q := q) (sp := sp) (ta := ta) G hro hM hA8 hn h he' hO' hy' hB post J54 J367 _ (fun bb tok st ta hB he hO => ih (a + 1) bb tok st ta (by omega) (by omega) he hO hB)
      refine br_t (rl_nb hy.1) (pk_le 7 n (fun _ => go) (fun h7 => ?_))
      rw [nI_1 n]
      exact lr_row (gx_wf G.1) G.2.2.2.2 (by omega) (nb_add hO.2.1 (by omega) (by omega)) hro _ (fun z hz => lr_fits (by omega) hz hy _ (br_f (by decide) go))
theorem ll_439 (hN : N0 ≤ 260) (G : ll_G A K L R D kd lf rg ls x5 x7 x9) (hro : ro < 8) (hM : M ≤ 12) (hM0 : 0 < M) (hA2 : 0 < A) (hA8 : A ≤ 4) {n rd q sp x : Nat} {tok st ta : Nat → Int32} {x15 : Int64} (hq : q < 10000) (hsp : sp < 12) (hn : n ≤ M) (hO : ll_O K L R lf tok st n ro x15 x) (post : Int32 → Prop) (J54 : Int32 → Int64 → Int64 → Int64 → Int32 → Int32 → Int32 → Int32 → Int32 → Int32 → Int32 → (Nat → Int32) → (Nat → Int32) → (Nat → Int32) → (Nat → Int32) → (Nat → Int32) → (Nat → Int32) → (Nat → Int32) → Prop) (J367 : Int32 → Int32 → Int32 → Int64 → Int32 → Int32 → Int32 → Int32 → Int32 → Int32 → Int32 → (Nat → Int32) → (Nat → Int32) → (Nat → Int32) → (Nat → Int32) → (Nat → Int32) → (Nat → Int32) → (Nat → Int32) → Prop)
    (hC : ∀ tok st ta, J54 (nI q) x5 x7 x9 (nI (rd + 1)) (nI 8) (nI M) (nI A) 0 0 0 kd lf rg ls tok st ta)
    (hJ : ∀ n x15 tok st ta x, n ≤ M → ll_O K L R lf tok st n ro x15 x → J367 (nI (q + 1)) (nI n) (rl_v x) x15 (nI (sp + 1)) (nI 8) (nI M) (nI A) 1 (nI ro) (nI n) kd lf rg ls tok st ta) :
    ∀ f i, i ≤ n → n - i < f →
    wL_law_439 post N0 xs J54 J367 (nI A) (nI M) (nI q) x5 x7 x9 (nI rd) (nI ro) (nI n) x15 (nI sp) (rl_a x) (rl_v x) (-1) kc ks (nI 8) (nI M) (nI A) 1 (nI ro) (nI n) kd lf rg ls tok st ta f (nI i) := by
  have go : ∃ f, wL_law_513 post N0 xs J54 J367 (nI A) (nI M) (nI q) x5 x7 x9 (nI rd) (nI ro) (nI n) x15 (nI sp) (rl_a x) (rl_v x) kc ks f (-1) 0 (nI 8) (nI M) (nI A) 1 (nI ro) (nI n) kd lf rg ls tok st ta :=
    ⟨A + 1, ll_513 hN G hro hM hM0 hA2 hA8 hq hsp hn hO.2.2 post J54 J367 hC hJ (A + 1) 0 16777216 tok st ta (by omega) (by omega) (fun _ _ => rfl) hO (ll_B0 K L R lf tok n ro)⟩
  intro f
  induction f with
  | zero => intro i _ h; omega
  | succ f ih =>
    intro i hi hf
    refine pk_le n i (fun h => pk_lt 7 n (fun _ => go) (fun h7 => ?_)) (fun h => ?_)
    · exact lr_row (gx_wf G.1) G.2.2.2.2 h7 hO.2.1 hro _ (fun z hz => lr_fits h7 hz hO.2.2 _ (br_f (by decide) go))
    · obtain ⟨v, hv, e1, e2⟩ := hO.2.1.1 i h
      unfold wpX_tokenAt
      dsimp only
      rw [nb_get e2 (by omega) (by omega), lN_i, show (nI i).toNatClampNeg = i from nI_clamp (by omega), e1]
      exact br_f (by decide) (br_f (nI_pos (by omega)) (br_t (nI_lt h (by omega)) ⟨vp_in_nI (by omega) (by omega), br_t rfl (nm_r (nI_1 i) (ih (i + 1) (by omega) (by omega)))⟩))
theorem ll_367 (hN : N0 ≤ 260) (G : ll_G A K L R D kd lf rg ls x5 x7 x9) (hro : ro < 8) (hM : M ≤ 12) (hM0 : 0 < M) (hA2 : 0 < A) (hA8 : A ≤ 4) {rd Q : Nat} (hQ : Q < 5000) (post : Int32 → Prop) (J54 : Int32 → Int64 → Int64 → Int64 → Int32 → Int32 → Int32 → Int32 → Int32 → Int32 → Int32 → (Nat → Int32) → (Nat → Int32) → (Nat → Int32) → (Nat → Int32) → (Nat → Int32) → (Nat → Int32) → (Nat → Int32) → Prop)
    (hC : ∀ q tok st ta, q ≤ Q + 12 → J54 (nI q) x5 x7 x9 (nI (rd + 1)) (nI 8) (nI M) (nI A) 0 0 0 kd lf rg ls tok st ta) :
    ∀ f sp q n x15 tok st ta x, sp ≤ 12 → 12 - sp < f → q ≤ Q + sp → n ≤ M → ll_O K L R lf tok st n ro x15 x →
    wL_law_367 post N0 xs J54 (nI A) (nI M) x5 x7 x9 (nI rd) (nI ro) kc ks f (nI q) (nI n) (rl_v x) x15 (nI sp) (nI 8) (nI M) (nI A) 1 (nI ro) (nI n) kd lf rg ls tok st ta := by
  intro f
  induction f with
  | zero => intro sp q n x15 tok st ta x _ h; omega
  | succ f ih =>
    intro sp q n x15 tok st ta x hsp hf hq hn hO
    refine pk_le 12 sp (fun _ => ll_864 post J54 (fun tok st ta => hC q tok st ta (by omega))) (fun h => ?_)
    refine pm_shortest G.1 G.2.1 G.2.2.1 hro (by omega) hO.1 _ (fun ta x1 hx1 => ?_)
    have e1 : x1 = x := la_V_u hx1 hO.2.2
    rw [e1]
    refine pm_verdict G.1 G.2.1 G.2.2.1 hro (by omega) hO.1 _ (fun ta x2 hx2 => ?_)
    have e2 : x2 = x := la_V_u hx2 hO.2.2
    rw [e2]
    unfold wpX_root wpX_size
    dsimp only
    refine br_f (by decide) (br_t rfl (br_f (by decide) (br_t rfl (br_t rfl (br_f (Int32.not_lt.mpr (rl_nb hO.2.2.1)) (rl_ver hO.2.2.1 (br_t rfl ⟨n + 1, ?_⟩)))))))
    exact ll_439 hN G hro hM hM0 hA2 hA8 (by omega) h hn hO post J54 _ (fun tok st ta => hC q tok st ta (by omega)) (fun n x15 tok st ta x hn hO => ih (sp + 1) (q + 1) n x15 tok st ta x (by omega) (by omega) (by omega) hn hO) (n + 1) 0 (by omega) (by omega)
end
end
section
/-! the law's rounds and defines, and the owed statement -/
theorem lc_kind {c : Nat} (hc : c < 8) (y : Int32) {post : Int32 → Prop} (h : ∀ kk, kk ≤ 4 → post (nI kk)) : wpL_kindFor post () (nI c) y := by
  obtain ⟨g, hg, e⟩ := pk_andE (y + nI c) (m := 15) 4 (by decide)
  have h43 : wL_kindFor_43 post (nI g) := by
    unfold wL_kindFor_43
    exact pk_le 3 g (fun _ => br_c (fun _ => h 3 (by omega)) (fun _ => h 4 (by omega))) (fun z => h g (by omega))
  have h20 : wL_kindFor_20 post (nI c) (nI g) := by
    unfold wL_kindFor_20
    exact br_c (fun _ => br_c (fun _ => h43) (fun _ => br_c (fun _ => h 2 (by omega)) (fun _ => h 1 (by omega)))) (fun _ => h43)
  unfold wpL_kindFor
  exact nm_r e (br_c (fun _ => h20) (fun _ => br_c (fun _ => h20) (fun _ => h 2 (by omega))))
theorem lc_and7 (x : Int32) : ∃ j, j < 8 ∧ x &&& 7 = nI j := pk_andE x (m := 7) 3 (by decide)
section
variable {N0 : Nat} {xs : Nat → Int32} {kc ks M A : Nat} {K L R D : Nat → Nat} {kd lf rg ls tok st ta : Nat → Int32} {x5 x7 x9 : Int64}
/-- what a later turn of the define loop asks -/
def ll_J (M A : Nat) (J : Int32 → Int64 → Int64 → Int64 → Int32 → Int32 → Int32 → Int32 → Int32 → Int32 → Int32 → (Nat → Int32) → (Nat → Int32) → (Nat → Int32) → (Nat → Int32) → (Nat → Int32) → (Nat → Int32) → (Nat → Int32) → Prop) (q i : Nat) : Prop :=
  ∀ (K L R D : Nat → Nat) (kd lf rg ls tok st ta : Nat → Int32) (x5 x7 x9 : Int64), ll_G A K L R D kd lf rg ls x5 x7 x9 → J (nI q) x5 x7 x9 (nI i) (nI 8) (nI M) (nI A) 0 0 0 kd lf rg ls tok st ta
theorem ll_263 {c kk l r q i rd : Nat} (hc : c < 8) (hk : kk ≤ 4) (hl : l < 8) (hr : r < 8) (post : Int32 → Prop) (J54 J63 : Int32 → Int64 → Int64 → Int64 → Int32 → Int32 → Int32 → Int32 → Int32 → Int32 → Int32 → (Nat → Int32) → (Nat → Int32) → (Nat → Int32) → (Nat → Int32) → (Nat → Int32) → (Nat → Int32) → (Nat → Int32) → Prop)
    (hJ : J63 (nI q) ((x5 &&& (((15 : Int64) <<< ((4 * nI c).toInt64 &&& 63)) ^^^ (-1))) ||| ((nI kk).toInt64 <<< ((4 * nI c).toInt64 &&& 63))) ((x7 &&& (((15 : Int64) <<< ((4 * nI c).toInt64 &&& 63)) ^^^ (-1))) ||| ((nI l).toInt64 <<< ((4 * nI c).toInt64 &&& 63))) ((x9 &&& (((15 : Int64) <<< ((4 * nI c).toInt64 &&& 63)) ^^^ (-1))) ||| ((nI r).toInt64 <<< ((4 * nI c).toInt64 &&& 63))) (nI (i + 1)) (nI 8) (nI M) (nI A) 0 0 0 kd lf rg ls tok st ta) :
    wL_law_263 post N0 xs J54 J63 (nI A) (nI M) (nI q) x5 x7 x9 (nI rd) (nI i) (nI c) (nI kk) (nI l) (nI r) kc ks (nI 8) (nI M) (nI A) 0 0 0 kd lf rg ls tok st ta := by
  unfold wL_law_263
  exact nm_e (nm_e (nm_e (nm_e (nm_r (nI_1 i) hJ))))
theorem ll_169 (hN : N0 ≤ 260) (hA8 : A ≤ 4) (G : ll_G A K L R D kd lf rg ls x5 x7 x9) {c kk l q i rd : Nat} (hq : q < 10000) (hc : c < 8) (hk : kk ≤ 4) (hl : l < 8) (h2 : kk = 2 → l < A) (post : Int32 → Prop) (J54 J63 : Int32 → Int64 → Int64 → Int64 → Int32 → Int32 → Int32 → Int32 → Int32 → Int32 → Int32 → (Nat → Int32) → (Nat → Int32) → (Nat → Int32) → (Nat → Int32) → (Nat → Int32) → (Nat → Int32) → (Nat → Int32) → Prop) (hJ : ll_J M A J63 (q + 1) (i + 1)) :
    wL_law_169 post N0 xs J54 J63 (nI A) (nI M) (nI q) x5 x7 x9 (nI rd) (nI i) (nI c) (nI kk) (nI l) kc ks (nI 8) (nI M) (nI A) 0 0 0 kd lf rg ls tok st ta := by
  unfold wL_law_169
  refine nm_r (nI_1 q) (lc_any hN xs (by omega) (fun y => ?_))
  obtain ⟨r, hr, er⟩ := lc_and7 (((y + nI rd) + (3 * nI c)) + 7)
  refine nm_r er (pm_define G.1 hc hk (by omega) hl hr h2 _ (fun K' L' R' kd' lf' rg' ls' D' G' GD' hV' hd h1 h3 h4 h5 => ?_))
  have g' : ll_G A K' L' R' D' kd' lf' rg' ls' ((x5 &&& (((15 : Int64) <<< ((4 * nI c).toInt64 &&& 63)) ^^^ (-1))) ||| ((nI kk).toInt64 <<< ((4 * nI c).toInt64 &&& 63))) ((x7 &&& (((15 : Int64) <<< ((4 * nI c).toInt64 &&& 63)) ^^^ (-1))) ||| ((nI l).toInt64 <<< ((4 * nI c).toInt64 &&& 63))) ((x9 &&& (((15 : Int64) <<< ((4 * nI c).toInt64 &&& 63)) ^^^ (-1))) ||| ((nI r).toInt64 <<< ((4 * nI c).toInt64 &&& 63))) := by
    refine ⟨G', GD', hV', fun d hdd e2 => ?_, fun d hdd => ?_⟩
    · by_cases e : d = c
      · rw [e, h1] at e2
        rw [e]
        exact ⟨l, h2 e2, h3 (by omega)⟩
      · obtain ⟨a1, a2, a3, a4⟩ := hd d hdd e
        rw [a1] at e2
        rw [a4]
        exact G.2.2.2.1 d hdd e2
    · by_cases e : d = c
      · rw [e, h1]
        exact ⟨nb_put (by omega) (by omega), hk, ⟨l, hl, nb_put (by omega) (by omega), fun z => h3 (by omega), fun z => (h4 (by omega)).1⟩, ⟨r, hr, nb_put (by omega) (by omega), fun z => (h4 (by omega)).2.1⟩⟩
      · obtain ⟨a1, a2, a3, a4⟩ := hd d hdd e
        obtain ⟨b1, b2, ⟨l1, c1, c2, c3, c4⟩, ⟨r1, d1, d2, d3⟩⟩ := G.2.2.2.2 d hdd
        rw [a1, a2, a3, a4]
        exact ⟨nb_old (by omega) (by omega) (by omega) e b1, b2, ⟨l1, c1, nb_old (by omega) (by omega) (by omega) e c2, c3, c4⟩, ⟨r1, d1, nb_old (by omega) (by omega) (by omega) e d2, d3⟩⟩
  have last := ll_263 (N0 := N0) (xs := xs) (kc := kc) (ks := ks) (M := M) (A := A) (x5 := x5) (x7 := x7) (x9 := x9) (kd := kd') (lf := lf') (rg := rg') (ls := ls') (tok := tok) (st := st) (ta := ta) (rd := rd) hc hk hl hr post J54 J63 (hJ K' L' R' D' kd' lf' rg' ls' tok st ta _ _ _ g')
  have hi : vp_in (nI c) 16 := vp_in_nI (by omega) (by omega)
  have cc : (nI c).toNatClampNeg = c := nI_clamp (by omega)
  have h243 : wL_law_243 post N0 xs J54 J63 (nI A) (nI M) (nI (q + 1)) x5 x7 x9 (nI rd) (nI i) (nI c) (nI kk) (nI l) (nI r) kc ks (nI 8) (nI M) (nI A) 0 0 0 kd' lf' rg' ls' tok st ta := by
    unfold wL_law_243 wpX_right
    dsimp only
    rw [cc]
    refine pk_lt kk 3 (fun _ => last) (fun z => xq_yes (by omega) hc (br_f (by decide) ⟨hi, ?_⟩))
    rw [(h4 z).2.2]
    exact br_t rfl last
  unfold wpX_kind wpX_left
  dsimp only
  rw [cc, h5]
  refine br_t rfl (xq_yes (by omega) hc (br_f (by decide) ⟨hi, br_t rfl (pk_lt kk 2 (fun _ => h243) (fun z => xq_yes (by omega) hc (br_f (by decide) ⟨hi, ?_⟩)))⟩))
  rw [h3 z]
  exact br_t rfl h243
theorem ll_110 (hN : N0 ≤ 260) (hA2 : 0 < A) (hA8 : A ≤ 4) (G : ll_G A K L R D kd lf rg ls x5 x7 x9) {c q i rd : Nat} (hq : q < 9000) (hc : c < 8) (post : Int32 → Prop) (J54 J63 : Int32 → Int64 → Int64 → Int64 → Int32 → Int32 → Int32 → Int32 → Int32 → Int32 → Int32 → (Nat → Int32) → (Nat → Int32) → (Nat → Int32) → (Nat → Int32) → (Nat → Int32) → (Nat → Int32) → (Nat → Int32) → Prop) (hJ : ll_J M A J63 (q + 3) (i + 1)) :
    wL_law_110 post N0 xs J54 J63 (nI A) (nI M) (nI q) x5 x7 x9 (nI rd) (nI i) (nI c) kc ks (nI 8) (nI M) (nI A) 0 0 0 kd lf rg ls tok st ta := by
  unfold wL_law_110
  refine nm_r (nI_1 q) (lc_any hN xs (by omega) (fun y => lc_kind hc _ (fun kk hk => nm_r (nI_1 (q + 1)) (lc_any hN xs (by omega) (fun y2 => nm_e ?_)))))
  refine pk_eq kk 2 (fun e => lc_mod _ hA2 (by omega) (fun l hl => ll_169 hN hA8 G (by omega) hc hk (by omega) (fun _ => hl) post J54 J63 hJ)) (fun e => ?_)
  obtain ⟨l, hl, el⟩ := lc_and7 (((y2 + nI rd) + nI c) + 7)
  rw [el]
  exact ll_169 hN hA8 G (by omega) hc hk hl (fun z => absurd z e) post J54 J63 hJ
theorem ll_76 (hN : N0 ≤ 260) (hM : M ≤ 12) (hM0 : 0 < M) (hA2 : 0 < A) (hA8 : A ≤ 4) (G : ll_G A K L R D kd lf rg ls x5 x7 x9) {q i rd lim : Nat} (hrd : rd < 3) (hlim : lim ≤ 8) (hi : i ≤ lim) (hq : q ≤ 2 + 100 * rd + 4 * i) (post : Int32 → Prop) (J54 J63 : Int32 → Int64 → Int64 → Int64 → Int32 → Int32 → Int32 → Int32 → Int32 → Int32 → Int32 → (Nat → Int32) → (Nat → Int32) → (Nat → Int32) → (Nat → Int32) → (Nat → Int32) → (Nat → Int32) → (Nat → Int32) → Prop)
    (hC : ∀ q, q ≤ 2 + 100 * (rd + 1) → ll_J M A J54 q (rd + 1)) (hJ : i < lim → ll_J M A J63 (q + 3) (i + 1) ∧ ll_J M A J63 (q + 4) (i + 1)) :
    wL_law_76 post N0 xs J54 J63 (nI A) (nI M) (nI q) x5 x7 x9 (nI rd) (nI i) (nI lim) (nI i) kc ks (nI 8) (nI M) (nI A) 0 0 0 kd lf rg ls tok st ta := by
  unfold wL_law_76
  refine pk_le lim i (fun _ => nm_r (nI_1 q) (lc_any hN xs (by omega) (fun y => lc_mod _ (d := 6) (by omega) (by omega) (fun r hr => nm_r (pk_sub (a := 7) (b := r) (by omega)) ?_)))) (fun h => ?_)
  · refine pm_open G.1 G.2.1 G.2.2.1 (by omega) _ (fun st x hS hx => ⟨13, ?_⟩)
    exact ll_367 hN G (by omega) hM hM0 hA2 hA8 (Q := q + 1) (by omega) post J54 (fun q' tok st ta hq' => hC q' (by omega) K L R D kd lf rg ls tok st ta x5 x7 x9 G) 13 0 (q + 1) 0 0 tok st ta x (by omega) (by omega) (by omega) (by omega) ⟨hS, nb_w0 tok, hx⟩
  · refine br_c (fun _ => ll_110 hN hA2 hA8 G (by omega) (by omega) post J54 J63 (hJ h).1) (fun _ => nm_r (nI_1 q) (lc_any hN xs (by omega) (fun y => ?_)))
    obtain ⟨c, hc, ec⟩ := lc_and7 ((y + (5 * nI rd)) + (3 * nI i))
    rw [ec]
    exact ll_110 hN hA2 hA8 G (by omega) hc post J54 J63 (hJ h).2
theorem ll_63 (hN : N0 ≤ 260) (hM : M ≤ 12) (hM0 : 0 < M) (hA2 : 0 < A) (hA8 : A ≤ 4) {rd : Nat} (hrd : rd < 3) (post : Int32 → Prop) (J54 : Int32 → Int64 → Int64 → Int64 → Int32 → Int32 → Int32 → Int32 → Int32 → Int32 → Int32 → (Nat → Int32) → (Nat → Int32) → (Nat → Int32) → (Nat → Int32) → (Nat → Int32) → (Nat → Int32) → (Nat → Int32) → Prop) (hC : ∀ q, q ≤ 2 + 100 * (rd + 1) → ll_J M A J54 q (rd + 1)) :
    ∀ f i q (K L R D : Nat → Nat) (kd lf rg ls tok st ta : Nat → Int32) (x5 x7 x9 : Int64), i ≤ (if rd = 0 then 8 else 2) → (if rd = 0 then 8 else 2) - i < f → q ≤ 2 + 100 * rd + 4 * i → ll_G A K L R D kd lf rg ls x5 x7 x9 →
      wL_law_63 post N0 xs J54 (nI A) (nI M) (nI rd) kc ks f (nI q) x5 x7 x9 (nI i) (nI 8) (nI M) (nI A) 0 0 0 kd lf rg ls tok st ta := by
  intro f
  induction f with
  | zero => intro i q K L R D kd lf rg ls tok st ta x5 x7 x9 _ h; omega
  | succ f ih =>
    intro i q K L R D kd lf rg ls tok st ta x5 x7 x9 hi hf hq G
    by_cases z : rd = 0
    · rw [if_pos z] at hi hf ih
      subst z
      refine br_t rfl (ll_76 (lim := 8) hN hM hM0 hA2 hA8 G (by omega) (by omega) hi hq post J54 _ hC (fun h => ⟨?_, ?_⟩))
      · exact fun K L R D kd lf rg ls tok st ta x5 x7 x9 G => ih (i + 1) (q + 3) K L R D kd lf rg ls tok st ta x5 x7 x9 (by omega) (by omega) (by omega) G
      · exact fun K L R D kd lf rg ls tok st ta x5 x7 x9 G => ih (i + 1) (q + 4) K L R D kd lf rg ls tok st ta x5 x7 x9 (by omega) (by omega) (by omega) G
    · rw [if_neg z] at hi hf ih
      refine br_f (nI_ne0 (by omega) (by omega)) (ll_76 (lim := 2) hN hM hM0 hA2 hA8 G hrd (by omega) hi hq post J54 _ hC (fun h => ⟨?_, ?_⟩))
      · exact fun K L R D kd lf rg ls tok st ta x5 x7 x9 G => ih (i + 1) (q + 3) K L R D kd lf rg ls tok st ta x5 x7 x9 (by omega) (by omega) (by omega) G
      · exact fun K L R D kd lf rg ls tok st ta x5 x7 x9 G => ih (i + 1) (q + 4) K L R D kd lf rg ls tok st ta x5 x7 x9 (by omega) (by omega) (by omega) G
theorem ll_54 (hN : N0 ≤ 260) (hM : M ≤ 12) (hM0 : 0 < M) (hA2 : 0 < A) (hA8 : A ≤ 4) (post : Int32 → Prop) (hp : post 1) :
    ∀ f rd q (K L R D : Nat → Nat) (kd lf rg ls tok st ta : Nat → Int32) (x5 x7 x9 : Int64), rd ≤ 3 → 3 - rd < f → q ≤ 2 + 100 * rd → ll_G A K L R D kd lf rg ls x5 x7 x9 →
      wL_law_54 post N0 xs (nI A) (nI M) kc ks f (nI q) x5 x7 x9 (nI rd) (nI 8) (nI M) (nI A) 0 0 0 kd lf rg ls tok st ta := by
  intro f
  induction f with
  | zero => intro rd q K L R D kd lf rg ls tok st ta x5 x7 x9 _ h; omega
  | succ f ih =>
    intro rd q K L R D kd lf rg ls tok st ta x5 x7 x9 hrd hf hq G
    refine pk_le 3 rd (fun _ => hp) (fun h => ⟨9, ?_⟩)
    refine ll_63 hN hM hM0 hA2 hA8 h post _ (fun q hq => ?_) 9 0 q K L R D kd lf rg ls tok st ta x5 x7 x9 (Nat.zero_le _) (by by_cases z : rd = 0 <;> simp [z]) (by omega) G
    exact fun K L R D kd lf rg ls tok st ta x5 x7 x9 G => ih (rd + 1) q K L R D kd lf rg ls tok st ta x5 x7 x9 (by omega) (by omega) (by omega) G
theorem xi_keep {v lo hi : Nat} (h1 : lo ≤ v) (h2 : v ≤ hi) (hh : hi < 2 ^ 31) {post : Int32 → Prop} (h : post (nI v)) : wpX_clamp post () (nI v) (nI lo) (nI hi) :=
  br_t (nI_le h1 (by omega)) (br_t (nI_le h2 hh) h)
end
theorem i_vc (xs : Nat → Int32) (L : Nat) (hL : L ≤ 260) : wpL_law (fun r => r = 1) L xs := by
  unfold wpL_law
  refine lc_any hL xs (q := 0) (by omega) (fun y => lc_mod _ (d := 3) (by omega) (by omega) (fun j hj => nm_r (nI_add 2 j) ?_))
  refine lc_any hL xs (q := 1) (by omega) (fun y2 => lc_mod _ (d := 9) (by omega) (by omega) (fun j2 hj2 => nm_r (nI_add 4 j2) ⟨7, 470, by omega, by omega, ?_⟩))
  have G : gx_ok 8 (fun _ => 0) (fun _ => 0) (fun _ => 0) (fun _ => 0) (fun _ => 0) (fun _ => 0) :=
    ⟨by omega, fun c _ => ⟨rfl, Nat.zero_le _, fun h => absurd (show (0 : Nat) = 3 ∨ (0 : Nat) = 4 from h) (by decide)⟩⟩
  unfold wpX_init
  dsimp only
  refine ⟨by omega, by omega, by omega, by omega, by omega, by omega, by omega, by omega, by omega, by omega, by omega, by omega, by omega, by omega, ?_⟩
  refine xi_keep (v := 8) (lo := 4) (hi := 16) (by omega) (by omega) (by omega) (xi_keep (lo := 4) (hi := 12) (by omega) (by omega) (by omega) (xi_keep (lo := 2) (hi := 8) (by omega) (by omega) (by omega) (xc_all G _ (fun ls D GD hV => ⟨4, ?_⟩))))
  refine ll_54 (M := 4 + j2) (A := 2 + j) hL (by omega) (by omega) (by omega) (by omega) (fun r => r = 1) rfl 4 0 2 (fun _ => 0) (fun _ => 0) (fun _ => 0) D (fun _ => 0) (fun _ => 0) (fun _ => 0) ls (fun _ => 0) (fun _ => 0) (fun _ => 0) 0 0 0 (by omega) (by omega) (by omega) ⟨G, GD, hV, fun c _ h => absurd (show (0 : Nat) = 2 from h) (by decide), fun c hc => ?_⟩
  exact ⟨nb_0 c, Nat.zero_le _, ⟨0, by omega, nb_0 c, fun h => absurd (show (0 : Nat) = 2 from h) (by decide), fun _ => rfl⟩, ⟨0, by omega, nb_0 c, fun _ => rfl⟩⟩
end
