/-! counting, and least solutions of systems of offers (values up to B) by rounds -/
def fx_cnt (p : Nat → Bool) : Nat → Nat
  | 0 => 0
  | n + 1 => fx_cnt p n + (p n).toNat
theorem fx_tn {a b : Bool} (h : a = true → b = true) : a.toNat ≤ b.toNat := by
  cases a with
  | false => exact Nat.zero_le _
  | true => rw [h rfl]; first | done | exact Nat.le_refl _
theorem fx_cnt_mono {p q : Nat → Bool} : ∀ n, (∀ v, v < n → p v = true → q v = true) → fx_cnt p n ≤ fx_cnt q n := by
  intro n
  induction n with
  | zero => intro _; exact Nat.le_refl _
  | succ n ih =>
    intro h
    have h1 := ih (fun v hv => h v (by omega))
    have h2 := fx_tn (h n (by omega))
    show fx_cnt p n + (p n).toNat ≤ fx_cnt q n + (q n).toNat
    omega
theorem fx_cnt_lt {p q : Nat → Bool} : ∀ n, (∀ v, v < n → p v = true → q v = true) → (∃ v, v < n ∧ p v = false ∧ q v = true) → fx_cnt p n < fx_cnt q n := by
  intro n
  induction n with
  | zero => intro _ h; obtain ⟨v, hv, _⟩ := h; omega
  | succ n ih =>
    intro h hx
    obtain ⟨v, hv, hp, hq⟩ := hx
    have h1 := fx_cnt_mono n (fun v hv => h v (by omega))
    show fx_cnt p n + (p n).toNat < fx_cnt q n + (q n).toNat
    by_cases e : v = n
    · rw [e] at hp hq
      rw [hp, hq]
      show fx_cnt p n + 0 < fx_cnt q n + 1
      omega
    · have h2 := ih (fun v hv => h v (by omega)) ⟨v, by omega, hp, hq⟩
      have h3 := fx_tn (h n (by omega))
      omega
theorem fx_cnt_full {p q : Nat → Bool} {n : Nat} (h : ∀ v, v < n → p v = true → q v = true) (hc : fx_cnt q n ≤ fx_cnt p n) : ∀ v, v < n → q v = true → p v = true := by
  intro v hv hq
  cases hp : p v with
  | true => rfl
  | false => have := fx_cnt_lt n h ⟨v, hv, hp, hq⟩; omega
theorem fx_cnt_add (p : Nat → Bool) (a : Nat) : ∀ b, fx_cnt p (a + b) = fx_cnt p a + fx_cnt (fun u => p (a + u)) b := by
  intro b
  induction b with
  | zero => rfl
  | succ b ih =>
    show fx_cnt p (a + b) + (p (a + b)).toNat = fx_cnt p a + (fx_cnt (fun u => p (a + u)) b + (p (a + b)).toNat)
    omega
theorem fx_cnt_all : ∀ n, fx_cnt (fun _ => true) n = n := by
  intro n
  induction n with
  | zero => rfl
  | succ n ih => show fx_cnt (fun _ => true) n + 1 = n + 1; omega
def fx_tri (v : Nat) : Bool := decide (v / 14 % 14 ≤ v % 14)
theorem fx_tri_196 : fx_cnt fx_tri 196 = 105 := by decide +kernel
theorem fx_tri_cnt : ∀ c, fx_cnt fx_tri (c * 196) = c * 105 := by
  intro c
  induction c with
  | zero => rfl
  | succ c ih =>
    have e : (fun u => fx_tri (c * 196 + u)) = fx_tri := by
      funext u
      have h1 : (c * 196 + u) / 14 % 14 = u / 14 % 14 := by omega
      have h2 : (c * 196 + u) % 14 = u % 14 := by omega
      show decide ((c * 196 + u) / 14 % 14 ≤ (c * 196 + u) % 14) = decide (u / 14 % 14 ≤ u % 14)
      rw [h1, h2]
    rw [show (c + 1) * 196 = c * 196 + 196 from by omega, fx_cnt_add, e, ih, fx_tri_196]
    omega
section
variable {N B : Nat} {Of : (Nat → Nat) → Nat → Nat → Prop}
noncomputable def fx_F (B : Nat) (Of : (Nat → Nat) → Nat → Nat → Prop) (s : Nat → Nat) (v : Nat) : Nat :=
  Classical.choose (pk_least (fun x => x = B ∨ Of s v x) ⟨B, Or.inl rfl⟩)
theorem fx_F_spec (B : Nat) (Of : (Nat → Nat) → Nat → Nat → Prop) (s : Nat → Nat) (v : Nat) :
    (fx_F B Of s v = B ∨ Of s v (fx_F B Of s v)) ∧ ∀ j, j < fx_F B Of s v → ¬ (j = B ∨ Of s v j) :=
  Classical.choose_spec (pk_least (fun x => x = B ∨ Of s v x) ⟨B, Or.inl rfl⟩)
theorem fx_F_B (s : Nat → Nat) (v : Nat) : fx_F B Of s v ≤ B := by
  by_cases h : fx_F B Of s v ≤ B
  · exact h
  · exact absurd (Or.inl rfl) ((fx_F_spec B Of s v).2 B (by omega))
theorem fx_F_le {s : Nat → Nat} {v x : Nat} (ho : Of s v x) : fx_F B Of s v ≤ x := by
  by_cases h : fx_F B Of s v ≤ x
  · exact h
  · exact absurd (Or.inr ho) ((fx_F_spec B Of s v).2 x (by omega))
theorem fx_F_of {s : Nat → Nat} {v : Nat} (h : fx_F B Of s v < B) : Of s v (fx_F B Of s v) := by
  rcases (fx_F_spec B Of s v).1 with e | e
  · omega
  · exact e
noncomputable def fx_it (B : Nat) (Of : (Nat → Nat) → Nat → Nat → Prop) : Nat → Nat → Nat
  | 0 => fun _ => B
  | k + 1 => fun v => fx_F B Of (fx_it B Of k) v
def fx_Mono (N : Nat) (Of : (Nat → Nat) → Nat → Nat → Prop) : Prop :=
  ∀ (s t : Nat → Nat) (v x : Nat), v < N → (∀ u, u < N → t u ≤ s u) → Of s v x → ∃ y, y ≤ x ∧ Of t v y
def fx_Wit (N B : Nat) (Of : (Nat → Nat) → Nat → Nat → Prop) : Prop :=
  ∀ (D s : Nat → Nat) (v x : Nat), v < N → (∀ u, u < N → D u ≤ s u) → Of s v x → (∀ y, Of D v y → x ≤ y) → Of (fun u => if s u = D u then s u else B) v x
theorem fx_F_mono (hm : fx_Mono N Of) {s t : Nat → Nat} {v : Nat} (hv : v < N) (h : ∀ u, u < N → t u ≤ s u) : fx_F B Of t v ≤ fx_F B Of s v := by
  by_cases hB : fx_F B Of s v < B
  · obtain ⟨y, hy, oy⟩ := hm s t v _ hv h (fx_F_of hB)
    exact Nat.le_trans (fx_F_le oy) hy
  · have := fx_F_B (B := B) (Of := Of) t v
    omega
theorem fx_anti {f : Nat → Nat} (h : ∀ k, f (k + 1) ≤ f k) (k : Nat) : ∀ d, f (k + d) ≤ f k := by
  intro d
  induction d with
  | zero => exact Nat.le_refl _
  | succ d ih => exact Nat.le_trans (h (k + d)) ih
theorem fx_stab (f : Nat → Nat) (h : ∀ k, f (k + 1) ≤ f k) : ∃ K, ∀ k, K ≤ k → f k = f K := by
  obtain ⟨x, ⟨K, hK⟩, hmin⟩ := pk_least (fun x => ∃ k, f k = x) ⟨f 0, 0, rfl⟩
  refine ⟨K, fun k hk => ?_⟩
  have h1 := fx_anti h K (k - K)
  rw [show K + (k - K) = k from by omega] at h1
  by_cases h2 : f k < x
  · exact absurd ⟨k, rfl⟩ (hmin _ h2)
  · omega
theorem fx_stabN (f : Nat → Nat → Nat) : ∀ N, (∀ v, v < N → ∀ k, f (k + 1) v ≤ f k v) → ∃ K, ∀ k, K ≤ k → ∀ v, v < N → f k v = f K v := by
  intro N
  induction N with
  | zero => intro _; exact ⟨0, fun k _ v hv => absurd hv (by omega)⟩
  | succ N ih =>
    intro h
    obtain ⟨K1, h1⟩ := ih (fun v hv => h v (by omega))
    obtain ⟨K2, h2⟩ := fx_stab (fun k => f k N) (fun k => h N (by omega) k)
    refine ⟨K1 + K2, fun k hk v hv => ?_⟩
    by_cases e : v = N
    · rw [e]
      have a := h2 k (by omega)
      have b := h2 (K1 + K2) (by omega)
      rw [a, b]
    · rw [h1 k (by omega) v (by omega), h1 (K1 + K2) (by omega) v (by omega)]
def fx_Good (N B : Nat) (Of : (Nat → Nat) → Nat → Nat → Prop) (D : Nat → Nat) : Prop :=
  (∀ v, v < N → D v ≤ B) ∧ (∀ v, v < N → ∀ x, Of D v x → D v ≤ x) ∧
  (∀ p : Nat → Nat, (∀ v, v < N → p v ≤ B ∧ ∀ x, Of p v x → p v ≤ x) → ∀ v, v < N → p v ≤ D v) ∧
  (∀ s : Nat → Nat, (∀ v, v < N → D v ≤ s v ∧ s v ≤ B) → (∃ v, v < N ∧ s v ≠ D v) → ∃ v, v < N ∧ s v ≠ D v ∧ ∃ x, x ≤ D v ∧ Of s v x)
theorem fx_good (hm : fx_Mono N Of) (hw : fx_Wit N B Of) : ∃ D, fx_Good N B Of D := by
  have anti : ∀ k v, v < N → fx_it B Of (k + 1) v ≤ fx_it B Of k v := by
    intro k
    induction k with
    | zero => intro v _; exact fx_F_B _ v
    | succ k ih => intro v hv; exact fx_F_mono hm hv ih
  have anti2 : ∀ k d v, v < N → fx_it B Of (k + d) v ≤ fx_it B Of k v := fun k d v hv =>
    fx_anti (f := fun k => fx_it B Of k v) (fun k => anti k v hv) k d
  obtain ⟨K, hK⟩ := fx_stabN (fx_it B Of) N (fun v hv k => anti k v hv)
  have hB : ∀ k v, fx_it B Of k v ≤ B := by
    intro k v
    cases k with
    | zero => exact Nat.le_refl _
    | succ k => exact fx_F_B _ v
  have hF : ∀ v, v < N → fx_F B Of (fx_it B Of K) v = fx_it B Of K v := fun v hv => hK (K + 1) (by omega) v hv
  have h2 : ∀ v, v < N → ∀ x, Of (fx_it B Of K) v x → fx_it B Of K v ≤ x := by
    intro v hv x hx
    rw [← hF v hv]
    exact fx_F_le hx
  refine ⟨fx_it B Of K, fun v _ => hB K v, h2, ?_, ?_⟩
  · intro p hp
    have : ∀ k v, v < N → p v ≤ fx_it B Of k v := by
      intro k
      induction k with
      | zero => intro v hv; exact (hp v hv).1
      | succ k ih =>
        intro v hv
        show p v ≤ fx_F B Of (fx_it B Of k) v
        by_cases h : fx_F B Of (fx_it B Of k) v < B
        · obtain ⟨y, hy, oy⟩ := hm (fx_it B Of k) p v _ hv ih (fx_F_of h)
          exact Nat.le_trans ((hp v hv).2 y oy) hy
        · have := (hp v hv).1
          omega
    exact this K
  · intro s hs hx
    obtain ⟨v0, hv0, hne⟩ := hx
    obtain ⟨k, ⟨v, hv, hn, he⟩, hmin⟩ := pk_least (fun k => ∃ v, v < N ∧ s v ≠ fx_it B Of K v ∧ fx_it B Of k v = fx_it B Of K v) ⟨K, v0, hv0, hne, rfl⟩
    have hsv := hs v hv
    cases k with
    | zero =>
      have : fx_it B Of 0 v = B := rfl
      omega
    | succ j =>
      have h1 : fx_F B Of (fx_it B Of j) v = fx_it B Of K v := he
      have ho := fx_F_of (B := B) (Of := Of) (s := fx_it B Of j) (v := v) (by omega)
      rw [h1] at ho
      have hle : ∀ u, u < N → fx_it B Of K u ≤ fx_it B Of j u := by
        intro u hu
        rw [← hK (K + j) (by omega) u hu, Nat.add_comm K j]
        exact anti2 j K u hu
      have hc := hw (fx_it B Of K) (fx_it B Of j) v _ hv hle ho (fun y hy => h2 v hv y hy)
      obtain ⟨y, hy, oy⟩ := hm _ s v _ hv (fun u hu => by
        show s u ≤ if fx_it B Of j u = fx_it B Of K u then fx_it B Of j u else B
        by_cases e : fx_it B Of j u = fx_it B Of K u
        · rw [if_pos e]
          by_cases e2 : s u = fx_it B Of K u
          · omega
          · exact absurd ⟨u, hu, e2, e⟩ (hmin j (by omega))
        · rw [if_neg e]
          exact (hs u hu).2) hc
      exact ⟨v, hv, hn, y, hy, oy⟩
theorem fx_same {D E : Nat → Nat} (G : fx_Good N B Of D) (H : fx_Good N B Of E) : ∀ v, v < N → D v = E v := by
  intro v hv
  have h1 := H.2.2.1 D (fun v hv => ⟨G.1 v hv, G.2.1 v hv⟩) v hv
  have h2 := G.2.2.1 E (fun v hv => ⟨H.1 v hv, H.2.1 v hv⟩) v hv
  omega
/-- after k rounds: s between D and B, and k nodes settled (or all) -/
def fx_R (N B : Nat) (dm : Nat → Bool) (D : Nat → Nat) (k : Nat) (s : Nat → Nat) : Prop :=
  (∀ v, v < N → D v ≤ s v ∧ s v ≤ B) ∧ (k ≤ fx_cnt (fun v => dm v && decide (s v = D v)) N ∨ ∀ v, v < N → s v = D v)
def fx_In (N : Nat) (Of : (Nat → Nat) → Nat → Nat → Prop) (D s : Nat → Nat) (v : Nat) (t : Nat → Nat) : Prop :=
  (∀ u, u < N → D u ≤ t u ∧ t u ≤ s u) ∧ ∀ u, u < v → u < N → ∀ x, Of s u x → t u ≤ x
variable {D : Nat → Nat} {dm : Nat → Bool}
theorem fx_R0 (G : fx_Good N B Of D) {s : Nat → Nat} (h : ∀ v, v < N → s v = B) : fx_R N B dm D 0 s :=
  ⟨fun v hv => by rw [h v hv]; exact ⟨G.1 v hv, Nat.le_refl _⟩, Or.inl (Nat.zero_le _)⟩
theorem fx_R_ext {k : Nat} {s t : Nat → Nat} (h : fx_R N B dm D k s) (e : ∀ v, v < N → t v = s v) : fx_R N B dm D k t := by
  refine ⟨fun v hv => by rw [e v hv]; exact h.1 v hv, ?_⟩
  rcases h.2 with a | a
  · left
    refine Nat.le_trans a (fx_cnt_mono N (fun v hv => ?_))
    rw [e v hv]
    exact fun z => z
  · right
    exact fun v hv => by rw [e v hv]; exact a v hv
theorem fx_step (G : fx_Good N B Of D) (hd : ∀ s v x, v < N → Of s v x → dm v = true) {k : Nat} {s t : Nat → Nat} (hR : fx_R N B dm D k s)
    (ht : ∀ v, v < N → D v ≤ t v ∧ t v ≤ s v ∧ ∀ x, Of s v x → t v ≤ x) : fx_R N B dm D (k + 1) t := by
  have b : ∀ v, v < N → D v ≤ t v ∧ t v ≤ B := fun v hv => ⟨(ht v hv).1, Nat.le_trans (ht v hv).2.1 (hR.1 v hv).2⟩
  refine ⟨b, ?_⟩
  by_cases hs : ∀ v, v < N → s v = D v
  · right
    intro v hv
    have h1 := ht v hv
    have h2 := hs v hv
    omega
  · rcases hR.2 with hk | hk
    · left
      have hx : ∃ v, v < N ∧ s v ≠ D v := by
        by_cases h : ∃ v, v < N ∧ s v ≠ D v
        · exact h
        · exact absurd (fun v hv => Classical.byContradiction (fun z => h ⟨v, hv, z⟩)) hs
      obtain ⟨v, hv, hn, x, hx, ho⟩ := G.2.2.2 s hR.1 hx
      refine Nat.lt_of_le_of_lt hk (fx_cnt_lt N (fun u hu h => ?_) ⟨v, hv, ?_, ?_⟩)
      · have h0 := ht u hu
        rw [Bool.and_eq_true, decide_eq_true_eq] at h ⊢
        exact ⟨h.1, by omega⟩
      · rw [decide_eq_false hn, Bool.and_false]
      · have h0 := ht v hv
        have h3 := h0.2.2 x ho
        rw [Bool.and_eq_true, decide_eq_true_eq]
        exact ⟨hd s v x hv ho, by omega⟩
    · exact absurd hk hs
theorem fx_fin (G : fx_Good N B Of D) (hd : ∀ s v x, v < N → Of s v x → dm v = true) {k : Nat} {s : Nat → Nat} (hR : fx_R N B dm D k s) (hk : fx_cnt dm N ≤ k) :
    ∀ v, v < N → s v = D v := by
  rcases hR.2 with h | h
  · intro v hv
    by_cases e : s v = D v
    · exact e
    · obtain ⟨u, hu, hn, x, _, ho⟩ := G.2.2.2 s hR.1 ⟨v, hv, e⟩
      have h1 := fx_cnt_full (p := fun v => dm v && decide (s v = D v)) (q := dm) (n := N) (fun v _ h => by rw [Bool.and_eq_true] at h; exact h.1) (Nat.le_trans hk h) u hu (hd s u x hu ho)
      rw [Bool.and_eq_true, decide_eq_true_eq] at h1
      exact absurd h1.2 hn
  · exact h
theorem fx_in0 {k : Nat} {s : Nat → Nat} (h : fx_R N B dm D k s) : fx_In N Of D s 0 s :=
  ⟨fun u hu => ⟨(h.1 u hu).1, Nat.le_refl _⟩, fun u hu => absurd hu (by omega)⟩
theorem fx_in_ext {s t t' : Nat → Nat} {v : Nat} (h : fx_In N Of D s v t) (e : ∀ u, u < N → t' u = t u) : fx_In N Of D s v t' :=
  ⟨fun u hu => by rw [e u hu]; exact h.1 u hu, fun u hu hn x hx => by rw [e u hn]; exact h.2 u hu hn x hx⟩
theorem fx_in_set (G : fx_Good N B Of D) (hm : fx_Mono N Of) {s t : Nat → Nat} {v x : Nat} (h : fx_In N Of D s v t) (hv : v < N) (hx : x < t v) (ho : Of t v x) (hl : ∀ y, Of t v y → x ≤ y) :
    fx_In N Of D s (v + 1) (fun u => if u = v then x else t u) := by
  constructor
  · intro u hu
    dsimp only
    by_cases e : u = v
    · rw [if_pos e, e]
      obtain ⟨y, hy, oy⟩ := hm t D v x hv (fun u hu => (h.1 u hu).1) ho
      have h1 := G.2.1 v hv y oy
      have h2 := h.1 v hv
      omega
    · rw [if_neg e]
      exact h.1 u hu
  · intro u hu hn z hz
    dsimp only
    by_cases e : u = v
    · rw [if_pos e]
      rw [e] at hz
      obtain ⟨y, hy, oy⟩ := hm s t v z hv (fun u hu => (h.1 u hu).2) hz
      exact Nat.le_trans (hl y oy) hy
    · rw [if_neg e]
      exact h.2 u (by omega) hn z hz
theorem fx_in_skip (hm : fx_Mono N Of) {s t : Nat → Nat} {v : Nat} (h : fx_In N Of D s v t) (hl : ∀ y, Of t v y → t v ≤ y) : fx_In N Of D s (v + 1) t := by
  refine ⟨h.1, fun u hu hn z hz => ?_⟩
  by_cases e : u = v
  · rw [e] at hz hn ⊢
    obtain ⟨y, hy, oy⟩ := hm s t v z hn (fun u hu => (h.1 u hu).2) hz
    exact Nat.le_trans (hl y oy) hy
  · exact h.2 u (by omega) hn z hz
theorem fx_in_gap {s t : Nat → Nat} {v w : Nat} (h : fx_In N Of D s v t) (hg : ∀ u, v ≤ u → u < w → ∀ x, ¬ Of s u x) : fx_In N Of D s w t := by
  refine ⟨h.1, fun u hu hn z hz => ?_⟩
  by_cases e : u < v
  · exact h.2 u e hn z hz
  · exact absurd hz (hg u (by omega) hu z)
theorem fx_in_end (G : fx_Good N B Of D) (hd : ∀ s v x, v < N → Of s v x → dm v = true) {k : Nat} {s t : Nat → Nat} (hR : fx_R N B dm D k s) (h : fx_In N Of D s N t) : fx_R N B dm D (k + 1) t :=
  fx_step G hd hR (fun v hv => ⟨(h.1 v hv).1, (h.1 v hv).2, h.2 v hv hv⟩)
theorem fx_in_stop (G : fx_Good N B Of D) {k : Nat} {s t : Nat → Nat} (hR : fx_R N B dm D k s) (h : fx_In N Of D s N t) (e : ∀ u, u < N → t u = s u) : ∀ u, u < N → t u = D u := by
  have h1 := G.2.2.1 s (fun v hv => ⟨(hR.1 v hv).2, fun x hx => by rw [← e v hv]; exact h.2 v hv hv x hx⟩)
  intro u hu
  have := h1 u hu
  have := h.1 u hu
  have := e u hu
  omega
end
