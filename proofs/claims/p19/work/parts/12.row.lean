/-! the law's pick, times, arcs, row, fits -/
theorem lr_8 {l : Nat} (h : l < 8) : l = 0 ∨ l = 1 ∨ l = 2 ∨ l = 3 ∨ l = 4 ∨ l = 5 ∨ l = 6 ∨ l = 7 := by omega
theorem lr_pick {post : Int64 → Prop} (M : Nat → Int64) {l : Nat} (hl : l < 8) (h : post (M l)) : wpL_pick post () (nI l) (M 0) (M 1) (M 2) (M 3) (M 4) (M 5) (M 6) (M 7) := by
  rcases lr_8 hl with rfl | rfl | rfl | rfl | rfl | rfl | rfl | rfl
  · exact br_t rfl h
  · exact br_f (by decide) (br_t rfl h)
  · exact br_f (by decide) (br_f (by decide) (br_t rfl h))
  · exact br_f (by decide) (br_f (by decide) (br_f (by decide) (br_t rfl h)))
  · exact br_f (by decide) (br_f (by decide) (br_f (by decide) (br_f (by decide) (br_t rfl h))))
  · exact br_f (by decide) (br_f (by decide) (br_f (by decide) (br_f (by decide) (br_f (by decide) (br_t rfl h)))))
  · exact br_f (by decide) (br_f (by decide) (br_f (by decide) (br_f (by decide) (br_f (by decide) (br_f (by decide) (br_t rfl h))))))
  · exact br_f (by decide) (br_f (by decide) (br_f (by decide) (br_f (by decide) (br_f (by decide) (br_f (by decide) (br_f (by decide) (h)))))))
theorem lr_203 (M : Nat → Int64) {c : Nat} (hc : c < 8) (post : Int64 → Prop) (J30 J49 : Int64 → Int64 → Int64 → Int64 → Int64 → Int64 → Int64 → Int64 → Int32 → Int32 → Prop) (x0 x2 x4 : Int64) (x6 : Int32) (x7 : Int64) (x9 x26 x27 : Int32) (z0 : Int64)
    (h1 : z0 = M c → J49 (M 0) (M 1) (M 2) (M 3) (M 4) (M 5) (M 6) (M 7) x26 (nI (c + 1))) (h2 : ¬ z0 = M c → J49 (vp_updL M c z0 0) (vp_updL M c z0 1) (vp_updL M c z0 2) (vp_updL M c z0 3) (vp_updL M c z0 4) (vp_updL M c z0 5) (vp_updL M c z0 6) (vp_updL M c z0 7) 1 (nI (c + 1))) :
    wL_row_203 post J30 J49 x0 x2 x4 x6 x7 x9 (M 0) (M 1) (M 2) (M 3) (M 4) (M 5) (M 6) (M 7) x26 x27 (nI c) z0 := by
  unfold wL_row_203
  refine lr_pick M hc ?_
  refine br_c (fun e => nm_r (nI_1 c) (h1 e)) (fun e => ?_)
  have h3 := h2 e
  clear h1 h2
  rcases lr_8 hc with rfl | rfl | rfl | rfl | rfl | rfl | rfl | rfl
  · exact br_t rfl (nm_r (nI_1 0) h3)
  · exact br_f (by decide) (br_t rfl (nm_r (nI_1 1) h3))
  · exact br_f (by decide) (br_f (by decide) (br_t rfl (nm_r (nI_1 2) h3)))
  · exact br_f (by decide) (br_f (by decide) (br_f (by decide) (br_t rfl (nm_r (nI_1 3) h3))))
  · exact br_f (by decide) (br_f (by decide) (br_f (by decide) (br_f (by decide) (br_t rfl (nm_r (nI_1 4) h3)))))
  · exact br_f (by decide) (br_f (by decide) (br_f (by decide) (br_f (by decide) (br_f (by decide) (br_t rfl (nm_r (nI_1 5) h3))))))
  · exact br_f (by decide) (br_f (by decide) (br_f (by decide) (br_f (by decide) (br_f (by decide) (br_f (by decide) (br_t rfl (nm_r (nI_1 6) h3)))))))
  · exact br_f (by decide) (br_f (by decide) (br_f (by decide) (br_f (by decide) (br_f (by decide) (br_f (by decide) (br_f (by decide) (nm_r (nI_1 7) h3)))))))
theorem fx_in_blk {N : Nat} {Of : (Nat → Nat) → Nat → Nat → Prop} {D s t t' : Nat → Nat} {v v' : Nat} (hm : fx_Mono N Of) (h : fx_In N Of D s v t) (h1 : ∀ u, u < N → (u < v ∨ v' ≤ u) → t' u = t u)
    (h2 : ∀ u, v ≤ u → u < v' → u < N → D u ≤ t' u ∧ t' u ≤ t u ∧ ∀ x, Of t u x → t' u ≤ x) : fx_In N Of D s v' t' := by
  constructor
  · intro u hu
    have a := h.1 u hu
    by_cases z : v ≤ u ∧ u < v'
    · have b := h2 u z.1 z.2 hu
      omega
    · rw [h1 u hu (by omega)]
      exact a
  · intro u hu hn x hx
    by_cases z : v ≤ u
    · obtain ⟨y, hy, oy⟩ := hm s t u x hn (fun a ha => (h.1 a ha).2) hx
      exact Nat.le_trans ((h2 u z hu hn).2.2 y oy) hy
    · rw [h1 u hn (by omega)]
      exact h.2 u (by omega) hn x hx
theorem lr_times6 (x y : Int64) {post : Int64 → Prop} (h : ∀ z, (∀ i j, i < 8 → j < 8 → (bL z (8 * i + j) = true ↔ ∃ k, k < 8 ∧ bL x (8 * i + k) = true ∧ bL y (8 * k + j) = true)) → post z) :
    ∀ f k z, k ≤ 8 → 8 - k < f → (∀ i j, i < 8 → j < 8 → (bL z (8 * i + j) = true ↔ ∃ l, l < k ∧ bL x (8 * i + l) = true ∧ bL y (8 * l + j) = true)) → wL_times_6 post x y f z (nI k) := by
  intro f
  induction f with
  | zero => intro k z _ h; omega
  | succ f ih =>
    intro k z hk hf hz
    refine pk_le 8 k (fun e => h z ?_) (fun e => nm_e (nm_r (nI_1 k) (ih (k + 1) _ (by omega) (by omega) (fun i j hi hj => ?_))))
    · have e2 : k = 8 := by omega
      rw [e2] at hz
      exact hz
    · rw [bL_or, bL_and, mx_A _ hi hj, mx_B _ hi hj, nx_8, bL_ushr k (by omega), bL_ushr (8 * k) (by omega), Bool.or_eq_true, Bool.and_eq_true, hz i j hi hj, Nat.add_comm k (8 * i)]
      constructor
      · intro q
        rcases q with ⟨l, a, b, c⟩ | ⟨b, c⟩
        · exact ⟨l, by omega, b, c⟩
        · exact ⟨k, by omega, b, c⟩
      · intro q
        obtain ⟨l, a, b, c⟩ := q
        by_cases e2 : l = k
        · rw [e2] at b c
          exact Or.inr ⟨b, c⟩
        · exact Or.inl ⟨l, by omega, b, c⟩
theorem lr_times (x y : Int64) {post : Int64 → Prop} (h : ∀ z, (∀ i j, i < 8 → j < 8 → (bL z (8 * i + j) = true ↔ ∃ k, k < 8 ∧ bL x (8 * i + k) = true ∧ bL y (8 * k + j) = true)) → post z) : wpL_times post () x y :=
  ⟨9, lr_times6 x y h 9 0 0 (by omega) (by omega) (fun i j _ _ => by
    rw [bL_0]
    exact ⟨fun z => absurd z (by decide), fun ⟨l, a, _⟩ => absurd a (by omega)⟩)⟩
theorem lr_arcs8 {w : Nat → Int32} {m l : Nat} {x : Int64} (hm : m ≤ 7) (hl : l < 16) (hw : nb_w x w m) {post : Int64 → Prop} (h : ∀ z, (∀ i j, i < 8 → j < 8 → (bL z (8 * i + j) = true ↔ au_ar w m i (nI l) j)) → post z) :
    ∀ f k z, k ≤ 7 → 7 - k < f → (∀ i j, i < 8 → j < 8 → (bL z (8 * i + j) = true ↔ (i < k ∧ j = i + 1 ∧ (m ≤ i ∨ w i = nI l)) ∨ (i = 7 ∧ j = 7))) → wL_arcs_8 post (nI l) x (nI m) f z (nI k) := by
  intro f
  induction f with
  | zero => intro k z _ h; omega
  | succ f ih =>
    intro k z hk hf hz
    have set : k < 7 → (m ≤ k ∨ w k = nI l) → wL_arcs_37 post (wL_arcs_8 post (nI l) x (nI m) f) (nI l) x (nI m) z (nI k) := by
      intro h7 hc
      unfold wL_arcs_37
      rw [nx_91]
      refine nm_e (nm_r (nI_1 k) (ih (k + 1) _ (by omega) (by omega) (fun i j hi hj => ?_)))
      rw [bL_or, bL_shl _ (by omega) _ (by omega), Bool.or_eq_true, Bool.and_eq_true, decide_eq_true_eq, bL_1 _ (by omega), decide_eq_true_eq, hz i j hi hj]
      constructor
      · intro q
        rcases q with (⟨a, b, c⟩ | q) | ⟨a, b⟩
        · exact Or.inl ⟨by omega, b, c⟩
        · exact Or.inr q
        · have e1 : i = k := by omega
          have e2 : j = i + 1 := by omega
          rw [e1] at e2 ⊢
          exact Or.inl ⟨by omega, e2, hc⟩
      · intro q
        rcases q with ⟨a, b, c⟩ | q
        · by_cases e2 : i = k
          · exact Or.inr ⟨by omega, by omega⟩
          · exact Or.inl (Or.inl ⟨by omega, b, c⟩)
        · exact Or.inl (Or.inr q)
    have skip : k < 7 → ¬ (m ≤ k ∨ w k = nI l) → wL_arcs_8 post (nI l) x (nI m) f z (nI (k + 1)) := by
      intro h7 hc
      refine ih (k + 1) z (by omega) (by omega) (fun i j hi hj => ?_)
      rw [hz i j hi hj]
      constructor
      · intro q
        rcases q with ⟨a, b, c⟩ | q
        · exact Or.inl ⟨by omega, b, c⟩
        · exact Or.inr q
      · intro q
        rcases q with ⟨a, b, c⟩ | q
        · by_cases e2 : i = k
          · rw [e2] at c
            exact absurd c hc
          · exact Or.inl ⟨by omega, b, c⟩
        · exact Or.inr q
    refine pk_le 7 k (fun e => h z (fun i j hi hj => ?_)) (fun e => pk_le m k (fun a => set e (Or.inl a)) (fun a => ?_))
    · have e2 : k = 7 := by omega
      rw [hz i j hi hj, e2]
      exact Iff.rfl
    · obtain ⟨v, hv, e1, e2⟩ := hw.1 k a
      rw [nb_get e2 (by omega) (by omega), nI_l (show l < 2 ^ 31 by omega)]
      refine br_c (fun q => set e (Or.inr ?_)) (fun q => nm_r (nI_1 k) (skip e (fun q2 => ?_)))
      · rw [lN_eq (by omega) (by omega)] at q
        rw [e1, q]
      · rcases q2 with q2 | q2
        · omega
        · rw [e1, nI_eq (by omega) (by omega)] at q2
          rw [q2] at q
          exact q rfl
theorem lr_arcs {w : Nat → Int32} {m l : Nat} {x : Int64} (hm : m ≤ 7) (hl : l < 16) (hw : nb_w x w m) {post : Int64 → Prop} (h : ∀ z, (∀ i j, i < 8 → j < 8 → (bL z (8 * i + j) = true ↔ au_ar w m i (nI l) j)) → post z) :
    wpL_arcs post () (nI l) x (nI m) :=
  ⟨8, lr_arcs8 hm hl hw h 8 0 _ (by omega) (by omega) (fun i j hi hj => by
    rw [bL_min _ (by omega), decide_eq_true_eq]
    constructor
    · intro e; exact Or.inr ⟨by omega, by omega⟩
    · intro q
      rcases q with ⟨a, _⟩ | q <;> omega)⟩
/-- the packed grammar -/
def lr_nk (x0 x2 x4 : Int64) (K L R : Nat → Nat) (lf : Nat → Int32) : Prop :=
  ∀ c, c < 8 → nb_is x0 c (K c) ∧ K c ≤ 4 ∧ (∃ l, l < 8 ∧ nb_is x2 c l ∧ (K c = 2 → lf c = nI l) ∧ ((K c = 3 ∨ K c = 4) → L c = l)) ∧ ∃ r, r < 8 ∧ nb_is x4 c r ∧ ((K c = 3 ∨ K c = 4) → R c = r)
def lr_rel (M : Nat → Int64) (t : Nat → Nat) : Prop := ∀ c i j, c < 8 → i < 8 → j < 8 → (bL (M c) (8 * i + j) = true ↔ t (c * 64 + i * 8 + j) = 0) ∧ t (c * 64 + i * 8 + j) ≤ 1
def lr_sup (Of : (Nat → Nat) → Nat → Nat → Prop) (t : Nat → Nat) : Prop := ∀ v, v < 512 → t v = 0 → Of t v 0
theorem lr_dec {v : Nat} (h : v < 512) : v = v / 64 * 64 + v / 8 % 8 * 8 + v % 8 := by omega
section
variable {K L R : Nat → Nat} {lf w : Nat → Int32} {m : Nat} {x0 x2 x4 x7 : Int64}
theorem lr_49 (wf : gr_wf 8 K L R) (NK : lr_nk x0 x2 x4 K L R lf) (hm : m ≤ 7) (hw : nb_w x7 w m) {D s : Nat → Nat} (G : fx_Good 512 1 (of_A K L R lf w m) D) (post : Int64 → Prop)
    (J30 : Int64 → Int64 → Int64 → Int64 → Int64 → Int64 → Int64 → Int64 → Int32 → Int32 → Prop) (x6 x27 : Int32)
    (hJ : ∀ x26 M t, lr_rel M t → lr_sup (of_A K L R lf w m) t → fx_In 512 (of_A K L R lf w m) D s 512 t → (x26 = 0 → ∀ u, u < 512 → t u = s u) → J30 (M 0) (M 1) (M 2) (M 3) (M 4) (M 5) (M 6) (M 7) x26 (x27 + 1)) :
    ∀ f c x26 M t, c ≤ 8 → 8 - c < f → lr_rel M t → lr_sup (of_A K L R lf w m) t → fx_In 512 (of_A K L R lf w m) D s (c * 64) t → (x26 = 0 → ∀ u, u < 512 → t u = s u) →
      wL_row_49 post J30 x0 x2 x4 x6 x7 (nI m) x27 f (M 0) (M 1) (M 2) (M 3) (M 4) (M 5) (M 6) (M 7) x26 (nI c) := by
  have mo : fx_Mono 512 (of_A K L R lf w m) := of_A_m wf
  intro f
  induction f with
  | zero => intro c x26 M t _ h; omega
  | succ f ih =>
    intro c x26 M t hc hf hr hsup hI hx
    refine pk_le 8 c (fun e => ?_) (fun e => ?_)
    · have e2 : c = 8 := by omega
      subst e2
      exact nm_e (hJ x26 M t hr hsup hI hx)
    · obtain ⟨nk, k4, ⟨l, hl, nl, el2, el⟩, ⟨r, hrr, nr, er⟩⟩ := NK c e
      have fin : ∀ z0, (∀ i j, i < 8 → j < 8 → (bL z0 (8 * i + j) = true ↔ of_A K L R lf w m t (c * 64 + i * 8 + j) 0)) →
          wL_row_203 post J30 (wL_row_49 post J30 x0 x2 x4 x6 x7 (nI m) x27 f) x0 x2 x4 x6 x7 (nI m) (M 0) (M 1) (M 2) (M 3) (M 4) (M 5) (M 6) (M 7) x26 x27 (nI c) z0 := by
        intro z0 hz
        refine lr_203 M e post J30 _ x0 x2 x4 x6 x7 (nI m) x26 x27 z0 (fun ez => ?_) (fun ez => ?_)
        · refine ih (c + 1) x26 M t e (by omega) hr hsup (fx_in_blk mo hI (fun u _ _ => rfl) (fun u a b hu => ⟨(hI.1 u hu).1, Nat.le_refl _, fun x hxo => ?_⟩)) hx
          have eu := lr_dec hu
          have ec : u / 64 = c := by omega
          rw [ec] at eu
          have h0 := (hr c (u / 8 % 8) (u % 8) e (by omega) (by omega)).1
          rw [← ez, hz _ _ (by omega) (by omega), ← eu] at h0
          have hx0 : x = 0 := by
            rw [eu] at hxo
            exact (of_A_inv e (by omega) (by omega) hxo).1
          rw [hx0] at hxo ⊢
          exact Nat.le_of_eq (h0.1 hxo)
        · have t1 : ∀ u, u < 512 → (if u / 64 = c then (if bL z0 (u % 64) = true then 0 else 1) else t u) ≤ t u ∧ (u / 64 = c → ((if u / 64 = c then (if bL z0 (u % 64) = true then 0 else 1) else t u) = 0 ↔ of_A K L R lf w m t u 0)) := by
            intro u hu
            by_cases ec : u / 64 = c
            · have eu := lr_dec hu
              rw [ec] at eu
              have b := hz (u / 8 % 8) (u % 8) (by omega) (by omega)
              rw [← eu, show 8 * (u / 8 % 8) + u % 8 = u % 64 from by omega] at b
              rw [if_pos ec]
              have b1 := (hr c (u / 8 % 8) (u % 8) e (by omega) (by omega)).2
              rw [← eu] at b1
              by_cases q : bL z0 (u % 64) = true
              · rw [if_pos q]
                exact ⟨Nat.zero_le _, fun _ => ⟨fun _ => b.1 q, fun _ => rfl⟩⟩
              · rw [if_neg q]
                refine ⟨?_, fun _ => ⟨fun z => absurd z (by omega), fun z => absurd (b.2 z) q⟩⟩
                by_cases q0 : t u = 0
                · exact absurd (b.2 (hsup u hu q0)) q
                · omega
            · rw [if_neg ec]
              exact ⟨Nat.le_refl _, fun z => absurd z ec⟩
          refine ih (c + 1) 1 (vp_updL M c z0) (fun u => if u / 64 = c then (if bL z0 (u % 64) = true then 0 else 1) else t u) e (by omega) (fun d i j hd hi hj => ?_) (fun u hu h0 => ?_) (fx_in_blk mo hI (fun u _ h => ?_) (fun u a b hu => ?_)) (fun z => absurd z (by decide))
          · dsimp only
            rw [show (d * 64 + i * 8 + j) / 64 = d from by omega, show (d * 64 + i * 8 + j) % 64 = 8 * i + j from by omega]
            by_cases ed : d = c
            · rw [if_pos ed, ed, pk_uLs]
              by_cases q : bL z0 (8 * i + j) = true
              · rw [if_pos q, q]
                exact ⟨⟨fun _ => rfl, fun _ => rfl⟩, Nat.zero_le _⟩
              · rw [if_neg q]
                exact ⟨⟨fun z => absurd z q, fun z => absurd z (by omega)⟩, Nat.le_refl _⟩
            · rw [if_neg ed, pk_uLn ed]
              exact hr d i j hd hi hj
          · have o : of_A K L R lf w m t u 0 := by
              by_cases ec : u / 64 = c
              · exact ((t1 u hu).2 ec).1 h0
              · dsimp only at h0
                rw [if_neg ec] at h0
                exact hsup u hu h0
            obtain ⟨y, hy, oy⟩ := mo t _ u 0 hu (fun a ha => (t1 a ha).1) o
            have ey : y = 0 := by omega
            rw [ey] at oy
            exact oy
          · exact if_neg (by omega)
          · have ec : u / 64 = c := by omega
            have q := t1 u hu
            have q2 := q.2 ec
            try dsimp only
            refine ⟨?_, q.1, fun x hxo => ?_⟩
            · by_cases q0 : (if u / 64 = c then (if bL z0 (u % 64) = true then 0 else 1) else t u) = 0
              · obtain ⟨y, hy, oy⟩ := mo t D u 0 hu (fun a ha => (hI.1 a ha).1) (q2.1 q0)
                have := G.2.1 u hu y oy
                omega
              · have := G.1 u hu
                omega
            · have eu := lr_dec hu
              rw [ec] at eu
              have hx0 : x = 0 := by
                rw [eu] at hxo
                exact (of_A_inv e (by omega) (by omega) hxo).1
              rw [hx0] at hxo ⊢
              exact Nat.le_of_eq (q2.2 hxo)
      have mk : ∀ i j, i < 8 → j < 8 → (((K c = 1 ∧ i = j) ∨ (K c = 2 ∧ au_ar w m i (lf c) j) ∨ (K c = 3 ∧ (t (L c * 64 + i * 8 + j) = 0 ∨ t (R c * 64 + i * 8 + j) = 0)) ∨ (K c = 4 ∧ ∃ k, k < 8 ∧ t (L c * 64 + i * 8 + k) = 0 ∧ t (R c * 64 + k * 8 + j) = 0)) ↔ of_A K L R lf w m t (c * 64 + i * 8 + j) 0) :=
        fun i j hi hj => ⟨fun h => ⟨c, i, j, rfl, e, hi, hj, rfl, h⟩, fun h => (of_A_inv e hi hj h).2⟩
      refine nm_r (by rw [nb_get nk (by omega) (by omega), lN_i]) (nm_r (by rw [nb_get nl (by omega) (by omega), lN_i]) (nm_r (by rw [nb_get nr (by omega) (by omega), lN_i]) (lr_pick M hl (lr_pick M hrr ?_))))
      rcases gx_K4 k4 with ek | ek | ek | ek | ek
      · rw [ek]
        refine br_f (by decide) (br_f (by decide) (br_f (by decide) (br_f (by decide) (fin 0 (fun i j hi hj => ?_)))))
        rw [bL_0, ← mk i j hi hj]
        refine ⟨fun z => absurd z (by decide), fun h => ?_⟩
        rcases h with ⟨k, _⟩ | ⟨k, _⟩ | ⟨k, _⟩ | ⟨k, _⟩ <;> omega
      · rw [ek]
        refine br_t rfl (fin _ (fun i j hi hj => ?_))
        rw [bL_eye i hi j hj, decide_eq_true_eq, ← mk i j hi hj]
        refine ⟨fun z => Or.inl ⟨ek, z⟩, fun h => ?_⟩
        rcases h with ⟨k, h⟩ | ⟨k, _⟩ | ⟨k, _⟩ | ⟨k, _⟩
        · exact h
        · omega
        · omega
        · omega
      · rw [ek]
        refine br_f (by decide) (br_t rfl (lr_arcs hm (by omega) hw (fun z0 hz0 => fin z0 (fun i j hi hj => ?_))))
        rw [hz0 i j hi hj, ← mk i j hi hj, el2 ek]
        refine ⟨fun z => Or.inr (Or.inl ⟨ek, z⟩), fun h => ?_⟩
        rcases h with ⟨k, _⟩ | ⟨k, h⟩ | ⟨k, _⟩ | ⟨k, _⟩
        · omega
        · exact h
        · omega
        · omega
      · have e1 := el (Or.inl ek)
        have e2 := er (Or.inl ek)
        rw [ek]
        refine br_f (by decide) (br_f (by decide) (br_t rfl (fin _ (fun i j hi hj => ?_))))
        rw [bL_or, Bool.or_eq_true, (hr l i j hl hi hj).1, (hr r i j hrr hi hj).1, ← mk i j hi hj, e1, e2]
        refine ⟨fun z => Or.inr (Or.inr (Or.inl ⟨ek, z⟩)), fun h => ?_⟩
        rcases h with ⟨k, _⟩ | ⟨k, _⟩ | ⟨k, h⟩ | ⟨k, _⟩
        · omega
        · omega
        · exact h
        · omega
      · have e1 := el (Or.inr ek)
        have e2 := er (Or.inr ek)
        rw [ek]
        refine br_f (by decide) (br_f (by decide) (br_f (by decide) (br_t rfl (lr_times _ _ (fun z0 hz0 => fin z0 (fun i j hi hj => ?_))))))
        rw [hz0 i j hi hj, ← mk i j hi hj, e1, e2]
        constructor
        · intro h
          obtain ⟨k, h1, h2, h3⟩ := h
          exact Or.inr (Or.inr (Or.inr ⟨ek, k, h1, (hr l i k hl hi h1).1.1 h2, (hr r k j hrr h1 hj).1.1 h3⟩))
        · intro h
          rcases h with ⟨k, _⟩ | ⟨k, _⟩ | ⟨k, _⟩ | ⟨_, k, h1, h2, h3⟩
          · omega
          · omega
          · omega
          · exact ⟨k, h1, (hr l i k hl hi h1).1.2 h2, (hr r k j hrr h1 hj).1.2 h3⟩
theorem lr_30 (wf : gr_wf 8 K L R) (NK : lr_nk x0 x2 x4 K L R lf) (hm : m ≤ 7) (hw : nb_w x7 w m) {D : Nat → Nat} (G : fx_Good 512 1 (of_A K L R lf w m) D) {ro : Nat} (hro : ro < 8) (post : Int64 → Prop)
    (hp : ∀ z, (∀ j, j < 8 → (bL z j = true ↔ D (ro * 64 + 0 * 8 + j) = 0)) → post z) :
    ∀ f k x26 M s, k ≤ 600 → 600 - k < f → lr_rel M s → lr_sup (of_A K L R lf w m) s → fx_R 512 1 (fun _ => true) D k s → (x26 = 0 → ∀ u, u < 512 → s u = D u) →
      wL_row_30 post x0 x2 x4 (nI ro) x7 (nI m) f (M 0) (M 1) (M 2) (M 3) (M 4) (M 5) (M 6) (M 7) x26 (nI k) := by
  have fin : ∀ M s, lr_rel M s → (∀ u, u < 512 → s u = D u) → wL_row_342 post (nI ro) (M 0) (M 1) (M 2) (M 3) (M 4) (M 5) (M 6) (M 7) := by
    intro M s hr e
    unfold wL_row_342
    refine lr_pick M hro (hp _ (fun j hj => ?_))
    have := (hr ro 0 j hro (by omega) hj).1
    rw [show 8 * 0 + j = j from by omega, e _ (by omega)] at this
    rw [bL_and, bL_255 j (by omega), decide_eq_true hj, Bool.and_true]
    exact this
  intro f
  induction f with
  | zero => intro k x26 M s _ h; omega
  | succ f ih =>
    intro k x26 M s hk hf hr hsup hR hx
    refine pk_le 600 k (fun h => fin M s hr (fx_fin G (fun _ _ _ _ _ => rfl) hR (by rw [fx_cnt_all]; omega))) (fun h => ?_)
    by_cases z : x26 = 0
    · exact br_t z (fin M s hr (hx z))
    · refine br_f z ⟨9, ?_⟩
      refine lr_49 wf NK hm hw G post _ (nI ro) (nI k) (fun y M' t hr' hsup' hI hy => ?_) 9 0 0 M s (by omega) (by omega) hr hsup (by rw [Nat.zero_mul]; exact fx_in0 hR) (fun _ u _ => rfl)
      rw [nI_1]
      exact ih (k + 1) y M' t (by omega) (by omega) hr' hsup' (fx_in_end G (fun _ _ _ _ _ => rfl) hR hI) (fun e => fx_in_stop G hR hI (hy e))
theorem lr_row (wf : gr_wf 8 K L R) (NK : lr_nk x0 x2 x4 K L R lf) (hm : m ≤ 7) (hw : nb_w x7 w m) {ro : Nat} (hro : ro < 8) (post : Int64 → Prop)
    (hp : ∀ z, (∀ j, j < 8 → (bL z j = true ↔ au_bit K L R lf w m ro j)) → post z) : wpL_row post () x0 x2 x4 (nI ro) x7 (nI m) := by
  obtain ⟨D, G⟩ := fx_good (N := 512) (B := 1) (of_A_m (lf := lf) (w := w) (m := m) wf) (of_A_w wf)
  refine ⟨601, lr_30 wf NK hm hw G hro post (fun z hz => hp z (fun j hj => (hz j hj).trans (au_sol wf G hro (by omega) hj))) 601 0 1 (fun _ => 0) (fun _ => 1) (by omega) (by omega) (fun c i j _ _ _ => ?_) (fun v _ h => absurd (show (1 : Nat) = 0 from h) (by decide)) (fx_R0 G (fun _ _ => rfl)) (fun z => absurd z (by decide))⟩
  rw [bL_0]
  exact ⟨⟨fun z => absurd z (by decide), fun z => absurd (show (1 : Nat) = 0 from z) (by decide)⟩, Nat.le_refl _⟩
end
