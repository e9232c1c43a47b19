/-! the reference's rests, and evaluate -/
theorem of_R_inv {C : Nat} {K L R : Nat → Nat} {tk : Nat → Nat → Prop} {Mt : Nat → Nat → Nat → Prop} {n : Nat} {s : Nat → Nat} {c i x : Nat} (hn : n ≤ 13) (hi : i ≤ 13) (h : of_R C K L R tk Mt n s (c * 14 + i) x) :
    ((K c = 1 ∧ i = n ∧ x = 0) ∨ (K c = 2 ∧ i = n ∧ x = 1) ∨ (K c = 2 ∧ i + 1 = n ∧ tk i c ∧ x = 0) ∨
      (K c = 3 ∧ (x = s (L c * 14 + i) ∨ x = s (R c * 14 + i))) ∨
      (K c = 4 ∧ (x = s (L c * 14 + i) + s (R c * 14 + n) ∨ ∃ k, i ≤ k ∧ k ≤ n ∧ Mt (L c) i k ∧ x = s (R c * 14 + k)))) := by
  obtain ⟨c', i', e, h1, h2, h⟩ := h
  have a : c' = c := by omega
  have b : i' = i := by omega
  subst a b
  exact h
theorem of_R_no {C : Nat} {K L R : Nat → Nat} {tk : Nat → Nat → Prop} {Mt : Nat → Nat → Nat → Prop} {n : Nat} {s : Nat → Nat} {u : Nat} (h : ∀ c i, c < C → i ≤ n → u ≠ c * 14 + i) : ∀ x, ¬ of_R C K L R tk Mt n s u x := by
  intro x ⟨c, i, e, hc, hi, _⟩
  exact h c i hc hi e
section
variable {C : Nat} {K L R : Nat → Nat} {cc ml al ro sz op : Int32} {kd lf rg wd sp : Nat → Int32}
theorem yr_181 {re : Nat → Int32} {l r i nn b0 : Nat} (hl : l < 16) (hr : r < 16) (hn : nn ≤ 13) {P : Nat → Prop} {tv : Nat → Nat}
    (hS : ∀ k, i ≤ k → k ≤ nn → (¬ sp ((l * 14 + i) * 14 + k) = 0 ↔ P k)) (hre : ∀ k, i ≤ k → k ≤ nn → re (r * 14 + k) = nI (tv k) ∧ tv k ≤ 16777216) (post : Int32 → Prop)
    (h : ∀ x, x ≤ 33554432 → x ≤ b0 → (∀ k, i ≤ k → k ≤ nn → P k → x ≤ tv k) → (x = b0 ∨ ∃ k, i ≤ k ∧ k ≤ nn ∧ P k ∧ x = tv k) → post (nI x)) :
    ∀ n k b, i ≤ k → k ≤ nn + 1 → nn + 1 - k < n → b ≤ 33554432 → b ≤ b0 → (∀ m, i ≤ m → m < k → P m → b ≤ tv m) → (b = b0 ∨ ∃ m, i ≤ m ∧ m < k ∧ P m ∧ b = tv m) →
      wY_restShown_181 post (nI i) (nI nn) (nI l) (nI r) cc ml al ro sz op kd lf rg wd sp re n (nI b) (nI k) := by
  intro n
  induction n with
  | zero => intro k b _ _ h; omega
  | succ n ih =>
    intro k b hik hkn hf hb hb0 hm hw
    refine pk_lt nn k (fun z => h b hb hb0 (fun m a c => hm m a (by omega)) ?_) (fun z => ?_)
    · rcases hw with hw | ⟨m, a, c, d⟩
      · exact Or.inl hw
      · exact Or.inr ⟨m, a, by omega, d⟩
    · have hv := hre k hik z
      have o1 : i ≤ k + 1 := by omega
      have o2 : k + 1 ≤ nn + 1 := by omega
      have o3 : nn + 1 - (k + 1) < n := by clear hw; omega
      have hw' : b = b0 ∨ ∃ m, i ≤ m ∧ m < k + 1 ∧ P m ∧ b = tv m := by
        rcases hw with hw | ⟨m, a, c, d⟩
        · exact Or.inl hw
        · exact Or.inr ⟨m, a, by omega, d⟩
      rw [nx_196, nx_14, show (nI ((l * 14 + i) * 14 + k)).toNatClampNeg = (l * 14 + i) * 14 + k from nI_clamp (by omega), show (nI (r * 14 + k)).toNatClampNeg = r * 14 + k from nI_clamp (by omega), hv.1]
      have hin : vp_in (nI (r * 14 + k)) 224 := vp_in_nI (by omega) (by omega)
      have hB := hv.2
      refine ⟨vp_in_nI (by omega) (by omega), br_c (fun y => nm_r (nI_1 k) (ih (k + 1) b o1 o2 o3 hb hb0 (fun m a c d => ?_) hw'))
        (fun y => ⟨hin, pk_le b (tv k) (fun w => nm_r (nI_1 k) (ih (k + 1) b o1 o2 o3 hb hb0 (fun m a c d => ?_) hw'))
          (fun w => ⟨hin, nm_e (nm_r (nI_1 k) (ih (k + 1) (tv k) o1 o2 o3 (by clear hw hw'; omega) (by clear hw hw'; omega) (fun m a c d => ?_) (Or.inr ⟨k, hik, by omega, (hS k hik z).1 y, rfl⟩)))⟩)⟩)⟩
      · by_cases e2 : m = k
        · rw [e2] at d
          exact absurd y ((hS k hik z).2 d)
        · exact hm m a (by omega) d
      · by_cases e2 : m = k
        · rw [e2]; exact w
        · exact hm m a (by omega) d
      · by_cases e2 : m = k
        · rw [e2]; exact Nat.le_refl _
        · exact Nat.le_trans (by omega) (hm m a (by omega) d)
theorem yr_shown (G : gx_ok C K L R kd lf rg) {re : Nat → Int32} {t : Nat → Nat} {c i nn : Nat} (hc : c < C) (hi : i ≤ nn) (hn : nn ≤ 13) {Mt : Nat → Nat → Nat → Prop}
    (hS : ∀ l i j, l < C → i ≤ j → j ≤ nn → (¬ sp ((l * 14 + i) * 14 + j) = 0 ↔ Mt l i j)) (hV : gx_V 224 re t) (post : Int32 → Prop)
    (h : ∀ x, x ≤ 33554432 → (∀ y, of_R C K L R (fun i c => wd i = lf c) Mt nn t (c * 14 + i) y → x ≤ y) → (x < 16777216 → of_R C K L R (fun i c => wd i = lf c) Mt nn t (c * 14 + i) x) → post (nI x)) :
    wpY_restShown post (nI C, ml, al, ro, sz, op, kd, lf, rg, wd, sp, re) (nI c) (nI i) (nI nn) := by
  have hC := G.1
  obtain ⟨hk, h4, hlr⟩ := G.2 c hc
  have hci : vp_in (nI c) 16 := vp_in_nI (by omega) (by omega)
  have inv := fun x (h : of_R C K L R (fun i c => wd i = lf c) Mt nn t (c * 14 + i) x) => of_R_inv hn (by omega) h
  have cc' : (nI c).toNatClampNeg = c := nI_clamp (by omega)
  have ci : (nI i).toNatClampNeg = i := nI_clamp (by omega)
  unfold wpY_restShown
  dsimp only
  rw [cc', hk]
  refine ⟨hci, nm_e ⟨hci, nm_e ⟨hci, ?_⟩⟩⟩
  rcases gx_K4 h4 with e | e | e | e | e
  · rw [e]
    refine br_t rfl (h 16777216 (by omega) (fun y hy => ?_) (fun z => absurd z (by omega)))
    rcases inv y hy with ⟨k, _⟩ | ⟨k, _⟩ | ⟨k, _⟩ | ⟨k, _⟩ | ⟨k, _⟩ <;> omega
  · rw [e]
    refine br_f (by decide) ⟨hci, br_t rfl (pk_eq i nn (fun e2 => h 0 (by omega) (fun y _ => by omega) (fun _ => ⟨c, i, rfl, hc, hi, Or.inl ⟨e, e2, rfl⟩⟩)) (fun e2 => h 16777216 (by omega) (fun y hy => ?_) (fun z => absurd z (by omega))))⟩
    rcases inv y hy with ⟨k, _⟩ | ⟨k, _⟩ | ⟨k, _⟩ | ⟨k, _⟩ | ⟨k, _⟩ <;> omega
  · rw [e]
    refine br_f (by decide) ⟨hci, br_f (by decide) ⟨hci, br_t rfl (pk_eq i nn (fun e2 => h 1 (by omega) (fun y hy => ?_) (fun _ => ⟨c, i, rfl, hc, hi, Or.inr (Or.inl ⟨e, e2, rfl⟩)⟩)) (fun e2 => ?_))⟩⟩
    · rcases inv y hy with ⟨k, _⟩ | ⟨k, _⟩ | ⟨k, _⟩ | ⟨k, _⟩ | ⟨k, _⟩ <;> omega
    · unfold wY_restShown_67
      rw [cc', ci, hk, e]
      refine ⟨hci, br_t rfl (pk_eq (i + 1) nn (fun e3 => ⟨vp_in_nI (by omega) (by omega), br_c (fun w => h 0 (by omega) (fun y _ => by omega) (fun _ => ⟨c, i, rfl, hc, hi, Or.inr (Or.inr (Or.inl ⟨e, e3, w, rfl⟩))⟩)) (fun w => h 16777216 (by omega) (fun y hy => ?_) (fun z => absurd z (by omega)))⟩)
        (fun e3 => h 16777216 (by omega) (fun y hy => ?_) (fun z => absurd z (by omega))) (nI_1 i))⟩
      · rcases inv y hy with ⟨k, _⟩ | ⟨k, _⟩ | ⟨k, _, q, _⟩ | ⟨k, _⟩ | ⟨k, _⟩
        · omega
        · omega
        · exact absurd q w
        · omega
        · omega
      · rcases inv y hy with ⟨k, _⟩ | ⟨k, _⟩ | ⟨k, _⟩ | ⟨k, _⟩ | ⟨k, _⟩ <;> omega
  · obtain ⟨el, er, hl, hr⟩ := hlr (Or.inl e)
    have vl := hV (L c * 14 + i) (by omega)
    have vr := hV (R c * 14 + i) (by omega)
    rw [e]
    refine br_f (by decide) ⟨hci, br_f (by decide) ⟨hci, br_f (by decide) ?_⟩⟩
    unfold wY_restShown_67
    rw [cc', hk, e, el, er, nx_14, nx_14, show (nI (L c * 14 + i)).toNatClampNeg = L c * 14 + i from nI_clamp (by omega), show (nI (R c * 14 + i)).toNatClampNeg = R c * 14 + i from nI_clamp (by omega), vl.1, vr.1]
    have hin : vp_in (nI (R c * 14 + i)) 224 := vp_in_nI (by omega) (by omega)
    have bl := vl.2
    have br := vr.2
    refine ⟨hci, br_f (by decide) ⟨vp_in_nI (by omega) (by omega), nm_e ⟨hci, br_t rfl ⟨hin, pk_le (t (R c * 14 + i)) (t (L c * 14 + i)) (fun z => ⟨hin, h _ (by omega) (fun y hy => ?_) (fun _ => ⟨c, i, rfl, hc, hi, Or.inr (Or.inr (Or.inr (Or.inl ⟨e, Or.inr rfl⟩)))⟩)⟩)
      (fun z => h _ (by omega) (fun y hy => ?_) (fun _ => ⟨c, i, rfl, hc, hi, Or.inr (Or.inr (Or.inr (Or.inl ⟨e, Or.inl rfl⟩)))⟩))⟩⟩⟩⟩
    · rcases inv y hy with ⟨k, _⟩ | ⟨k, _⟩ | ⟨k, _⟩ | ⟨k, q | q⟩ | ⟨k, _⟩ <;> omega
    · rcases inv y hy with ⟨k, _⟩ | ⟨k, _⟩ | ⟨k, _⟩ | ⟨k, q | q⟩ | ⟨k, _⟩ <;> omega
  · obtain ⟨el, er, hl, hr⟩ := hlr (Or.inr e)
    have vl := hV (L c * 14 + i) (by omega)
    have vr := hV (R c * 14 + nn) (by omega)
    rw [e]
    refine br_f (by decide) ⟨hci, br_f (by decide) ⟨hci, br_f (by decide) ?_⟩⟩
    unfold wY_restShown_67
    rw [cc', hk, e, el, er]
    refine ⟨hci, br_f (by decide) ?_⟩
    rw [nx_14 (L c) i, nx_14 (R c) nn, show (nI (L c * 14 + i)).toNatClampNeg = L c * 14 + i from nI_clamp (by omega), show (nI (R c * 14 + nn)).toNatClampNeg = R c * 14 + nn from nI_clamp (by omega), vl.1, vr.1]
    have bl := vl.2
    have br := vr.2
    refine ⟨vp_in_nI (by omega) (by omega), nm_e ⟨hci, br_f (by decide) ⟨vp_in_nI (by omega) (by omega), nm_r (nI_add _ _) ⟨nn + 2, yr_181 (b0 := t (L c * 14 + i) + t (R c * 14 + nn)) (P := fun k => Mt (L c) i k) (tv := fun k => t (R c * 14 + k)) (by omega) (by omega) hn (fun k a b => hS _ i k hl a b) (fun k a b => hV _ (by omega)) post
      (fun x hx h1 h2 h3 => h x hx (fun y hy => ?_) (fun _ => ⟨c, i, rfl, hc, hi, Or.inr (Or.inr (Or.inr (Or.inr ⟨e, ?_⟩)))⟩)) (nn + 2) i _ (Nat.le_refl _) (by omega) (by omega) (by omega) (Nat.le_refl _) (fun m a b => absurd a (by omega)) (Or.inl rfl)⟩⟩⟩⟩
    · rcases inv y hy with ⟨k, _⟩ | ⟨k, _⟩ | ⟨k, _⟩ | ⟨k, _⟩ | ⟨k, q | ⟨m, a, b, p, q⟩⟩
      · omega
      · omega
      · omega
      · omega
      · rw [q]; exact h1
      · rw [q]; exact h2 m a b p
    · rcases h3 with h3 | ⟨m, a, b, p, q⟩
      · exact Or.inl h3
      · exact Or.inr ⟨m, a, b, p, q⟩
theorem yr_206 (G : gx_ok C K L R kd lf rg) {nn : Nat} (hn : nn ≤ 13) {Mt : Nat → Nat → Nat → Prop}
    (hS : ∀ l i j, l < C → i ≤ j → j ≤ nn → (¬ sp ((l * 14 + i) * 14 + j) = 0 ↔ Mt l i j)) {D s : Nat → Nat} (GD : fx_Good 224 16777216 (of_R C K L R (fun i c => wd i = lf c) Mt nn) D) (post : SY → Prop)
    (J178 J194 : Int32 → Int32 → (Nat → Int32) → (Nat → Int32) → (Nat → Int32) → (Nat → Int32) → (Nat → Int32) → (Nat → Int32) → Prop) (x3 : Int32) {c : Nat} (hc : c < C)
    (hJ : ∀ x2 re t, gx_V 224 re t → fx_In 224 (of_R C K L R (fun i c => wd i = lf c) Mt nn) D s (c * 14 + (nn + 1)) t → (x2 = 0 → ∀ u, u < 224 → t u = s u) → J194 x2 (nI (c + 1)) kd lf rg wd sp re) :
    ∀ f i x2 re t, i ≤ nn + 1 → nn + 1 - i < f → gx_V 224 re t → fx_In 224 (of_R C K L R (fun i c => wd i = lf c) Mt nn) D s (c * 14 + i) t → (x2 = 0 → ∀ u, u < 224 → t u = s u) →
      wY_evaluate_206 post J178 J194 (nI nn) x3 (nI c) (nI C) ml al ro sz op f x2 (nI i) kd lf rg wd sp re := by
  have hC := G.1
  have hm : fx_Mono 224 (of_R C K L R (fun i c => wd i = lf c) Mt nn) := of_R_m Mt hn (by omega) (gx_wf G)
  intro f
  induction f with
  | zero => intro i x2 re t _ h; omega
  | succ f ih =>
    intro i x2 re t hi hf hV hI hx
    refine pk_lt nn i (fun h => ?_) (fun h => yr_shown G hc h hn hS hV _ (fun x hxB hl ho => ?_))
    · have e : i = nn + 1 := by omega
      subst e
      exact nm_r (nI_1 c) (hJ x2 re t hV hI hx)
    · have q := hV (c * 14 + i) (by omega)
      have hB := q.2
      rw [nx_14, show (nI (c * 14 + i)).toNatClampNeg = c * 14 + i from nI_clamp (by omega), q.1]
      have hin : vp_in (nI (c * 14 + i)) 224 := vp_in_nI (by omega) (by omega)
      refine ⟨hin, pk_le (t (c * 14 + i)) x (fun hle => nm_r (nI_1 i) (ih (i + 1) x2 re t (by omega) (by omega) hV (fx_in_skip (v := c * 14 + i) hm hI (fun y hy => Nat.le_trans hle (hl y hy))) hx))
        (fun hlt => ⟨hin, nm_e (nm_r (nI_1 i) (ih (i + 1) 1 _ (fun u => if u = c * 14 + i then x else t u) (by omega) (by omega) (gx_V_upd hV (by omega)) (fx_in_set (v := c * 14 + i) GD hm hI (by omega) hlt (ho (by omega)) hl) (fun w => absurd w (by decide))))⟩)⟩
theorem yr_194 (G : gx_ok C K L R kd lf rg) {nn : Nat} (hn : nn ≤ 13) {Mt : Nat → Nat → Nat → Prop}
    (hS : ∀ l i j, l < C → i ≤ j → j ≤ nn → (¬ sp ((l * 14 + i) * 14 + j) = 0 ↔ Mt l i j)) {D s : Nat → Nat} (GD : fx_Good 224 16777216 (of_R C K L R (fun i c => wd i = lf c) Mt nn) D) (post : SY → Prop)
    (J178 : Int32 → Int32 → (Nat → Int32) → (Nat → Int32) → (Nat → Int32) → (Nat → Int32) → (Nat → Int32) → (Nat → Int32) → Prop) (x3 : Int32)
    (hJ : ∀ x2 re t, gx_V 224 re t → fx_In 224 (of_R C K L R (fun i c => wd i = lf c) Mt nn) D s 224 t → (x2 = 0 → ∀ u, u < 224 → t u = s u) → J178 x2 (x3 + 1) kd lf rg wd sp re) :
    ∀ f c x2 re t, c ≤ C → C - c < f → gx_V 224 re t → fx_In 224 (of_R C K L R (fun i c => wd i = lf c) Mt nn) D s (c * 14) t → (x2 = 0 → ∀ u, u < 224 → t u = s u) →
      wY_evaluate_194 post J178 (nI nn) x3 (nI C) ml al ro sz op f x2 (nI c) kd lf rg wd sp re := by
  have hC := G.1
  intro f
  induction f with
  | zero => intro c x2 re t _ h; omega
  | succ f ih =>
    intro c x2 re t hc hf hV hI hx
    refine pk_le C c (fun h => nm_e (hJ x2 re t hV (fx_in_gap hI (fun u a b => of_R_no (fun c' i' p q => by omega))) hx)) (fun h => ⟨nn + 2, ?_⟩)
    exact yr_206 G hn hS GD post J178 _ x3 h (fun y re' t' hV' hI' hy => ih (c + 1) y re' t' h (by omega) hV' (fx_in_gap hI' (fun u a b => of_R_no (fun c' i' p q => by omega))) hy) (nn + 2) 0 x2 re t (by omega) (by omega) hV hI hx
theorem yr_178 (G : gx_ok C K L R kd lf rg) {nn : Nat} (hn : nn ≤ 13) {Mt : Nat → Nat → Nat → Prop}
    (hS : ∀ l i j, l < C → i ≤ j → j ≤ nn → (¬ sp ((l * 14 + i) * 14 + j) = 0 ↔ Mt l i j)) {D : Nat → Nat} (GD : fx_Good 224 16777216 (of_R C K L R (fun i c => wd i = lf c) Mt nn) D) (post : SY → Prop)
    (hp : ∀ re, gx_V 224 re D → post (nI C, ml, al, ro, sz, op, kd, lf, rg, wd, sp, re)) :
    ∀ f k x2 re s, k ≤ 224 → 224 - k < f → gx_V 224 re s → fx_R 224 16777216 (fun _ => true) D k s → (x2 = 0 → ∀ u, u < 224 → s u = D u) →
      wY_evaluate_178 post (nI nn) (nI C) ml al ro sz op f x2 (nI k) kd lf rg wd sp re := by
  have hC := G.1
  have fin : ∀ re s, gx_V 224 re s → (∀ u, u < 224 → s u = D u) → post (nI C, ml, al, ro, sz, op, kd, lf, rg, wd, sp, re) :=
    fun re s hr e => hp re (fun v hv => by rw [← e v hv]; exact hr v hv)
  intro f
  induction f with
  | zero => intro k x2 re s _ h; omega
  | succ f ih =>
    intro k x2 re s hk hf hr hR hx
    by_cases z : x2 = 0
    · exact br_t z (fin re s hr (hx z))
    · refine br_f z (pk_le 224 k (fun h => fin re s hr (fx_fin GD (fun _ _ _ _ _ => rfl) hR (by rw [fx_cnt_all]; exact h))) (fun h => ⟨C + 1, ?_⟩))
      refine yr_194 G hn hS GD post _ (nI k) (fun y re' t hr' hI hy => ?_) (C + 1) 0 0 re s (by omega) (by omega) hr (by rw [Nat.zero_mul]; exact fx_in0 hR) (fun _ u _ => rfl)
      rw [nI_1]
      exact ih (k + 1) y re' t (by omega) (by omega) hr' (fx_in_end GD (fun _ _ _ _ _ => rfl) hR hI) (fun e => fx_in_stop GD hR hI (hy e))
end
section
variable {C : Nat} {K L R : Nat → Nat} {cc ml al ro sz op : Int32} {kd lf rg wd : Nat → Int32}
theorem ye_24 (post : SY → Prop) (nn : Int32) (sp : Nat → Int32) (h : ∀ re, (∀ u, u < 224 → re u = nI 16777216) → ∃ n, wY_evaluate_49 post nn cc ml al ro sz op n 1 0 kd lf rg wd sp re) :
    ∀ f k re, k ≤ 224 → 224 - k < f → (∀ u, u < k → re u = nI 16777216) → wY_evaluate_24 post nn cc ml al ro sz op f (nI k) kd lf rg wd sp re := by
  intro f
  induction f with
  | zero => intro k re _ h; omega
  | succ f ih =>
    intro k re hk hf hu
    refine pk_le 224 k (fun z => h re (fun u hu' => hu u (by omega))) (fun z => ⟨vp_in_nI (by omega) (by omega), nm_e (nm_r (nI_1 k) (ih (k + 1) _ (by omega) (by omega) (fun u hu' => ?_)))⟩)
    rw [nI_clamp (by omega)]
    by_cases e : u = k
    · rw [e, pk_us]; rfl
    · rw [pk_un e]; exact hu u (by omega)
theorem ye_2 (post : SY → Prop) (nn : Int32) (re : Nat → Int32) (h : ∀ sp, (∀ u, u < 3136 → sp u = 0) → ∃ n, wY_evaluate_24 post nn cc ml al ro sz op n 0 kd lf rg wd sp re) :
    ∀ f k sp, k ≤ 3136 → 3136 - k < f → (∀ u, u < k → sp u = 0) → wY_evaluate_2 post nn cc ml al ro sz op f (nI k) kd lf rg wd sp re := by
  intro f
  induction f with
  | zero => intro k sp _ h; omega
  | succ f ih =>
    intro k sp hk hf hu
    refine pk_le 3136 k (fun z => h sp (fun u hu' => hu u (by omega))) (fun z => ⟨vp_in_nI (by omega) (by omega), nm_e (nm_r (nI_1 k) (ih (k + 1) _ (by omega) (by omega) (fun u hu' => ?_)))⟩)
    rw [nI_clamp (by omega), nx_b0]
    by_cases e : u = k
    · rw [e, pk_us]
    · rw [pk_un e]; exact hu u (by omega)
theorem ye_all (G : gx_ok C K L R kd lf rg) {nn : Nat} (hn : nn ≤ 13) {sp re : Nat → Int32} (post : SY → Prop)
    (hp : ∀ sp re D, (∀ l i j, l < C → i ≤ j → j ≤ nn → (¬ sp ((l * 14 + i) * 14 + j) = 0 ↔ gr_Sp C K L R (fun i c => wd i = lf c) l i j)) →
      fx_Good 224 16777216 (of_R C K L R (fun i c => wd i = lf c) (gr_Sp C K L R (fun i c => wd i = lf c)) nn) D → gx_V 224 re D →
      post (nI C, ml, al, ro, sz, op, kd, lf, rg, wd, sp, re)) :
    wpY_evaluate post (nI C, ml, al, ro, sz, op, kd, lf, rg, wd, sp, re) (nI nn) := by
  have hC := G.1
  have wf := gx_wf G
  obtain ⟨S, GS⟩ := fx_good (N := 3136) (B := 1) (of_S_m (tk := fun i c => wd i = lf c) hn (by omega) wf) (of_S_w 1 hn (by omega) wf)
  obtain ⟨D, GD⟩ := fx_good (N := 224) (B := 16777216) (of_R_m (tk := fun i c => wd i = lf c) (gr_Sp C K L R (fun i c => wd i = lf c)) hn (by omega) wf) (of_R_w 16777216 _ hn (by omega) wf)
  refine ⟨3137, ye_2 post (nI nn) re (fun sp h0 => ⟨225, ye_24 post (nI nn) sp (fun re h1 => ⟨1681, ?_⟩) 225 0 re (by omega) (by omega) (fun u hu => absurd hu (by omega))⟩) 3137 0 sp (by omega) (by omega) (fun u hu => absurd hu (by omega))⟩
  refine ys_49 G hn GS post (fun sp' hz => ⟨225, ?_⟩) 1681 0 1 sp (fun _ => 1) (by omega) (by omega) (fun v hv => ⟨fun _ => rfl, fun z => absurd (h0 v hv) z⟩) (fx_R0 GS (fun _ _ => rfl)) (fun z => absurd z (by decide))
  have hS : ∀ l i j, l < C → i ≤ j → j ≤ nn → (¬ sp' ((l * 14 + i) * 14 + j) = 0 ↔ gr_Sp C K L R (fun i c => wd i = lf c) l i j) := by
    intro l i j hl hij hj
    rw [← gr_span hn (by omega) wf GS hl hij hj]
    have q := hz ((l * 14 + i) * 14 + j) (by omega)
    constructor
    · exact q.2
    · intro a b
      have := q.1 b
      omega
  exact yr_178 G hn hS GD post (fun re' hV => hp sp' re' D hS GD hV) 225 0 1 re (fun _ => 16777216) (by omega) (by omega) (fun v hv => ⟨h1 v hv, Nat.le_refl _⟩) (fx_R0 GD (fun _ _ => rfl)) (fun z => absurd z (by decide))
theorem ye_comp (G : gx_ok C K L R kd lf rg) {nn c : Nat} (hn : nn ≤ 13) (hc : c < C) {sp re : Nat → Int32} (post : Int32 → SY → Prop)
    (hp : ∀ sp re D, fx_Good 224 16777216 (of_R C K L R (fun i c => wd i = lf c) (gr_Sp C K L R (fun i c => wd i = lf c)) nn) D →
      (16777216 ≤ D (c * 14) → post (-1) (nI C, ml, al, ro, sz, op, kd, lf, rg, wd, sp, re)) ∧ (D (c * 14) < 16777216 → post (nI (D (c * 14))) (nI C, ml, al, ro, sz, op, kd, lf, rg, wd, sp, re))) :
    wpY_completion post (nI C, ml, al, ro, sz, op, kd, lf, rg, wd, sp, re) (nI c) (nI nn) := by
  have hC := G.1
  unfold wpY_completion
  dsimp only
  refine ye_all G hn _ (fun sp re D _ GD hV => ?_)
  have q := hV (c * 14) (by omega)
  have hB := q.2
  have hin : vp_in (nI (c * 14)) 224 := vp_in_nI (by omega) (by omega)
  dsimp only
  rw [show nI c * 14 = nI (c * 14) from pk_mul c 14, show (nI (c * 14)).toNatClampNeg = c * 14 from nI_clamp (by omega), q.1]
  exact ⟨hin, pk_le 16777216 (D (c * 14)) (hp sp re D GD).1 (fun z => ⟨hin, (hp sp re D GD).2 z⟩)⟩
end
