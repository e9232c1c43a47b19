/-! the law's inner loops: one step of a round -/
def ll_G (A : Nat) (K L R D : Nat → Nat) (kd lf rg ls : Nat → Int32) (x5 x7 x9 : Int64) : Prop :=
  gx_ok 8 K L R kd lf rg ∧ fx_Good 8 16777216 (of_L K L R) D ∧ gx_V 8 ls D ∧ (∀ c, c < 8 → K c = 2 → ∃ a, a < A ∧ lf c = nI a) ∧ lr_nk x5 x7 x9 K L R lf
/-- an open input of n tokens, packed in x15, with the value x -/
def ll_O (K L R : Nat → Nat) (lf tok st : Nat → Int32) (n ro : Nat) (x15 : Int64) (x : Nat) : Prop :=
  gx_S 8 K L R (fun i c => tok i = lf c) st (n + 1) ∧ nb_w x15 tok n ∧ la_V 8 K L R lf tok n ro x
theorem ll_O_tok {K L R : Nat → Nat} {lf tok st : Nat → Int32} {n ro x : Nat} {x15 : Int64} (h : ll_O K L R lf tok st n ro x15 x) (y : Int32) : ll_O K L R lf (upd tok n y) st n ro x15 x :=
  ⟨gx_S_tok h.1, nb_w_tok h.2.1 (fun d hd => (pk_un (by omega)).symm), la_V_w h.2.2 (fun t ht => (pk_un (by omega)).symm)⟩
/-- bb: the least value after one more token below a; w0 holds the input -/
def ll_B (K L R : Nat → Nat) (lf w0 : Nat → Int32) (n ro a bb : Nat) : Prop :=
  bb ≤ 16777216 ∧ (∀ t, t < a → ∃ y, la_V 8 K L R lf (upd w0 n (nI t)) (n + 1) ro y ∧ bb ≤ y) ∧ (bb < 16777216 → ∃ t, t < a ∧ la_V 8 K L R lf (upd w0 n (nI t)) (n + 1) ro bb)
theorem ll_B0 (K L R : Nat → Nat) (lf w0 : Nat → Int32) (n ro : Nat) : ll_B K L R lf w0 n ro 0 16777216 :=
  ⟨Nat.le_refl _, fun t h => absurd h (by omega), fun h => absurd h (by omega)⟩
theorem ll_B_keep {K L R : Nat → Nat} {lf w0 : Nat → Int32} {n ro a bb y : Nat} (h : ll_B K L R lf w0 n ro a bb) (hy : la_V 8 K L R lf (upd w0 n (nI a)) (n + 1) ro y) (hb : bb ≤ y) : ll_B K L R lf w0 n ro (a + 1) bb := by
  refine ⟨h.1, fun t ht => ?_, fun hl => ?_⟩
  · by_cases e : t = a
    · rw [e]; exact ⟨y, hy, hb⟩
    · exact h.2.1 t (by omega)
  · obtain ⟨t, ht, o⟩ := h.2.2 hl
    exact ⟨t, by omega, o⟩
theorem ll_B_new {K L R : Nat → Nat} {lf w0 : Nat → Int32} {n ro a bb y : Nat} (h : ll_B K L R lf w0 n ro a bb) (hy : la_V 8 K L R lf (upd w0 n (nI a)) (n + 1) ro y) (hb : y ≤ bb) : ll_B K L R lf w0 n ro (a + 1) y := by
  refine ⟨hy.1, fun t ht => ?_, fun hl => ⟨a, by omega, hy⟩⟩
  by_cases e : t = a
  · rw [e]; exact ⟨y, hy, Nat.le_refl _⟩
  · obtain ⟨z, o, hz⟩ := h.2.1 t (by omega)
    exact ⟨z, o, by omega⟩
theorem ll_B_end {K L R : Nat → Nat} {lf w0 : Nat → Int32} {n ro A bb x : Nat} (h : ll_B K L R lf w0 n ro A bb) (hA : ∀ c, c < 8 → K c = 2 → ∃ a, a < A ∧ lf c = nI a) (hx : la_V 8 K L R lf w0 n ro x) :
    (¬ x < 16777216 → bb = 16777216) ∧ (0 < x → x < 16777216 → bb = x - 1) := by
  constructor
  · intro z
    by_cases hb : bb < 16777216
    · obtain ⟨t, _, o⟩ := h.2.2 hb
      have := la_next hx o hb
      exact absurd this.2 z
    · have := h.1
      omega
  · intro h0 hl
    obtain ⟨a, ha, hle⟩ := la_some hA hx h0 hl
    obtain ⟨y, oy, hy⟩ := h.2.1 a ha
    have h1 := hle y oy
    have hb : bb < 16777216 := by omega
    obtain ⟨t, _, o⟩ := h.2.2 hb
    have := la_next hx o hb
    omega
section
variable {N0 : Nat} {xs : Nat → Int32} {kc ks M A ro : Nat} {K L R D : Nat → Nat} {kd lf rg ls : Nat → Int32} {x5 x7 x9 : Int64}
theorem ll_864 {n rd q : Nat} {tok st ta : Nat → Int32} (post : Int32 → Prop) (J54 : Int32 → Int64 → Int64 → Int64 → Int32 → Int32 → Int32 → Int32 → Int32 → Int32 → Int32 → (Nat → Int32) → (Nat → Int32) → (Nat → Int32) → (Nat → Int32) → (Nat → Int32) → (Nat → Int32) → (Nat → Int32) → Prop)
    (hJ : ∀ tok st ta, J54 (nI q) x5 x7 x9 (nI (rd + 1)) (nI 8) (nI M) (nI A) 0 0 0 kd lf rg ls tok st ta) :
    wL_law_864 post N0 xs J54 (nI A) (nI M) (nI q) x5 x7 x9 (nI rd) kc ks (nI 8) (nI M) (nI A) 1 (nI ro) (nI n) kd lf rg ls tok st ta := by
  unfold wL_law_864
  unfold wpX_close
  dsimp only
  exact br_f (by decide) (br_t rfl (nm_r (nI_1 rd) (hJ tok st ta)))
theorem ll_739 (G : ll_G A K L R D kd lf rg ls x5 x7 x9) (hro : ro < 8) (hM : M ≤ 12) {n rd q sp x : Nat} {tok st ta : Nat → Int32} {x15 : Int64} (hn : n ≤ M) (hn0 : 0 < n) (hO : ll_O K L R lf tok st n ro x15 x) (post : Int32 → Prop) (J54 : Int32 → Int64 → Int64 → Int64 → Int32 → Int32 → Int32 → Int32 → Int32 → Int32 → Int32 → (Nat → Int32) → (Nat → Int32) → (Nat → Int32) → (Nat → Int32) → (Nat → Int32) → (Nat → Int32) → (Nat → Int32) → Prop) (J367 : Int32 → Int32 → Int32 → Int64 → Int32 → Int32 → Int32 → Int32 → Int32 → Int32 → Int32 → (Nat → Int32) → (Nat → Int32) → (Nat → Int32) → (Nat → Int32) → (Nat → Int32) → (Nat → Int32) → (Nat → Int32) → Prop)
    (hJ : ∀ n x15 tok st ta x, n ≤ M → ll_O K L R lf tok st n ro x15 x → J367 (nI q) (nI n) (rl_v x) x15 (nI (sp + 1)) (nI 8) (nI M) (nI A) 1 (nI ro) (nI n) kd lf rg ls tok st ta) (x21 : Int32) :
    wL_law_739 post N0 xs J54 J367 (nI A) (nI M) (nI q) x5 x7 x9 (nI rd) (nI ro) (nI n) x15 (nI sp) x21 kc ks (nI 8) (nI M) (nI A) 1 (nI ro) (nI n) kd lf rg ls tok st ta := by
  unfold wL_law_739
  refine lc_mod _ hn0 (by omega) (fun m hm => nm_e (pm_keep G.1 G.2.1 G.2.2.1 hro (by omega) hO.1 (by omega) _ (fun ta x hx => ?_)))
  refine nm_r (nI_1 sp) (hJ m _ tok st ta x (by omega) ⟨gx_S_le hO.1 (by omega), nb_cut hO.2.1 (by omega) (by omega), hx⟩)
theorem ll_833 (G : ll_G A K L R D kd lf rg ls x5 x7 x9) (hro : ro < 8) (hM : M ≤ 12) (hA8 : A ≤ 4) {n rd q sp x a : Nat} {tok st ta : Nat → Int32} {x15 : Int64} (hn : n < M) (ha : a < A) (hO : ll_O K L R lf tok st n ro x15 x) (post : Int32 → Prop) (J54 : Int32 → Int64 → Int64 → Int64 → Int32 → Int32 → Int32 → Int32 → Int32 → Int32 → Int32 → (Nat → Int32) → (Nat → Int32) → (Nat → Int32) → (Nat → Int32) → (Nat → Int32) → (Nat → Int32) → (Nat → Int32) → Prop) (J367 : Int32 → Int32 → Int32 → Int64 → Int32 → Int32 → Int32 → Int32 → Int32 → Int32 → Int32 → (Nat → Int32) → (Nat → Int32) → (Nat → Int32) → (Nat → Int32) → (Nat → Int32) → (Nat → Int32) → (Nat → Int32) → Prop)
    (hJ : ∀ n x15 tok st ta x, n ≤ M → ll_O K L R lf tok st n ro x15 x → J367 (nI q) (nI n) (rl_v x) x15 (nI (sp + 1)) (nI 8) (nI M) (nI A) 1 (nI ro) (nI n) kd lf rg ls tok st ta) :
    wL_law_833 post N0 xs J54 J367 (nI A) (nI M) (nI q) x5 x7 x9 (nI rd) (nI ro) (nI n) x15 (nI sp) (nI a) kc ks (nI 8) (nI M) (nI A) 1 (nI ro) (nI n) kd lf rg ls tok st ta := by
  unfold wL_law_833
  refine pm_feed G.1 G.2.1 G.2.2.1 hro hn hM (by omega) hO.1 ha _ (fun st ta x hS hx => ?_)
  exact nm_e (nm_r (nI_1 n) (nm_r (nI_1 sp) (hJ (n + 1) _ _ st ta x (by omega) ⟨hS, nb_add hO.2.1 (by omega) (by omega), hx⟩)))
theorem ll_797 (G : ll_G A K L R D kd lf rg ls x5 x7 x9) (hro : ro < 8) (hM : M ≤ 12) (hA8 : A ≤ 4) {n rd q sp x : Nat} {st : Nat → Int32} {x15 : Int64} (hn : n < M) (post : Int32 → Prop) (J54 : Int32 → Int64 → Int64 → Int64 → Int32 → Int32 → Int32 → Int32 → Int32 → Int32 → Int32 → (Nat → Int32) → (Nat → Int32) → (Nat → Int32) → (Nat → Int32) → (Nat → Int32) → (Nat → Int32) → (Nat → Int32) → Prop) (J367 : Int32 → Int32 → Int32 → Int64 → Int32 → Int32 → Int32 → Int32 → Int32 → Int32 → Int32 → (Nat → Int32) → (Nat → Int32) → (Nat → Int32) → (Nat → Int32) → (Nat → Int32) → (Nat → Int32) → (Nat → Int32) → Prop)
    (hJ : ∀ n x15 tok st ta x, n ≤ M → ll_O K L R lf tok st n ro x15 x → J367 (nI q) (nI n) (rl_v x) x15 (nI (sp + 1)) (nI 8) (nI M) (nI A) 1 (nI ro) (nI n) kd lf rg ls tok st ta) (x22 : Int32) :
    ∀ f i a tok ta, i ≤ A → A - i < f → a < A → ll_O K L R lf tok st n ro x15 x →
    wL_law_797 post N0 xs J54 J367 (nI A) (nI M) (nI q) x5 x7 x9 (nI rd) (nI ro) (nI n) x15 (nI sp) x22 kc ks f (nI a) (nI i) (nI 8) (nI M) (nI A) 1 (nI ro) (nI n) kd lf rg ls tok st ta := by
  intro f
  induction f with
  | zero => intro i a tok ta _ h; omega
  | succ f ih =>
    intro i a tok ta hi hf ha hO
    refine pk_le A i (fun _ => ll_833 G hro hM hA8 hn ha hO post J54 J367 hJ) (fun hlt => br_c (fun _ => ll_833 G hro hM hA8 hn ha hO post J54 J367 hJ) (fun _ => ?_))
    refine pm_ahead G.1 G.2.1 G.2.2.1 hro (by omega) (by omega) hO.1 ha _ (fun ta x' hx => ?_)
    refine br_c (fun _ => ll_833 G hro hM hA8 hn ha (ll_O_tok hO _) post J54 J367 hJ) (fun _ => ⟨nI_ne0 (by omega) (by omega), ?_⟩)
    rw [nI_1, pk_rem (by omega) (by omega) (by omega)]
    exact nm_e (nm_r (nI_1 i) (ih (i + 1) _ _ ta (by omega) (by omega) (Nat.mod_lt _ (by omega)) (ll_O_tok hO _)))
theorem ll_778 (G : ll_G A K L R D kd lf rg ls x5 x7 x9) (hro : ro < 8) (hM : M ≤ 12) (hA2 : 0 < A) (hA8 : A ≤ 4) {n rd q sp x : Nat} {tok st ta : Nat → Int32} {x15 : Int64} (hn : n < M) (hO : ll_O K L R lf tok st n ro x15 x) (post : Int32 → Prop) (J54 : Int32 → Int64 → Int64 → Int64 → Int32 → Int32 → Int32 → Int32 → Int32 → Int32 → Int32 → (Nat → Int32) → (Nat → Int32) → (Nat → Int32) → (Nat → Int32) → (Nat → Int32) → (Nat → Int32) → (Nat → Int32) → Prop) (J367 : Int32 → Int32 → Int32 → Int64 → Int32 → Int32 → Int32 → Int32 → Int32 → Int32 → Int32 → (Nat → Int32) → (Nat → Int32) → (Nat → Int32) → (Nat → Int32) → (Nat → Int32) → (Nat → Int32) → (Nat → Int32) → Prop)
    (hJ : ∀ n x15 tok st ta x, n ≤ M → ll_O K L R lf tok st n ro x15 x → J367 (nI q) (nI n) (rl_v x) x15 (nI (sp + 1)) (nI 8) (nI M) (nI A) 1 (nI ro) (nI n) kd lf rg ls tok st ta) (x21 x22 : Int32) :
    wL_law_778 post N0 xs J54 J367 (nI A) (nI M) (nI q) x5 x7 x9 (nI rd) (nI ro) (nI n) x15 (nI sp) x21 x22 kc ks (nI 8) (nI M) (nI A) 1 (nI ro) (nI n) kd lf rg ls tok st ta := by
  unfold wL_law_778
  exact lc_mod _ hA2 (by omega) (fun a ha => ⟨A + 1, ll_797 G hro hM hA8 hn post J54 J367 hJ x22 (A + 1) 1 a tok ta (by omega) (by omega) ha hO⟩)
theorem ll_694 (hN : N0 ≤ 260) (G : ll_G A K L R D kd lf rg ls x5 x7 x9) (hro : ro < 8) (hM : M ≤ 12) (hM0 : 0 < M) (hA2 : 0 < A) (hA8 : A ≤ 4) {n rd q sp x : Nat} {tok st ta : Nat → Int32} {x15 : Int64} (hq : q < 10000) (hsp : sp < 12) (hn : n ≤ M) (hO : ll_O K L R lf tok st n ro x15 x) (post : Int32 → Prop) (J54 : Int32 → Int64 → Int64 → Int64 → Int32 → Int32 → Int32 → Int32 → Int32 → Int32 → Int32 → (Nat → Int32) → (Nat → Int32) → (Nat → Int32) → (Nat → Int32) → (Nat → Int32) → (Nat → Int32) → (Nat → Int32) → Prop) (J367 : Int32 → Int32 → Int32 → Int64 → Int32 → Int32 → Int32 → Int32 → Int32 → Int32 → Int32 → (Nat → Int32) → (Nat → Int32) → (Nat → Int32) → (Nat → Int32) → (Nat → Int32) → (Nat → Int32) → (Nat → Int32) → Prop)
    (hC : ∀ tok st ta, J54 (nI q) x5 x7 x9 (nI (rd + 1)) (nI 8) (nI M) (nI A) 0 0 0 kd lf rg ls tok st ta)
    (hJ : ∀ n x15 tok st ta x, n ≤ M → ll_O K L R lf tok st n ro x15 x → J367 (nI (q + 1)) (nI n) (rl_v x) x15 (nI (sp + 1)) (nI 8) (nI M) (nI A) 1 (nI ro) (nI n) kd lf rg ls tok st ta) :
    wL_law_694 post N0 xs J54 J367 (nI A) (nI M) (nI q) x5 x7 x9 (nI rd) (nI ro) (nI n) x15 (nI sp) kc ks (nI 8) (nI M) (nI A) 1 (nI ro) (nI n) kd lf rg ls tok st ta := by
  unfold wL_law_694
  refine br_c (fun _ => ll_864 post J54 hC) (fun _ => nm_r (nI_1 q) (lc_any hN xs (by omega) (fun c => nm_e ?_)))
  refine pk_eq n M (fun e => ll_739 G hro hM hn (by omega) hO post J54 J367 hJ c) (fun e => br_c (fun _ => pk_le n 0 (fun z => ll_778 G hro hM hA2 hA8 (by omega) hO post J54 J367 hJ c _) (fun z => ll_739 G hro hM hn z hO post J54 J367 hJ c)) (fun _ => ll_778 G hro hM hA2 hA8 (by omega) hO post J54 J367 hJ c _))
theorem ll_608 (G : ll_G A K L R D kd lf rg ls x5 x7 x9) (hro : ro < 8) (hM : M ≤ 12) (hA8 : A ≤ 4) {n rd q sp x y a bb : Nat} {w0 tok st ta : Nat → Int32} {x15 : Int64} (hn : n ≤ M) (ha : a < A) (he : ∀ d, d < n → tok d = w0 d)
    (hO : ll_O K L R lf tok st n ro x15 x) (hy : la_V 8 K L R lf (upd w0 n (nI a)) (n + 1) ro y) (hB : ll_B K L R lf w0 n ro (a + 1) bb) (post : Int32 → Prop) (J54 : Int32 → Int64 → Int64 → Int64 → Int32 → Int32 → Int32 → Int32 → Int32 → Int32 → Int32 → (Nat → Int32) → (Nat → Int32) → (Nat → Int32) → (Nat → Int32) → (Nat → Int32) → (Nat → Int32) → (Nat → Int32) → Prop) (J367 : Int32 → Int32 → Int32 → Int64 → Int32 → Int32 → Int32 → Int32 → Int32 → Int32 → Int32 → (Nat → Int32) → (Nat → Int32) → (Nat → Int32) → (Nat → Int32) → (Nat → Int32) → (Nat → Int32) → (Nat → Int32) → Prop) (J513 : Int32 → Int32 → Int32 → Int32 → Int32 → Int32 → Int32 → Int32 → (Nat → Int32) → (Nat → Int32) → (Nat → Int32) → (Nat → Int32) → (Nat → Int32) → (Nat → Int32) → (Nat → Int32) → Prop)
    (hJ : ∀ bb tok st ta, ll_B K L R lf w0 n ro (a + 1) bb → (∀ d, d < n → tok d = w0 d) → ll_O K L R lf tok st n ro x15 x → J513 (rl_a bb) (nI (a + 1)) (nI 8) (nI M) (nI A) 1 (nI ro) (nI n) kd lf rg ls tok st ta) :
    wL_law_608 post N0 xs J54 J367 J513 (nI A) (nI M) (nI q) x5 x7 x9 (nI rd) (nI ro) (nI n) x15 (nI sp) (rl_a x) (rl_v x) (rl_a bb) (nI a) (rl_a y) kc ks (nI 8) (nI M) (nI A) 1 (nI ro) (nI n) kd lf rg ls tok st ta := by
  unfold wL_law_608
  refine pk_le M n (fun _ => nm_r (nI_1 a) (hJ bb tok st ta hB he hO)) (fun hlt => ?_)
  have up : ∀ t, t < n + 1 → upd tok n (nI a) t = upd w0 n (nI a) t := fun t ht => by
    by_cases e : t = n
    · rw [e, pk_us, pk_us]
    · rw [pk_un e, pk_un e]; exact he t (by omega)
  refine pm_feed G.1 G.2.1 G.2.2.1 hro hlt hM (by omega) hO.1 ha _ (fun st ta y1 hS hy1 => ?_)
  have e1 : y1 = y := la_V_u (la_V_w hy1 up) hy
  refine rl_ver hy.1 ?_
  rw [e1]
  refine br_t rfl (pm_shortest G.1 G.2.1 G.2.2.1 hro (by omega) hS _ (fun ta y2 hy2 => ?_))
  have e2 : y2 = y := la_V_u (la_V_w hy2 up) hy
  rw [e2]
  refine br_t rfl (pm_keep G.1 G.2.1 G.2.2.1 hro (by omega) hS (m := n) (by omega) _ (fun ta x1 hx1 => ?_))
  have hO' := ll_O_tok hO (nI a)
  have e3 : x1 = x := la_V_u hx1 hO'.2.2
  rw [e3]
  exact br_t rfl (nm_r (nI_1 a) (hJ bb _ st ta hB (fun d hd => by rw [pk_un (by omega)]; exact he d hd) ⟨gx_S_le hS (by omega), hO'.2.1, hO'.2.2⟩))
theorem ll_587 (G : ll_G A K L R D kd lf rg ls x5 x7 x9) (hro : ro < 8) (hM : M ≤ 12) (hA8 : A ≤ 4) {n rd q sp x y a bb : Nat} {w0 tok st ta : Nat → Int32} {x15 : Int64} (hn : n ≤ M) (ha : a < A) (he : ∀ d, d < n → tok d = w0 d)
    (hO : ll_O K L R lf tok st n ro x15 x) (hy : la_V 8 K L R lf (upd w0 n (nI a)) (n + 1) ro y) (hB : ll_B K L R lf w0 n ro a bb) (post : Int32 → Prop) (J54 : Int32 → Int64 → Int64 → Int64 → Int32 → Int32 → Int32 → Int32 → Int32 → Int32 → Int32 → (Nat → Int32) → (Nat → Int32) → (Nat → Int32) → (Nat → Int32) → (Nat → Int32) → (Nat → Int32) → (Nat → Int32) → Prop) (J367 : Int32 → Int32 → Int32 → Int64 → Int32 → Int32 → Int32 → Int32 → Int32 → Int32 → Int32 → (Nat → Int32) → (Nat → Int32) → (Nat → Int32) → (Nat → Int32) → (Nat → Int32) → (Nat → Int32) → (Nat → Int32) → Prop) (J513 : Int32 → Int32 → Int32 → Int32 → Int32 → Int32 → Int32 → Int32 → (Nat → Int32) → (Nat → Int32) → (Nat → Int32) → (Nat → Int32) → (Nat → Int32) → (Nat → Int32) → (Nat → Int32) → Prop)
    (hJ : ∀ bb tok st ta, ll_B K L R lf w0 n ro (a + 1) bb → (∀ d, d < n → tok d = w0 d) → ll_O K L R lf tok st n ro x15 x → J513 (rl_a bb) (nI (a + 1)) (nI 8) (nI M) (nI A) 1 (nI ro) (nI n) kd lf rg ls tok st ta) :
    wL_law_587 post N0 xs J54 J367 J513 (nI A) (nI M) (nI q) x5 x7 x9 (nI rd) (nI ro) (nI n) x15 (nI sp) (rl_a x) (rl_v x) (rl_a bb) (nI a) (rl_a y) kc ks (nI 8) (nI M) (nI A) 1 (nI ro) (nI n) kd lf rg ls tok st ta := by
  unfold wL_law_587 wL_law_604
  have new : y ≤ bb → wL_law_608 post N0 xs J54 J367 J513 (nI A) (nI M) (nI q) x5 x7 x9 (nI rd) (nI ro) (nI n) x15 (nI sp) (rl_a x) (rl_v x) (rl_a y) (nI a) (rl_a y) kc ks (nI 8) (nI M) (nI A) 1 (nI ro) (nI n) kd lf rg ls tok st ta :=
    fun h => ll_608 G hro hM hA8 hn ha he hO hy (ll_B_new hB hy h) post J54 J367 J513 hJ
  have old : bb ≤ y → wL_law_608 post N0 xs J54 J367 J513 (nI A) (nI M) (nI q) x5 x7 x9 (nI rd) (nI ro) (nI n) x15 (nI sp) (rl_a x) (rl_v x) (rl_a bb) (nI a) (rl_a y) kc ks (nI 8) (nI M) (nI A) 1 (nI ro) (nI n) kd lf rg ls tok st ta :=
    fun h => ll_608 G hro hM hA8 hn ha he hO hy (ll_B_keep hB hy h) post J54 J367 J513 hJ
  have hb := hB.1
  have hyB := hy.1
  refine br_c (fun z => old ?_) (fun z => br_c (fun z2 => new ?_) (fun z2 => ?_))
  · have := (rl_neg hyB).1 z
    omega
  · have := (rl_neg hb).1 z2
    omega
  · have h1 : y < 16777216 := Classical.byContradiction (fun w => z ((rl_neg hyB).2 w))
    have h2 : bb < 16777216 := Classical.byContradiction (fun w => z2 ((rl_neg hb).2 w))
    refine ek_if (d := bb ≤ y) ?_ (fun w => old w) (fun w => new (by omega))
    rw [rl_a, rl_a, if_pos h1, if_pos h2, nI_leI (by omega) (by omega)]
theorem ll_513 (hN : N0 ≤ 260) (G : ll_G A K L R D kd lf rg ls x5 x7 x9) (hro : ro < 8) (hM : M ≤ 12) (hM0 : 0 < M) (hA2 : 0 < A) (hA8 : A ≤ 4) {n rd q sp x : Nat} {w0 : Nat → Int32} {x15 : Int64} (hq : q < 10000) (hsp : sp < 12) (hn : n ≤ M) (hx0 : la_V 8 K L R lf w0 n ro x) (post : Int32 → Prop) (J54 : Int32 → Int64 → Int64 → Int64 → Int32 → Int32 → Int32 → Int32 → Int32 → Int32 → Int32 → (Nat → Int32) → (Nat → Int32) → (Nat → Int32) → (Nat → Int32) → (Nat → Int32) → (Nat → Int32) → (Nat → Int32) → Prop) (J367 : Int32 → Int32 → Int32 → Int64 → Int32 → Int32 → Int32 → Int32 → Int32 → Int32 → Int32 → (Nat → Int32) → (Nat → Int32) → (Nat → Int32) → (Nat → Int32) → (Nat → Int32) → (Nat → Int32) → (Nat → Int32) → Prop)
    (hC : ∀ tok st ta, J54 (nI q) x5 x7 x9 (nI (rd + 1)) (nI 8) (nI M) (nI A) 0 0 0 kd lf rg ls tok st ta)
    (hJ : ∀ n x15 tok st ta x, n ≤ M → ll_O K L R lf tok st n ro x15 x → J367 (nI (q + 1)) (nI n) (rl_v x) x15 (nI (sp + 1)) (nI 8) (nI M) (nI A) 1 (nI ro) (nI n) kd lf rg ls tok st ta) :
    ∀ f a bb tok st ta, a ≤ A → A - a < f → (∀ d, d < n → tok d = w0 d) → ll_O K L R lf tok st n ro x15 x → ll_B K L R lf w0 n ro a bb →
    wL_law_513 post N0 xs J54 J367 (nI A) (nI M) (nI q) x5 x7 x9 (nI rd) (nI ro) (nI n) x15 (nI sp) (rl_a x) (rl_v x) kc ks f (rl_a bb) (nI a) (nI 8) (nI M) (nI A) 1 (nI ro) (nI n) kd lf rg ls tok st ta := by
  intro f
  induction f with
  | zero => intro a bb tok st ta _ h; omega
  | succ f ih =>
    intro a bb tok st ta ha hf he hO hB
    have hxB := hO.2.2.1
    refine pk_le A a (fun h => ?_) (fun h => ?_)
    · have ea : a = A := by omega
      rw [ea] at hB
      refine pm_shortest G.1 G.2.1 G.2.2.1 hro (by omega) hO.1 _ (fun ta x1 hx1 => ?_)
      have e1 : x1 = x := la_V_u hx1 hO.2.2
      rw [e1]
      have done := ll_694 (kc := kc) (ks := ks) (xs := xs) (ta := ta) hN G hro hM hM0 hA2 hA8 hq hsp hn hO post J54 J367 hC hJ
      have en := ll_B_end hB G.2.2.2.1 hx0
      refine br_t rfl (br_c (fun _ => done) (fun z0 => br_c (fun z => ?_) (fun z => ?_)))
      · unfold wL_law_689
        have h1 : ¬ x < 16777216 := fun w => by
          rw [rl_a, if_pos w] at z z0
          have h2 := (nI_leI (a := x) (b := 0) (by omega) (by omega)).1 z
          exact z0 (show nI x = nI 0 by rw [show x = 0 from by omega])
        refine br_t ?_ done
        rw [en.1 h1]
        rfl
      · unfold wL_law_689
        have h1 : x < 16777216 := Classical.byContradiction (fun w => z (by rw [rl_a, if_neg w]; decide))
        have h2 : 0 < x := by
          by_cases e : x = 0
          · rw [rl_a, if_pos h1, e] at z0
            exact absurd rfl z0
          · omega
        refine br_t ?_ done
        rw [en.2 h2 h1, rl_a, rl_a, if_pos (by omega), if_pos h1]
        exact (pk_sub (a := x) (b := 1) (by omega)).symm
    · refine pm_ahead G.1 G.2.1 G.2.2.1 hro (by omega) (by omega) hO.1 h _ (fun ta y hy => nm_e ?_)
      have hO' := ll_O_tok hO (nI a)
      have he' : ∀ d, d < n → upd tok n (nI a) d = w0 d := fun d hd => by rw [pk_un (by omega)]; exact he d hd
      have hy' : la_V 8 K L R lf (upd w0 n (nI a)) (n + 1) ro y := la_V_w hy (fun t ht => by
        by_cases e : t = n
        · rw [e, pk_us, pk_us]
        · rw [pk_un e, pk_un e]; exact he t (by omega))
      have go := ll_587 (N0 := N0) (xs := xs) (kc := kc) (ks := ks) (rd := rd) (q := q) (sp := sp) (ta := ta) G hro hM hA8 hn h he' hO' hy' hB post J54 J367 _ (fun bb tok st ta hB he hO => ih (a + 1) bb tok st ta (by omega) (by omega) he hO hB)
      refine br_t (rl_nb hy.1) (pk_le 7 n (fun _ => go) (fun h7 => ?_))
      rw [nI_1 n]
      exact lr_row (gx_wf G.1) G.2.2.2.2 (by omega) (nb_add hO.2.1 (by omega) (by omega)) hro _ (fun z hz => lr_fits (by omega) hz hy _ (br_f (by decide) go))
theorem ll_439 (hN : N0 ≤ 260) (G : ll_G A K L R D kd lf rg ls x5 x7 x9) (hro : ro < 8) (hM : M ≤ 12) (hM0 : 0 < M) (hA2 : 0 < A) (hA8 : A ≤ 4) {n rd q sp x : Nat} {tok st ta : Nat → Int32} {x15 : Int64} (hq : q < 10000) (hsp : sp < 12) (hn : n ≤ M) (hO : ll_O K L R lf tok st n ro x15 x) (post : Int32 → Prop) (J54 : Int32 → Int64 → Int64 → Int64 → Int32 → Int32 → Int32 → Int32 → Int32 → Int32 → Int32 → (Nat → Int32) → (Nat → Int32) → (Nat → Int32) → (Nat → Int32) → (Nat → Int32) → (Nat → Int32) → (Nat → Int32) → Prop) (J367 : Int32 → Int32 → Int32 → Int64 → Int32 → Int32 → Int32 → Int32 → Int32 → Int32 → Int32 → (Nat → Int32) → (Nat → Int32) → (Nat → Int32) → (Nat → Int32) → (Nat → Int32) → (Nat → Int32) → (Nat → Int32) → Prop)
    (hC : ∀ tok st ta, J54 (nI q) x5 x7 x9 (nI (rd + 1)) (nI 8) (nI M) (nI A) 0 0 0 kd lf rg ls tok st ta)
    (hJ : ∀ n x15 tok st ta x, n ≤ M → ll_O K L R lf tok st n ro x15 x → J367 (nI (q + 1)) (nI n) (rl_v x) x15 (nI (sp + 1)) (nI 8) (nI M) (nI A) 1 (nI ro) (nI n) kd lf rg ls tok st ta) :
    ∀ f i, i ≤ n → n - i < f →
    wL_law_439 post N0 xs J54 J367 (nI A) (nI M) (nI q) x5 x7 x9 (nI rd) (nI ro) (nI n) x15 (nI sp) (rl_a x) (rl_v x) (-1) kc ks (nI 8) (nI M) (nI A) 1 (nI ro) (nI n) kd lf rg ls tok st ta f (nI i) := by
  have go : ∃ f, wL_law_513 post N0 xs J54 J367 (nI A) (nI M) (nI q) x5 x7 x9 (nI rd) (nI ro) (nI n) x15 (nI sp) (rl_a x) (rl_v x) kc ks f (-1) 0 (nI 8) (nI M) (nI A) 1 (nI ro) (nI n) kd lf rg ls tok st ta :=
    ⟨A + 1, ll_513 hN G hro hM hM0 hA2 hA8 hq hsp hn hO.2.2 post J54 J367 hC hJ (A + 1) 0 16777216 tok st ta (by omega) (by omega) (fun _ _ => rfl) hO (ll_B0 K L R lf tok n ro)⟩
  intro f
  induction f with
  | zero => intro i _ h; omega
  | succ f ih =>
    intro i hi hf
    refine pk_le n i (fun h => pk_lt 7 n (fun _ => go) (fun h7 => ?_)) (fun h => ?_)
    · exact lr_row (gx_wf G.1) G.2.2.2.2 h7 hO.2.1 hro _ (fun z hz => lr_fits h7 hz hO.2.2 _ (br_f (by decide) go))
    · obtain ⟨v, hv, e1, e2⟩ := hO.2.1.1 i h
      unfold wpX_tokenAt
      dsimp only
      rw [nb_get e2 (by omega) (by omega), lN_i, show (nI i).toNatClampNeg = i from nI_clamp (by omega), e1]
      exact br_f (by decide) (br_f (nI_pos (by omega)) (br_t (nI_lt h (by omega)) ⟨vp_in_nI (by omega) (by omega), br_t rfl (nm_r (nI_1 i) (ih (i + 1) (by omega) (by omega)))⟩))
theorem ll_367 (hN : N0 ≤ 260) (G : ll_G A K L R D kd lf rg ls x5 x7 x9) (hro : ro < 8) (hM : M ≤ 12) (hM0 : 0 < M) (hA2 : 0 < A) (hA8 : A ≤ 4) {rd Q : Nat} (hQ : Q < 5000) (post : Int32 → Prop) (J54 : Int32 → Int64 → Int64 → Int64 → Int32 → Int32 → Int32 → Int32 → Int32 → Int32 → Int32 → (Nat → Int32) → (Nat → Int32) → (Nat → Int32) → (Nat → Int32) → (Nat → Int32) → (Nat → Int32) → (Nat → Int32) → Prop)
    (hC : ∀ q tok st ta, q ≤ Q + 12 → J54 (nI q) x5 x7 x9 (nI (rd + 1)) (nI 8) (nI M) (nI A) 0 0 0 kd lf rg ls tok st ta) :
    ∀ f sp q n x15 tok st ta x, sp ≤ 12 → 12 - sp < f → q ≤ Q + sp → n ≤ M → ll_O K L R lf tok st n ro x15 x →
    wL_law_367 post N0 xs J54 (nI A) (nI M) x5 x7 x9 (nI rd) (nI ro) kc ks f (nI q) (nI n) (rl_v x) x15 (nI sp) (nI 8) (nI M) (nI A) 1 (nI ro) (nI n) kd lf rg ls tok st ta := by
  intro f
  induction f with
  | zero => intro sp q n x15 tok st ta x _ h; omega
  | succ f ih =>
    intro sp q n x15 tok st ta x hsp hf hq hn hO
    refine pk_le 12 sp (fun _ => ll_864 post J54 (fun tok st ta => hC q tok st ta (by omega))) (fun h => ?_)
    refine pm_shortest G.1 G.2.1 G.2.2.1 hro (by omega) hO.1 _ (fun ta x1 hx1 => ?_)
    have e1 : x1 = x := la_V_u hx1 hO.2.2
    rw [e1]
    refine pm_verdict G.1 G.2.1 G.2.2.1 hro (by omega) hO.1 _ (fun ta x2 hx2 => ?_)
    have e2 : x2 = x := la_V_u hx2 hO.2.2
    rw [e2]
    unfold wpX_root wpX_size
    dsimp only
    refine br_f (by decide) (br_t rfl (br_f (by decide) (br_t rfl (br_t rfl (br_f (Int32.not_lt.mpr (rl_nb hO.2.2.1)) (rl_ver hO.2.2.1 (br_t rfl ⟨n + 1, ?_⟩)))))))
    exact ll_439 hN G hro hM hM0 hA2 hA8 (by omega) h hn hO post J54 _ (fun tok st ta => hC q tok st ta (by omega)) (fun n x15 tok st ta x hn hO => ih (sp + 1) (q + 1) n x15 tok st ta x (by omega) (by omega) (by omega) hn hO) (n + 1) 0 (by omega) (by omega)
end
