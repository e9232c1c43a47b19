/-! the relation, and small methods of both sides -/
def i_Rel (_ : Nat) (u : SX) (v : SY) : Prop :=
  ∃ (C M A : Nat) (K L R D : Nat → Nat) (op rx ix ry iy : Int32) (kd lf rg ls tok st ta sp re : Nat → Int32),
    u = (nI C, nI M, nI A, op, rx, ix, kd, lf, rg, ls, tok, st, ta) ∧ v = (nI C, nI M, nI A, ry, iy, op, kd, lf, rg, tok, sp, re) ∧
    gx_ok C K L R kd lf rg ∧ M ≤ 12 ∧ A ≤ 8 ∧ fx_Good C 16777216 (of_L K L R) D ∧ gx_V C ls D ∧
    (¬ op = 0 → ∃ ro n, ro < C ∧ n ≤ M ∧ rx = nI ro ∧ ry = nI ro ∧ ix = nI n ∧ iy = nI n ∧ gx_S C K L R (fun i c => tok i = lf c) st (n + 1))
theorem i_up {k : Nat} {u : SX} {v : SY} (h : i_Rel k u v) : i_Rel (k + 5) u v := h
section
variable {C M A : Nat} {K L R D : Nat → Nat} {op rx ix ry iy : Int32} {kd lf rg ls tok st ta sp re : Nat → Int32}
theorem rl_mk (k : Nat) (G : gx_ok C K L R kd lf rg) (hM : M ≤ 12) (hA : A ≤ 8) (GD : fx_Good C 16777216 (of_L K L R) D) (hV : gx_V C ls D)
    (hO : ¬ op = 0 → ∃ ro n, ro < C ∧ n ≤ M ∧ rx = nI ro ∧ ry = nI ro ∧ ix = nI n ∧ iy = nI n ∧ gx_S C K L R (fun i c => tok i = lf c) st (n + 1)) :
    i_Rel k (nI C, nI M, nI A, op, rx, ix, kd, lf, rg, ls, tok, st, ta) (nI C, nI M, nI A, ry, iy, op, kd, lf, rg, tok, sp, re) :=
  ⟨C, M, A, K, L, R, D, op, rx, ix, ry, iy, kd, lf, rg, ls, tok, st, ta, sp, re, rfl, rfl, G, hM, hA, GD, hV, hO⟩
theorem rl_0 {tk : Nat → Nat → Prop} {Dr : Nat → Nat} (hC : C ≤ 16) (wf : gr_wf C K L R) (GD : fx_Good C 16777216 (of_L K L R) D) (GR : fx_Good 224 16777216 (of_R C K L R tk (gr_Sp C K L R tk) 0) Dr) {c : Nat} (hc : c < C) : Dr (c * 14) = D c :=
  (gr_tail (T := fun _ => D) (n := 0) (i := 0) (by omega) (by omega) (by omega) wf GD (fun _ _ => rfl) (fun i hi => absurd hi (by omega)) GR hc (by omega)).symm
theorem rl_n {tk : Nat → Nat → Prop} {Dr : Nat → Nat} {T : Nat → Nat → Nat} {n : Nat} (hn : n ≤ 13) (hC : C ≤ 16) (wf : gr_wf C K L R) (GD : fx_Good C 16777216 (of_L K L R) D)
    (h0 : ∀ c, c < C → T n c = D c) (hT : ∀ i, i < n → fx_Good C 16777216 (of_T K L R tk (gr_Sp C K L R tk) D T i n) (T i))
    (GR : fx_Good 224 16777216 (of_R C K L R tk (gr_Sp C K L R tk) n) Dr) {c : Nat} (hc : c < C) : Dr (c * 14) = T 0 c :=
  (gr_tail (i := 0) (by omega) hn (by omega) wf GD h0 hT GR hc (by omega)).symm
theorem gx_S_le {tk : Nat → Nat → Prop} {m n : Nat} (h : gx_S C K L R tk st n) (hm : m ≤ n) : gx_S C K L R tk st m := fun c i j hc hij hj => h c i j hc hij (by omega)
theorem gx_S_tok {n : Nat} {x : Int32} (h : gx_S C K L R (fun i c => tok i = lf c) st (n + 1)) : gx_S C K L R (fun i c => upd tok n x i = lf c) st (n + 1) := by
  intro c i j hc hij hj
  rw [h c i j hc hij hj]
  refine gr_sp_iff (fun t a b c => ?_)
  rw [pk_un (by omega)]
/-- the verdict and the answer that a least length gives -/
def rl_v (x : Nat) : Int32 := if x = 0 then 3 else if x < 16777216 then 2 else 1
def rl_a (x : Nat) : Int32 := if x < 16777216 then nI x else -1
theorem xv_for {x : Nat} (hx : x ≤ 16777216) {post : Int32 → Prop} (h : post (rl_v x)) : wpX_verdictFor post (nI x) := by
  refine pk_eq x 0 (fun e => ?_) (fun e => pk_le 16777216 x (fun z => ?_) (fun z => ?_))
  · rw [rl_v, if_pos e] at h; exact h
  · rw [rl_v, if_neg e, if_neg (by omega)] at h; exact h
  · rw [rl_v, if_neg e, if_pos z] at h; exact h
theorem xv_len {x : Nat} (hx : x ≤ 16777216) {post : Int32 → Prop} (h : post (rl_a x)) : wpX_lengthOrNone post (nI x) := by
  refine pk_le 16777216 x (fun z => ?_) (fun z => ?_)
  · rw [rl_a, if_neg (by omega)] at h; exact h
  · rw [rl_a, if_pos z] at h; exact h
theorem ye_ans (G : gx_ok C K L R kd lf rg) {ml al r s op : Int32} {nn c : Nat} (hn : nn ≤ 13) (hc : c < C) (post : Int32 → SY → Prop)
    (hp : ∀ sp re Dr, fx_Good 224 16777216 (of_R C K L R (fun i c => tok i = lf c) (gr_Sp C K L R (fun i c => tok i = lf c)) nn) Dr → post (rl_a (Dr (c * 14))) (nI C, ml, al, r, s, op, kd, lf, rg, tok, sp, re)) :
    wpY_completion post (nI C, ml, al, r, s, op, kd, lf, rg, tok, sp, re) (nI c) (nI nn) := by
  refine ye_comp G hn hc post (fun sp re Dr GR => ⟨fun z => ?_, fun z => ?_⟩)
  · have h := hp sp re Dr GR
    rw [rl_a, if_neg (by omega)] at h
    exact h
  · have h := hp sp re Dr GR
    rw [rl_a, if_pos z] at h
    exact h
theorem ye_ver (G : gx_ok C K L R kd lf rg) {ml al op : Int32} {nn c : Nat} (hn : nn ≤ 13) (hc : c < C) (ho : ¬ op = 0) (post : Int32 → SY → Prop)
    (hp : ∀ sp re Dr, fx_Good 224 16777216 (of_R C K L R (fun i c => tok i = lf c) (gr_Sp C K L R (fun i c => tok i = lf c)) nn) Dr → post (rl_v (Dr (c * 14))) (nI C, ml, al, nI c, nI nn, op, kd, lf, rg, tok, sp, re)) :
    wpY_verdict post (nI C, ml, al, nI c, nI nn, op, kd, lf, rg, tok, sp, re) := by
  unfold wpY_verdict
  dsimp only
  refine br_f ho (ye_comp G hn hc _ (fun sp re Dr GR => ⟨fun z => ?_, fun z => ?_⟩))
  · have h := hp sp re Dr GR
    rw [rl_v, if_neg (by omega), if_neg (by omega)] at h
    exact br_f (by decide) (br_t (by decide) h)
  · have h := hp sp re Dr GR
    refine pk_eq (Dr (c * 14)) 0 (fun e => ?_) (fun e => pk_le (Dr (c * 14)) 0 (fun y => absurd y (by omega)) (fun y => ?_))
    · rw [rl_v, if_pos e] at h; exact h
    · rw [rl_v, if_neg e, if_pos z] at h; exact h
end
section
variable {C : Nat} {fl ft fo fr fi ml al ro sz op : Int32} {kd lf rg ls tok st ta wd sp re : Nat → Int32}
theorem xq_yes (hC : C ≤ 16) {c : Nat} (hc : c < C) {post : Int32 → Prop} (h : post 1) : wpX_isCell post (nI C, fl, ft, fo, fr, fi, kd, lf, rg, ls, tok, st, ta) (nI c) :=
  br_f (nI_pos (by omega)) (br_f (nI_ge hc (by omega)) h)
theorem xq_no {x : Int32} (hx : x < 0 ∨ nI C ≤ x) {post : Int32 → Prop} (h : post 0) : wpX_isCell post (nI C, fl, ft, fo, fr, fi, kd, lf, rg, ls, tok, st, ta) x :=
  br_c (fun _ => h) (fun z => br_t (hx.resolve_left z) h)
theorem xk_yes {A : Nat} (hA : A ≤ 8) {c : Nat} (hc : c < A) {post : Int32 → Prop} (h : post 1) : wpX_isToken post (nI C, fl, nI A, fo, fr, fi, kd, lf, rg, ls, tok, st, ta) (nI c) :=
  br_f (nI_pos (by omega)) (br_f (nI_ge hc (by omega)) h)
theorem xk_no {A : Nat} {x : Int32} (hx : x < 0 ∨ nI A ≤ x) {post : Int32 → Prop} (h : post 0) : wpX_isToken post (nI C, fl, nI A, fo, fr, fi, kd, lf, rg, ls, tok, st, ta) x :=
  br_c (fun _ => h) (fun z => br_t (hx.resolve_left z) h)
theorem yq_yes (hC : C ≤ 16) {c : Nat} (hc : c < C) {post : Int32 → Prop} (h : post 0) : wpY_noCell post (nI C, ml, al, ro, sz, op, kd, lf, rg, wd, sp, re) (nI c) :=
  br_f (nI_pos (by omega)) (br_t (nI_lt hc (by omega)) h)
theorem yq_no {x : Int32} (hx : x < 0 ∨ nI C ≤ x) {post : Int32 → Prop} (h : post 1) : wpY_noCell post (nI C, ml, al, ro, sz, op, kd, lf, rg, wd, sp, re) x :=
  br_c (fun _ => h) (fun z => br_f (Int32.not_lt.mpr (hx.resolve_left z)) h)
theorem pk_ix2 (x : Int32) {n : Nat} (hn : n < 2 ^ 31) : (x < 0 ∨ nI n ≤ x) ∨ ∃ j : Nat, j < n ∧ x = nI j := by
  rcases pk_ix x hn with h | h | h
  · exact Or.inl (Or.inl h)
  · exact Or.inl (Or.inr h)
  · exact Or.inr h
theorem xi_clamp (x : Int32) {lo hi : Nat} (hl : lo ≤ hi) (hh : hi < 2 ^ 31) : ∃ c, lo ≤ c ∧ c ≤ hi ∧ (∀ post : Int32 → Prop, post (nI c) → wpX_clamp post x (nI lo) (nI hi)) ∧
    (∀ (post : Int32 → Prop) (y1 y2 y3 y4 y5 y6 : Int32) (z1 z2 z3 z4 z5 z6 : Nat → Int32), post (nI c) → wpY_clamp post (y1, y2, y3, y4, y5, y6, z1, z2, z3, z4, z5, z6) x (nI lo) (nI hi)) := by
  by_cases h1 : nI lo ≤ x
  · by_cases h2 : x ≤ nI hi
    · obtain ⟨j, hj, rfl⟩ := nI_of (x := x) (Int32.not_lt.mpr (Int32.le_trans (nI_pos' (by omega)) h1))
      exact ⟨j, (nI_leI (by omega) hj).1 h1, (nI_leI hj hh).1 h2, fun post h => br_t h1 (br_t h2 h), fun post y1 y2 y3 y4 y5 y6 z1 z2 z3 z4 z5 z6 h => br_t h1 (br_t h2 h)⟩
    · exact ⟨hi, hl, Nat.le_refl _, fun post h => br_t h1 (br_f h2 h), fun post y1 y2 y3 y4 y5 y6 z1 z2 z3 z4 z5 z6 h => br_t h1 (br_f h2 h)⟩
  · exact ⟨lo, Nat.le_refl _, hl, fun post h => br_f h1 h, fun post y1 y2 y3 y4 y5 y6 z1 z2 z3 z4 z5 z6 h => br_f h1 h⟩
end
