/-! the law's rounds and defines, and the owed statement -/
theorem lc_kind {c : Nat} (hc : c < 8) (y : Int32) {post : Int32 → Prop} (h : ∀ kk, kk ≤ 4 → post (nI kk)) : wpL_kindFor post () (nI c) y := by
  obtain ⟨g, hg, e⟩ := pk_andE (y + nI c) (m := 15) 4 (by decide)
  have h43 : wL_kindFor_43 post (nI g) := by
    unfold wL_kindFor_43
    exact pk_le 3 g (fun _ => br_c (fun _ => h 3 (by omega)) (fun _ => h 4 (by omega))) (fun z => h g (by omega))
  have h20 : wL_kindFor_20 post (nI c) (nI g) := by
    unfold wL_kindFor_20
    exact br_c (fun _ => br_c (fun _ => h43) (fun _ => br_c (fun _ => h 2 (by omega)) (fun _ => h 1 (by omega)))) (fun _ => h43)
  unfold wpL_kindFor
  exact nm_r e (br_c (fun _ => h20) (fun _ => br_c (fun _ => h20) (fun _ => h 2 (by omega))))
theorem lc_and7 (x : Int32) : ∃ j, j < 8 ∧ x &&& 7 = nI j := pk_andE x (m := 7) 3 (by decide)
section
variable {N0 : Nat} {xs : Nat → Int32} {kc ks M A : Nat} {K L R D : Nat → Nat} {kd lf rg ls tok st ta : Nat → Int32} {x5 x7 x9 : Int64}
/-- what a later turn of the define loop asks -/
def ll_J (M A : Nat) (J : Int32 → Int64 → Int64 → Int64 → Int32 → Int32 → Int32 → Int32 → Int32 → Int32 → Int32 → (Nat → Int32) → (Nat → Int32) → (Nat → Int32) → (Nat → Int32) → (Nat → Int32) → (Nat → Int32) → (Nat → Int32) → Prop) (q i : Nat) : Prop :=
  ∀ (K L R D : Nat → Nat) (kd lf rg ls tok st ta : Nat → Int32) (x5 x7 x9 : Int64), ll_G A K L R D kd lf rg ls x5 x7 x9 → J (nI q) x5 x7 x9 (nI i) (nI 8) (nI M) (nI A) 0 0 0 kd lf rg ls tok st ta
theorem ll_263 {c kk l r q i rd : Nat} (hc : c < 8) (hk : kk ≤ 4) (hl : l < 8) (hr : r < 8) (post : Int32 → Prop) (J54 J63 : Int32 → Int64 → Int64 → Int64 → Int32 → Int32 → Int32 → Int32 → Int32 → Int32 → Int32 → (Nat → Int32) → (Nat → Int32) → (Nat → Int32) → (Nat → Int32) → (Nat → Int32) → (Nat → Int32) → (Nat → Int32) → Prop)
    (hJ : J63 (nI q) ((x5 &&& (((15 : Int64) <<< ((4 * nI c).toInt64 &&& 63)) ^^^ (-1))) ||| ((nI kk).toInt64 <<< ((4 * nI c).toInt64 &&& 63))) ((x7 &&& (((15 : Int64) <<< ((4 * nI c).toInt64 &&& 63)) ^^^ (-1))) ||| ((nI l).toInt64 <<< ((4 * nI c).toInt64 &&& 63))) ((x9 &&& (((15 : Int64) <<< ((4 * nI c).toInt64 &&& 63)) ^^^ (-1))) ||| ((nI r).toInt64 <<< ((4 * nI c).toInt64 &&& 63))) (nI (i + 1)) (nI 8) (nI M) (nI A) 0 0 0 kd lf rg ls tok st ta) :
    wL_law_263 post N0 xs J54 J63 (nI A) (nI M) (nI q) x5 x7 x9 (nI rd) (nI i) (nI c) (nI kk) (nI l) (nI r) kc ks (nI 8) (nI M) (nI A) 0 0 0 kd lf rg ls tok st ta := by
  unfold wL_law_263
  exact nm_e (nm_e (nm_e (nm_e (nm_r (nI_1 i) hJ))))
theorem ll_169 (hN : N0 ≤ 260) (hA8 : A ≤ 4) (G : ll_G A K L R D kd lf rg ls x5 x7 x9) {c kk l q i rd : Nat} (hq : q < 10000) (hc : c < 8) (hk : kk ≤ 4) (hl : l < 8) (h2 : kk = 2 → l < A) (post : Int32 → Prop) (J54 J63 : Int32 → Int64 → Int64 → Int64 → Int32 → Int32 → Int32 → Int32 → Int32 → Int32 → Int32 → (Nat → Int32) → (Nat → Int32) → (Nat → Int32) → (Nat → Int32) → (Nat → Int32) → (Nat → Int32) → (Nat → Int32) → Prop) (hJ : ll_J M A J63 (q + 1) (i + 1)) :
    wL_law_169 post N0 xs J54 J63 (nI A) (nI M) (nI q) x5 x7 x9 (nI rd) (nI i) (nI c) (nI kk) (nI l) kc ks (nI 8) (nI M) (nI A) 0 0 0 kd lf rg ls tok st ta := by
  unfold wL_law_169
  refine nm_r (nI_1 q) (lc_any hN xs (by omega) (fun y => ?_))
  obtain ⟨r, hr, er⟩ := lc_and7 (((y + nI rd) + (3 * nI c)) + 7)
  refine nm_r er (pm_define G.1 hc hk (by omega) hl hr h2 _ (fun K' L' R' kd' lf' rg' ls' D' G' GD' hV' hd h1 h3 h4 h5 => ?_))
  have g' : ll_G A K' L' R' D' kd' lf' rg' ls' ((x5 &&& (((15 : Int64) <<< ((4 * nI c).toInt64 &&& 63)) ^^^ (-1))) ||| ((nI kk).toInt64 <<< ((4 * nI c).toInt64 &&& 63))) ((x7 &&& (((15 : Int64) <<< ((4 * nI c).toInt64 &&& 63)) ^^^ (-1))) ||| ((nI l).toInt64 <<< ((4 * nI c).toInt64 &&& 63))) ((x9 &&& (((15 : Int64) <<< ((4 * nI c).toInt64 &&& 63)) ^^^ (-1))) ||| ((nI r).toInt64 <<< ((4 * nI c).toInt64 &&& 63))) := by
    refine ⟨G', GD', hV', fun d hdd e2 => ?_, fun d hdd => ?_⟩
    · by_cases e : d = c
      · rw [e, h1] at e2
        rw [e]
        exact ⟨l, h2 e2, h3 (by omega)⟩
      · obtain ⟨a1, a2, a3, a4⟩ := hd d hdd e
        rw [a1] at e2
        rw [a4]
        exact G.2.2.2.1 d hdd e2
    · by_cases e : d = c
      · rw [e, h1]
        exact ⟨nb_put (by omega) (by omega), hk, ⟨l, hl, nb_put (by omega) (by omega), fun z => h3 (by omega), fun z => (h4 (by omega)).1⟩, ⟨r, hr, nb_put (by omega) (by omega), fun z => (h4 (by omega)).2.1⟩⟩
      · obtain ⟨a1, a2, a3, a4⟩ := hd d hdd e
        obtain ⟨b1, b2, ⟨l1, c1, c2, c3, c4⟩, ⟨r1, d1, d2, d3⟩⟩ := G.2.2.2.2 d hdd
        rw [a1, a2, a3, a4]
        exact ⟨nb_old (by omega) (by omega) (by omega) e b1, b2, ⟨l1, c1, nb_old (by omega) (by omega) (by omega) e c2, c3, c4⟩, ⟨r1, d1, nb_old (by omega) (by omega) (by omega) e d2, d3⟩⟩
  have last := ll_263 (N0 := N0) (xs := xs) (kc := kc) (ks := ks) (M := M) (A := A) (x5 := x5) (x7 := x7) (x9 := x9) (kd := kd') (lf := lf') (rg := rg') (ls := ls') (tok := tok) (st := st) (ta := ta) (rd := rd) hc hk hl hr post J54 J63 (hJ K' L' R' D' kd' lf' rg' ls' tok st ta _ _ _ g')
  have hi : vp_in (nI c) 16 := vp_in_nI (by omega) (by omega)
  have cc : (nI c).toNatClampNeg = c := nI_clamp (by omega)
  have h243 : wL_law_243 post N0 xs J54 J63 (nI A) (nI M) (nI (q + 1)) x5 x7 x9 (nI rd) (nI i) (nI c) (nI kk) (nI l) (nI r) kc ks (nI 8) (nI M) (nI A) 0 0 0 kd' lf' rg' ls' tok st ta := by
    unfold wL_law_243 wpX_right
    dsimp only
    rw [cc]
    refine pk_lt kk 3 (fun _ => last) (fun z => xq_yes (by omega) hc (br_f (by decide) ⟨hi, ?_⟩))
    rw [(h4 z).2.2]
    exact br_t rfl last
  unfold wpX_kind wpX_left
  dsimp only
  rw [cc, h5]
  refine br_t rfl (xq_yes (by omega) hc (br_f (by decide) ⟨hi, br_t rfl (pk_lt kk 2 (fun _ => h243) (fun z => xq_yes (by omega) hc (br_f (by decide) ⟨hi, ?_⟩)))⟩))
  rw [h3 z]
  exact br_t rfl h243
theorem ll_110 (hN : N0 ≤ 260) (hA2 : 0 < A) (hA8 : A ≤ 4) (G : ll_G A K L R D kd lf rg ls x5 x7 x9) {c q i rd : Nat} (hq : q < 9000) (hc : c < 8) (post : Int32 → Prop) (J54 J63 : Int32 → Int64 → Int64 → Int64 → Int32 → Int32 → Int32 → Int32 → Int32 → Int32 → Int32 → (Nat → Int32) → (Nat → Int32) → (Nat → Int32) → (Nat → Int32) → (Nat → Int32) → (Nat → Int32) → (Nat → Int32) → Prop) (hJ : ll_J M A J63 (q + 3) (i + 1)) :
    wL_law_110 post N0 xs J54 J63 (nI A) (nI M) (nI q) x5 x7 x9 (nI rd) (nI i) (nI c) kc ks (nI 8) (nI M) (nI A) 0 0 0 kd lf rg ls tok st ta := by
  unfold wL_law_110
  refine nm_r (nI_1 q) (lc_any hN xs (by omega) (fun y => lc_kind hc _ (fun kk hk => nm_r (nI_1 (q + 1)) (lc_any hN xs (by omega) (fun y2 => nm_e ?_)))))
  refine pk_eq kk 2 (fun e => lc_mod _ hA2 (by omega) (fun l hl => ll_169 hN hA8 G (by omega) hc hk (by omega) (fun _ => hl) post J54 J63 hJ)) (fun e => ?_)
  obtain ⟨l, hl, el⟩ := lc_and7 (((y2 + nI rd) + nI c) + 7)
  rw [el]
  exact ll_169 hN hA8 G (by omega) hc hk hl (fun z => absurd z e) post J54 J63 hJ
theorem ll_76 (hN : N0 ≤ 260) (hM : M ≤ 12) (hM0 : 0 < M) (hA2 : 0 < A) (hA8 : A ≤ 4) (G : ll_G A K L R D kd lf rg ls x5 x7 x9) {q i rd lim : Nat} (hrd : rd < 3) (hlim : lim ≤ 8) (hi : i ≤ lim) (hq : q ≤ 2 + 100 * rd + 4 * i) (post : Int32 → Prop) (J54 J63 : Int32 → Int64 → Int64 → Int64 → Int32 → Int32 → Int32 → Int32 → Int32 → Int32 → Int32 → (Nat → Int32) → (Nat → Int32) → (Nat → Int32) → (Nat → Int32) → (Nat → Int32) → (Nat → Int32) → (Nat → Int32) → Prop)
    (hC : ∀ q, q ≤ 2 + 100 * (rd + 1) → ll_J M A J54 q (rd + 1)) (hJ : i < lim → ll_J M A J63 (q + 3) (i + 1) ∧ ll_J M A J63 (q + 4) (i + 1)) :
    wL_law_76 post N0 xs J54 J63 (nI A) (nI M) (nI q) x5 x7 x9 (nI rd) (nI i) (nI lim) (nI i) kc ks (nI 8) (nI M) (nI A) 0 0 0 kd lf rg ls tok st ta := by
  unfold wL_law_76
  refine pk_le lim i (fun _ => nm_r (nI_1 q) (lc_any hN xs (by omega) (fun y => lc_mod _ (d := 6) (by omega) (by omega) (fun r hr => nm_r (pk_sub (a := 7) (b := r) (by omega)) ?_)))) (fun h => ?_)
  · refine pm_open G.1 G.2.1 G.2.2.1 (by omega) _ (fun st x hS hx => ⟨13, ?_⟩)
    exact ll_367 hN G (by omega) hM hM0 hA2 hA8 (Q := q + 1) (by omega) post J54 (fun q' tok st ta hq' => hC q' (by omega) K L R D kd lf rg ls tok st ta x5 x7 x9 G) 13 0 (q + 1) 0 0 tok st ta x (by omega) (by omega) (by omega) (by omega) ⟨hS, nb_w0 tok, hx⟩
  · refine br_c (fun _ => ll_110 hN hA2 hA8 G (by omega) (by omega) post J54 J63 (hJ h).1) (fun _ => nm_r (nI_1 q) (lc_any hN xs (by omega) (fun y => ?_)))
    obtain ⟨c, hc, ec⟩ := lc_and7 ((y + (5 * nI rd)) + (3 * nI i))
    rw [ec]
    exact ll_110 hN hA2 hA8 G (by omega) hc post J54 J63 (hJ h).2
theorem ll_63 (hN : N0 ≤ 260) (hM : M ≤ 12) (hM0 : 0 < M) (hA2 : 0 < A) (hA8 : A ≤ 4) {rd : Nat} (hrd : rd < 3) (post : Int32 → Prop) (J54 : Int32 → Int64 → Int64 → Int64 → Int32 → Int32 → Int32 → Int32 → Int32 → Int32 → Int32 → (Nat → Int32) → (Nat → Int32) → (Nat → Int32) → (Nat → Int32) → (Nat → Int32) → (Nat → Int32) → (Nat → Int32) → Prop) (hC : ∀ q, q ≤ 2 + 100 * (rd + 1) → ll_J M A J54 q (rd + 1)) :
    ∀ f i q (K L R D : Nat → Nat) (kd lf rg ls tok st ta : Nat → Int32) (x5 x7 x9 : Int64), i ≤ (if rd = 0 then 8 else 2) → (if rd = 0 then 8 else 2) - i < f → q ≤ 2 + 100 * rd + 4 * i → ll_G A K L R D kd lf rg ls x5 x7 x9 →
      wL_law_63 post N0 xs J54 (nI A) (nI M) (nI rd) kc ks f (nI q) x5 x7 x9 (nI i) (nI 8) (nI M) (nI A) 0 0 0 kd lf rg ls tok st ta := by
  intro f
  induction f with
  | zero => intro i q K L R D kd lf rg ls tok st ta x5 x7 x9 _ h; omega
  | succ f ih =>
    intro i q K L R D kd lf rg ls tok st ta x5 x7 x9 hi hf hq G
    by_cases z : rd = 0
    · rw [if_pos z] at hi hf ih
      subst z
      refine br_t rfl (ll_76 (lim := 8) hN hM hM0 hA2 hA8 G (by omega) (by omega) hi hq post J54 _ hC (fun h => ⟨?_, ?_⟩))
      · exact fun K L R D kd lf rg ls tok st ta x5 x7 x9 G => ih (i + 1) (q + 3) K L R D kd lf rg ls tok st ta x5 x7 x9 (by omega) (by omega) (by omega) G
      · exact fun K L R D kd lf rg ls tok st ta x5 x7 x9 G => ih (i + 1) (q + 4) K L R D kd lf rg ls tok st ta x5 x7 x9 (by omega) (by omega) (by omega) G
    · rw [if_neg z] at hi hf ih
      refine br_f (nI_ne0 (by omega) (by omega)) (ll_76 (lim := 2) hN hM hM0 hA2 hA8 G hrd (by omega) hi hq post J54 _ hC (fun h => ⟨?_, ?_⟩))
      · exact fun K L R D kd lf rg ls tok st ta x5 x7 x9 G => ih (i + 1) (q + 3) K L R D kd lf rg ls tok st ta x5 x7 x9 (by omega) (by omega) (by omega) G
      · exact fun K L R D kd lf rg ls tok st ta x5 x7 x9 G => ih (i + 1) (q + 4) K L R D kd lf rg ls tok st ta x5 x7 x9 (by omega) (by omega) (by omega) G
theorem ll_54 (hN : N0 ≤ 260) (hM : M ≤ 12) (hM0 : 0 < M) (hA2 : 0 < A) (hA8 : A ≤ 4) (post : Int32 → Prop) (hp : post 1) :
    ∀ f rd q (K L R D : Nat → Nat) (kd lf rg ls tok st ta : Nat → Int32) (x5 x7 x9 : Int64), rd ≤ 3 → 3 - rd < f → q ≤ 2 + 100 * rd → ll_G A K L R D kd lf rg ls x5 x7 x9 →
      wL_law_54 post N0 xs (nI A) (nI M) kc ks f (nI q) x5 x7 x9 (nI rd) (nI 8) (nI M) (nI A) 0 0 0 kd lf rg ls tok st ta := by
  intro f
  induction f with
  | zero => intro rd q K L R D kd lf rg ls tok st ta x5 x7 x9 _ h; omega
  | succ f ih =>
    intro rd q K L R D kd lf rg ls tok st ta x5 x7 x9 hrd hf hq G
    refine pk_le 3 rd (fun _ => hp) (fun h => ⟨9, ?_⟩)
    refine ll_63 hN hM hM0 hA2 hA8 h post _ (fun q hq => ?_) 9 0 q K L R D kd lf rg ls tok st ta x5 x7 x9 (Nat.zero_le _) (by by_cases z : rd = 0 <;> simp [z]) (by omega) G
    exact fun K L R D kd lf rg ls tok st ta x5 x7 x9 G => ih (rd + 1) q K L R D kd lf rg ls tok st ta x5 x7 x9 (by omega) (by omega) (by omega) G
theorem xi_keep {v lo hi : Nat} (h1 : lo ≤ v) (h2 : v ≤ hi) (hh : hi < 2 ^ 31) {post : Int32 → Prop} (h : post (nI v)) : wpX_clamp post () (nI v) (nI lo) (nI hi) :=
  br_t (nI_le h1 (by omega)) (br_t (nI_le h2 hh) h)
end
theorem i_vc (xs : Nat → Int32) (L : Nat) (hL : L ≤ 260) : wpL_law (fun r => r = 1) L xs := by
  unfold wpL_law
  refine lc_any hL xs (q := 0) (by omega) (fun y => lc_mod _ (d := 3) (by omega) (by omega) (fun j hj => nm_r (nI_add 2 j) ?_))
  refine lc_any hL xs (q := 1) (by omega) (fun y2 => lc_mod _ (d := 9) (by omega) (by omega) (fun j2 hj2 => nm_r (nI_add 4 j2) ⟨7, 470, by omega, by omega, ?_⟩))
  have G : gx_ok 8 (fun _ => 0) (fun _ => 0) (fun _ => 0) (fun _ => 0) (fun _ => 0) (fun _ => 0) :=
    ⟨by omega, fun c _ => ⟨rfl, Nat.zero_le _, fun h => absurd (show (0 : Nat) = 3 ∨ (0 : Nat) = 4 from h) (by decide)⟩⟩
  unfold wpX_init
  dsimp only
  refine ⟨by omega, by omega, by omega, by omega, by omega, by omega, by omega, by omega, by omega, by omega, by omega, by omega, by omega, by omega, ?_⟩
  refine xi_keep (v := 8) (lo := 4) (hi := 16) (by omega) (by omega) (by omega) (xi_keep (lo := 4) (hi := 12) (by omega) (by omega) (by omega) (xi_keep (lo := 2) (hi := 8) (by omega) (by omega) (by omega) (xc_all G _ (fun ls D GD hV => ⟨4, ?_⟩))))
  refine ll_54 (M := 4 + j2) (A := 2 + j) hL (by omega) (by omega) (by omega) (by omega) (fun r => r = 1) rfl 4 0 2 (fun _ => 0) (fun _ => 0) (fun _ => 0) D (fun _ => 0) (fun _ => 0) (fun _ => 0) ls (fun _ => 0) (fun _ => 0) (fun _ => 0) 0 0 0 (by omega) (by omega) (by omega) ⟨G, GD, hV, fun c _ h => absurd (show (0 : Nat) = 2 from h) (by decide), fun c hc => ?_⟩
  exact ⟨nb_0 c, Nat.zero_le _, ⟨0, by omega, nb_0 c, fun h => absurd (show (0 : Nat) = 2 from h) (by decide), fun _ => rfl⟩, ⟨0, by omega, nb_0 c, fun _ => rfl⟩⟩
