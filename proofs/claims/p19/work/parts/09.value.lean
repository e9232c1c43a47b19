/-! the value of an input, and of an input with one more token -/
section
variable {C : Nat} {K L R : Nat → Nat} {lf w : Nat → Int32}
noncomputable def la_m (C : Nat) (K L R : Nat → Nat) (lf w : Nat → Int32) (n i c : Nat) : Nat :=
  fx_F 16777216 (fun _ _ x => ∃ q : List Int32, q.length = x ∧ la_In C K L R lf c (wd_s w i (n - i) ++ q)) (fun _ => 0) 0
theorem la_m_B (n i c : Nat) : la_m C K L R lf w n i c ≤ 16777216 := fx_F_B _ _
theorem la_m_le {n i c : Nat} {q : List Int32} (h : la_In C K L R lf c (wd_s w i (n - i) ++ q)) : la_m C K L R lf w n i c ≤ q.length :=
  fx_F_le (Of := fun _ _ x => ∃ q : List Int32, q.length = x ∧ la_In C K L R lf c (wd_s w i (n - i) ++ q)) (s := fun _ => 0) (v := 0) ⟨q, rfl, h⟩
theorem la_m_of {n i c : Nat} (h : la_m C K L R lf w n i c < 16777216) : ∃ q : List Int32, q.length = la_m C K L R lf w n i c ∧ la_In C K L R lf c (wd_s w i (n - i) ++ q) :=
  fx_F_of (Of := fun _ _ x => ∃ q : List Int32, q.length = x ∧ la_In C K L R lf c (wd_s w i (n - i) ++ q)) (s := fun _ => 0) (v := 0) h
/-- an offer made of others' values with words is no less -/
theorem la_m_1 {n i c j d x : Nat} (hx : x = la_m C K L R lf w n j d) (h : ∀ q, la_In C K L R lf d (wd_s w j (n - j) ++ q) → la_In C K L R lf c (wd_s w i (n - i) ++ q)) : la_m C K L R lf w n i c ≤ x := by
  by_cases z : la_m C K L R lf w n j d < 16777216
  · obtain ⟨q, e, o⟩ := la_m_of z
    have := la_m_le (h q o)
    omega
  · have := la_m_B (C := C) (K := K) (L := L) (R := R) (lf := lf) (w := w) n i c
    omega
theorem la_dn {D : Nat → Nat} {T : Nat → Nat → Nat} {n : Nat} (wf : gr_wf C K L R) (G : fx_Good C 16777216 (of_L K L R) D)
    (h0 : ∀ c, c < C → T n c = D c) (hT : ∀ i, i < n → fx_Good C 16777216 (of_T K L R (fun i c => w i = lf c) (gr_Sp C K L R (fun i c => w i = lf c)) D T i n) (T i)) :
    ∀ d i, i + d = n → ∀ c, c < C → la_m C K L R lf w n i c ≤ T i c := by
  have two : ∀ i c, i ≤ n → c < C → K c = 4 → la_m C K L R lf w n i c ≤ la_m C K L R lf w n i (L c) + la_m C K L R lf w n n (R c) := by
    intro i c hi hc k
    have b := la_m_B (C := C) (K := K) (L := L) (R := R) (lf := lf) (w := w) n i c
    by_cases z1 : la_m C K L R lf w n i (L c) < 16777216
    · by_cases z2 : la_m C K L R lf w n n (R c) < 16777216
      · obtain ⟨q1, e1, o1⟩ := la_m_of z1
        obtain ⟨q2, e2, o2⟩ := la_m_of z2
        rw [Nat.sub_self] at o2
        have := la_m_le (C := C) (K := K) (L := L) (R := R) (lf := lf) (w := w) (n := n) (i := i) (c := c) (q := q1 ++ q2) (la_in c _ hc (Or.inr (Or.inr (Or.inr ⟨k, wd_s w i (n - i) ++ q1, q2, by rw [List.append_assoc], o1, o2⟩))))
        rw [List.length_append] at this
        omega
      · omega
    · omega
  have row : ∀ c, c < C → la_m C K L R lf w n n c ≤ T n c := by
    intro c hc
    rw [h0 c hc]
    refine G.2.2.1 (fun c => la_m C K L R lf w n n c) (fun c hc => ⟨la_m_B n n c, fun x hx => ?_⟩) c hc
    show la_m C K L R lf w n n c ≤ x
    rcases hx with ⟨k, hx⟩ | ⟨k, hx⟩ | ⟨k, hx | hx⟩ | ⟨k, hx⟩
    · have := la_m_le (C := C) (K := K) (L := L) (R := R) (lf := lf) (w := w) (n := n) (i := n) (c := c) (q := []) (by rw [Nat.sub_self]; exact la_in c _ hc (Or.inl ⟨k, rfl⟩))
      have : ([] : List Int32).length = 0 := rfl
      omega
    · have := la_m_le (C := C) (K := K) (L := L) (R := R) (lf := lf) (w := w) (n := n) (i := n) (c := c) (q := [lf c]) (by rw [Nat.sub_self]; exact la_in c _ hc (Or.inr (Or.inl ⟨k, rfl⟩)))
      have : [lf c].length = 1 := rfl
      omega
    · exact la_m_1 hx (fun q o => la_in c _ hc (Or.inr (Or.inr (Or.inl ⟨k, Or.inl o⟩))))
    · exact la_m_1 hx (fun q o => la_in c _ hc (Or.inr (Or.inr (Or.inl ⟨k, Or.inr o⟩))))
    · rw [hx]
      exact two n c (Nat.le_refl _) hc k
  intro d
  induction d using Nat.strongRecOn with
  | ind d ih =>
    intro i hd c hc
    by_cases e : d = 0
    · have e2 : i = n := by omega
      rw [e2]
      exact row c hc
    · refine (hT i (by omega)).2.2.1 (fun c => la_m C K L R lf w n i c) (fun c hc => ⟨la_m_B n i c, fun x hx => ?_⟩) c hc
      show la_m C K L R lf w n i c ≤ x
      rcases hx with ⟨k, h1, h2, hx⟩ | ⟨k, hx | hx⟩ | ⟨k, hx | ⟨h1, hx⟩ | ⟨m, h1, h2, h3, hx⟩⟩
      · have := la_m_le (C := C) (K := K) (L := L) (R := R) (lf := lf) (w := w) (n := n) (i := i) (c := c) (q := []) (by
          rw [show n - i = 1 from by omega]
          refine la_in c _ hc (Or.inr (Or.inl ⟨k, ?_⟩))
          show [w i] ++ [] = [lf c]
          rw [h2]; rfl)
        have : ([] : List Int32).length = 0 := rfl
        omega
      · exact la_m_1 hx (fun q o => la_in c _ hc (Or.inr (Or.inr (Or.inl ⟨k, Or.inl o⟩))))
      · exact la_m_1 hx (fun q o => la_in c _ hc (Or.inr (Or.inr (Or.inl ⟨k, Or.inr o⟩))))
      · have a := two i c (by omega) hc k
        have b := row (R c) (wf c hc (Or.inr k)).2
        rw [h0 _ (wf c hc (Or.inr k)).2] at b
        have hx' : x = la_m C K L R lf w n i (L c) + D (R c) := hx
        omega
      · have o1 := la_sp h1
        rw [Nat.sub_self] at o1
        exact la_m_1 hx (fun q o => la_in c _ hc (Or.inr (Or.inr (Or.inr ⟨k, [], _, rfl, o1, o⟩))))
      · have o1 := la_sp h3
        have b := ih (n - m) (by omega) m (by omega) (R c) (wf c hc (Or.inr k)).2
        have a : la_m C K L R lf w n i c ≤ la_m C K L R lf w n m (R c) := la_m_1 rfl (fun q o => la_in c _ hc (Or.inr (Or.inr (Or.inr ⟨k, _, _, by
          rw [← List.append_assoc]
          have := wd_add w (m - i) i (n - m)
          rw [show m - i + (n - m) = n - i from by omega, show i + (m - i) = m from by omega] at this
          rw [← this], o1, o⟩))))
        omega
theorem la_val {D : Nat → Nat} {T : Nat → Nat → Nat} {n : Nat} (hC : C = 8) (hn : n ≤ 13) (wf : gr_wf C K L R) (G : fx_Good C 16777216 (of_L K L R) D)
    (h0 : ∀ c, c < C → T n c = D c) (hT : ∀ i, i < n → fx_Good C 16777216 (of_T K L R (fun i c => w i = lf c) (gr_Sp C K L R (fun i c => w i = lf c)) D T i n) (T i))
    {c : Nat} (hc : c < C) : la_V C K L R lf w n c (T 0 c) := by
  have bB : T 0 c ≤ 16777216 := by
    by_cases e : n = 0
    · rw [← e, h0 c hc]; exact G.1 c hc
    · exact (hT 0 (by omega)).1 c hc
  refine ⟨bB, fun h => ?_, fun q o => la_up hC hn wf G h0 hT hc o 0 q (Nat.zero_le _) rfl⟩
  have a := la_dn wf G h0 hT n 0 (by omega) c hc
  obtain ⟨q, e, o⟩ := la_m_of (C := C) (K := K) (L := L) (R := R) (lf := lf) (w := w) (n := n) (i := 0) (c := c) (by omega)
  have b := la_up hC hn wf G h0 hT hc o 0 q (Nat.zero_le _) rfl
  exact ⟨q, by omega, o⟩
theorem la_next {n c x y : Nat} {t : Int32} (h : la_V C K L R lf w n c x) (g : la_V C K L R lf (upd w n t) (n + 1) c y) (hy : y < 16777216) : x ≤ y + 1 ∧ x < 16777216 := by
  obtain ⟨q, e, o⟩ := g.2.1 hy
  rw [wd_upd, List.append_assoc] at o
  have := h.2.2 _ o
  have e2 : ([t] ++ q).length = q.length + 1 := rfl
  omega
theorem la_some {A n c x : Nat} (hA : ∀ c, c < C → K c = 2 → ∃ a, a < A ∧ lf c = nI a) (h : la_V C K L R lf w n c x) (h1 : 0 < x) (h2 : x < 16777216) :
    ∃ a, a < A ∧ ∀ y, la_V C K L R lf (upd w n (nI a)) (n + 1) c y → y + 1 ≤ x := by
  obtain ⟨q, e, o⟩ := h.2.1 h2
  cases q with
  | nil =>
    have : ([] : List Int32).length = 0 := rfl
    omega
  | cons t q =>
    obtain ⟨a, ha, rfl⟩ := la_tok hA o t (List.mem_append.mpr (Or.inr (List.mem_cons_self ..)))
    refine ⟨a, ha, fun y g => ?_⟩
    have := g.2.2 q (by
      rw [wd_upd, List.append_assoc]
      exact o)
    have e2 : (nI a :: q).length = q.length + 1 := rfl
    omega
end
