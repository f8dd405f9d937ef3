/-! THE CLASS: setCount -/
def dsR (H : hc_H) (a n : Nat) (fq : Nat → Option Nat) (FA : Nat → fc_) : Prop := prR H a n fq ∧ dj_ fq ∧ ∀ f q, f < 12 → fq f = some q → fnR H q (FA f) ∧ q + 12 ≤ H.1
def cn_ (fq : Nat → Option Nat) : Nat := ct_ (fun f => decide (fq f = none)) 12
/-- behind setCount of the program at a: its row of functions, its number, and new cells alone have changed -/
def fsc_ (a : Nat) (H H' : hc_H) : Prop := H.1 ≤ H'.1 ∧ (∀ k x, 4 ≤ k ∨ x < H.1 → H'.2.1 k x = H.2.1 k x) ∧ (∀ k x, (k ≠ 8 ∧ k ≠ 9) ∨ (k = 9 ∧ x < H.1) ∨ (k = 8 ∧ x ≠ a + 1) → H'.2.2.1 k x = H.2.2.1 k x) ∧ ∀ k x, (k ≠ 3 ∧ k ≠ 4 ∧ k ≠ 5) ∨ (k ≠ 5 ∧ x < H.1) ∨ (k = 5 ∧ x ≠ a) → H'.2.2.2 k x = H.2.2.2 k x
theorem fsc_rfl (a : Nat) (H : hc_H) : fsc_ a H H := ⟨Nat.le_refl _, fun _ _ _ => rfl, fun _ _ _ => rfl, fun _ _ _ => rfl⟩
theorem fsc_tr {a : Nat} {H H1 H2 : hc_H} (h1 : fsc_ a H H1) (h2 : fsc_ a H1 H2) : fsc_ a H H2 := by
  have l := h1.1
  refine ⟨Nat.le_trans h1.1 h2.1, fun k x c => (h2.2.1 k x ?_).trans (h1.2.1 k x c), fun k x c => (h2.2.2.1 k x ?_).trans (h1.2.2.1 k x c), fun k x c => (h2.2.2.2 k x ?_).trans (h1.2.2.2 k x c)⟩
  · rcases c with c | c
    · exact Or.inl c
    · exact Or.inr (by omega)
  · rcases c with c | c | c
    · exact Or.inl c
    · exact Or.inr (Or.inl ⟨c.1, by omega⟩)
    · exact Or.inr (Or.inr c)
  · rcases c with c | c | c
    · exact Or.inl c
    · exact Or.inr (Or.inl ⟨c.1, by omega⟩)
    · exact Or.inr (Or.inr c)
theorem fnR_fn {g : hc_H} {q q' : Nat} {F F' : fc_} (R : fnR g q' F') (hd : q + 12 ≤ q' ∨ q' + 12 ≤ q) : fnR (fn_em g q F) q' F' := by
  refine ⟨?_, fun k hk => ?_, ?_, fun k hk => ?_⟩
  · simp only [fn_em]
    rw [if_neg (by omega), if_neg (by omega)]; exact R.1
  · simp only [fn_em]
    rw [if_neg (by omega)]; exact R.2.1 k hk
  · simp only [fn_em]
    rw [if_neg (by omega)]; exact R.2.2.1
  · simp only [fn_em]
    rw [if_neg (show ¬ ((4 : Nat) = 3 ∧ q' + 6 + k = q) by omega), if_neg (by omega)]; exact R.2.2.2 k hk
theorem up_q3 (h : hc_H) (a k b : Nat) (o : Nat × Nat × (Nat → Option Nat)) : (hc_up h a (.inr (.inl o))).2.2.1 k b = if k = o.1 ∧ b = a then some o.2 else h.2.2.1 k b := (Eq.refl _).trans (Eq.refl _)
theorem fnR_upq {g : hc_H} {q : Nat} {F : fc_} (R : fnR g q F) (a n : Nat) (x : Nat → Option Nat) : fnR (hc_up g a (.inr (.inl (8, n, x)))) q F := by
  refine ⟨R.1, R.2.1, ?_, R.2.2.2⟩
  rw [up_q3, if_neg (fun z => by cases z.1)]; exact R.2.2.1
theorem fnR_upo {g : hc_H} {q : Nat} {F : fc_} (R : fnR g q F) (a k : Nat) (hk : k ≠ 3 ∧ k ≠ 4) (x : List lc_V) : fnR (hc_up g a (.inr (.inr (k, x)))) q F := by
  refine ⟨?_, R.2.1, R.2.2.1, fun j hj => ?_⟩
  · rw [up_o4, if_neg (fun z => hk.1 z.1.symm)]; exact R.1
  · rw [up_o4, if_neg (fun z => hk.2 z.1.symm)]; exact R.2.2.2 j hj
theorem ds_new {H : hc_H} {a n : Nat} {fq : Nat → Option Nat} {FA : Nat → fc_} (D : dsR H a n fq FA) {f : Nat} (hf : f < 12) : dsR (hc_up (fn_em (H.1 + 12, H.2) H.1 F0_) (a + 1) (.inr (.inl (8, 12, va_up fq f (some H.1))))) a n (va_up fq f (some H.1)) (va_up FA f F0_) ∧ fsc_ a H (hc_up (fn_em (H.1 + 12, H.2) H.1 F0_) (a + 1) (.inr (.inl (8, 12, va_up fq f (some H.1))))) := by
  obtain ⟨D1, D2, D3⟩ := D
  refine ⟨⟨⟨?_, ?_⟩, fun i j q q' hi hj hne e1 e2 => ?_, fun i q hi e => ?_⟩, ?_, fun k x c => ?_, fun k x c => ?_, fun k x c => ?_⟩
  · show (fn_em (H.1 + 12, H.2) H.1 F0_).2.2.2 5 a = _
    simp only [fn_em]
    rw [if_neg (by omega), if_neg (by omega)]; exact D1.1
  · show (if 8 = 8 ∧ a + 1 = a + 1 then _ else _) = _
    rw [if_pos ⟨rfl, rfl⟩]
  · simp only [va_up] at e1 e2
    split at e1
    · next c1 =>
      cases e1
      split at e2
      · next c2 => exact absurd (c1.trans c2.symm) hne
      · exact Or.inr (D3 j q' hj e2).2
    · split at e2
      · cases e2
        exact Or.inl (D3 i q hi e1).2
      · exact D2 i j q q' hi hj hne e1 e2
  · by_cases c : i = f
    · subst c
      rw [va_up_self] at e ⊢
      cases e
      exact ⟨fnR_upq (fn_em_R _ _ _) _ _ _, Nat.le_refl _⟩
    · rw [va_up_ne _ _ c] at e ⊢
      obtain ⟨r1, r2⟩ := D3 i q hi e
      refine ⟨fnR_upq (fnR_fn (g := (H.1 + 12, H.2)) r1 (Or.inr r2)) _ _ _, ?_⟩
      show q + 12 ≤ H.1 + 12
      omega
  · show H.1 ≤ H.1 + 12
    omega
  · show (fn_em (H.1 + 12, H.2) H.1 F0_).2.1 k x = _
    simp only [fn_em]
    rw [if_neg (by omega)]
  · show (if k = 8 ∧ x = a + 1 then _ else (fn_em (H.1 + 12, H.2) H.1 F0_).2.2.1 k x) = _
    rw [if_neg (by omega)]
    simp only [fn_em]
    rw [if_neg (by omega)]
  · show (fn_em (H.1 + 12, H.2) H.1 F0_).2.2.2 k x = _
    simp only [fn_em]
    rw [if_neg (by omega), if_neg (by omega)]
theorem s_setCount_2 (a n k : Nat) (hk : k ≤ 12) (kx : hM Unit) : ∀ (r fu : Nat) (H : hc_H) (fq : Nat → Option Nat) (FA : Nat → fc_), r ≤ k → r < fu → dsR H a n fq FA → (∀ f, f < k - r → ∃ q, fq f = some q) → ∃ C S H' fq' FA', p_Program_setCount_2 (some a) (nI k) kx fu (nI (k - r)) H = hm_tk C S (kx H') ∧ dsR H' a n fq' FA' ∧ (∀ f, f < k → ∃ q, fq' f = some q) ∧ (∀ f q, f < 12 → fq f = some q → fq' f = some q ∧ FA' f = FA f) ∧ (∀ f q, f < 12 → fq' f = some q → fq f = some q ∨ H.1 ≤ q) ∧ fsc_ a H H' ∧ C + 1659 * cn_ fq' ≤ 1659 * cn_ fq ∧ S + 1659 * cn_ fq' ≤ 1659 * cn_ fq := by
  intro r
  induction r with
  | zero =>
    intro fu H fq FA _ hfu D hs
    obtain ⟨u, rfl⟩ : ∃ u, fu = u + 1 := ⟨fu - 1, by omega⟩
    refine ⟨0, 0, H, fq, FA, ?_, D, fun f hf => hs f (by omega), fun f q _ e => ⟨e, rfl⟩, fun f q _ e => Or.inl e, fsc_rfl _ _, by omega, by omega⟩
    rw [p_Program_setCount_2, ev_ite, if_pos (nI_le (by omega) (by omega)), hm_tk_0]
  | succ r ih =>
    intro fu H fq FA hr hfu D hs
    obtain ⟨u, rfl⟩ : ∃ u, fu = u + 1 := ⟨fu - 1, by omega⟩
    have hf12 : k - (r + 1) < 12 := by omega
    have head : p_Program_setCount_2 (some a) (nI k) kx (u + 1) (nI (k - (r + 1))) H = if fq (k - (r + 1)) = none then (hm_bind (hm_getr 5 0 (some a)) fun a3 => hm_bind (hm_new 3 11 [vi_ 0, vi_ 0, vi_ 0, vi_ 0, vi_ 0, vi_ 0, vr_ none, vr_ none, vr_ none, vr_ none, vr_ none]) fun q4 => hm_bind (p_Function_init (some q4)) fun _ => hm_bind (hm_qst 8 3 a3 (nI (k - (r + 1))) (some q4)) fun _ => p_Program_setCount_2 (some a) (nI k) kx u (nI (k - r))) H else p_Program_setCount_2 (some a) (nI k) kx u (nI (k - r)) H := by
      rw [p_Program_setCount_2, ev_ite, if_neg (nI_ge (by omega) (by omega)), pr_ref0 D.1, pr_qld D.1 _ hf12]
      simp only [hm_jn]
      rw [ev_ite, nI_1, show k - (r + 1) + 1 = k - r by omega]
    rw [head]
    cases efq : fq (k - (r + 1)) with
    | some q =>
      rw [if_neg (by intro z; cases z)]
      exact ih u H fq FA (by omega) (by omega) D (fun f hf => by
        by_cases c : f = k - (r + 1)
        · exact ⟨q, by rw [c]; exact efq⟩
        · exact hs f (by omega))
    | none =>
      rw [if_pos rfl, pr_ref0 D.1, s_newF]
      have D' := D
      obtain ⟨N1, N2⟩ := ds_new D hf12
      have g8 : (fn_em (H.1 + 12, H.2) H.1 F0_).2.2.1 8 (a + 1) = some (12, fq) := by
        simp only [fn_em]
        rw [if_neg (by omega)]; exact D.1.2
      rw [bd_qst g8 hf12 (by omega) (fn_em_R _ _ _).1]
      obtain ⟨C, S, H', fq', FA', c1, c2, c3, c4, c5, c6, c7, c8⟩ := ih u _ _ _ (by omega) (by omega) N1 (fun f hf => by
        by_cases c : f = k - (r + 1)
        · exact ⟨H.1, by rw [c]; exact va_up_self _ _ _⟩
        · rw [va_up_ne _ _ c]; exact hs f (by omega))
      have cnt : cn_ fq = cn_ (va_up fq (k - (r + 1)) (some H.1)) + 1 := by
        refine ct_off 12 hf12 (fun j _ hne => ?_) ?_ ?_
        · simp only [va_up_ne _ _ hne]
        · simp [efq]
        · simp [va_up_self]
      refine ⟨12 + C, 1647 + S, H', fq', FA', by rw [c1, hm_tk_tk], c2, c3, fun f q hf e => ?_, fun f q hf e => ?_, fsc_tr N2 c6, by omega, by omega⟩
      · have hne : f ≠ k - (r + 1) := by
          intro z; rw [z, efq] at e; cases e
        obtain ⟨d1, d2⟩ := c4 f q hf (by rw [va_up_ne _ _ hne]; exact e)
        exact ⟨d1, by rw [d2, va_up_ne _ _ hne]⟩
      · rcases c5 f q hf e with z | z
        · by_cases c : f = k - (r + 1)
          · rw [c, va_up_self] at z
            cases z
            exact Or.inr (Nat.le_refl _)
          · rw [va_up_ne _ _ c] at z
            exact Or.inl z
        · exact Or.inr (Nat.le_trans N2.1 z)
theorem s_setCount {H : hc_H} {a n : Nat} {fq : Nat → Option Nat} {FA : Nat → fc_} (D : dsR H a n fq FA) {k : Nat} (hk : k ≤ 12) : ∃ C S H' fq' FA', p_Program_setCount (some a) (nI k) H = some ((), C, S, H') ∧ dsR H' a k fq' FA' ∧ (∀ f, f < k → ∃ q, fq' f = some q) ∧ (∀ f q, f < 12 → fq f = some q → fq' f = some q ∧ FA' f = FA f) ∧ (∀ f q, f < 12 → fq' f = some q → fq f = some q ∨ H.1 ≤ q) ∧ fsc_ a H H' ∧ C + 1659 * cn_ fq' ≤ 1659 * cn_ fq ∧ S + 1659 * cn_ fq' ≤ 1659 * cn_ fq := by
  obtain ⟨C, S, H1, fq', FA', c1, c2, c3, c4, c5, c6, c7, c8⟩ := s_setCount_2 a n k hk (hm_bind (hm_puti 5 1 (some a) (nI k)) fun _ => hm_ret ()) k hm_fuel H fq FA (Nat.le_refl _) (by unfold hm_fuel; omega) D (fun f hf => by omega)
  rw [Nat.sub_self] at c1
  have e1 : (hm_bind (hm_puti 5 1 (some a) (nI k)) fun _ => hm_ret ()) H1 = some ((), 0, 0, hc_up H1 a (.inr (.inr (5, [vr_ (some (a + 1)), vi_ (nI k)])))) := by
    rw [bd_puti, c2.1.1]
    dsimp only
    rw [if_pos (show 1 < [vr_ (some (a + 1)), vi_ (nI n)].length from Nat.le_of_ble_eq_true rfl), ev_ret]
    rfl
  refine ⟨C, S, hc_up H1 a (.inr (.inr (5, [vr_ (some (a + 1)), vi_ (nI k)]))), fq', FA', ?_, ⟨⟨?_, c2.1.2⟩, c2.2.1, fun f q hf e => ?_⟩, c3, c4, c5, ?_, c7, c8⟩
  · refine Eq.trans c1 ?_
    rw [e1, hm_tk_some, Nat.add_zero, Nat.add_zero]
  · rw [up_o4, if_pos ⟨rfl, rfl⟩]
  · obtain ⟨r1, r2⟩ := c2.2.2 f q hf e
    exact ⟨fnR_upo r1 a 5 (by decide) _, r2⟩
  · refine fsc_tr c6 ⟨Nat.le_refl _, fun _ _ _ => rfl, fun _ _ _ => rfl, fun k' x c => ?_⟩
    rw [up_o4, if_neg]
    rintro ⟨z1, z2⟩
    have z1 : k' = 5 := z1
    omega
