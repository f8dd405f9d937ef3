/-! THE SPECIFICATION: heights stay within 0 .. 16, and each instruction waits once -/
theorem i_sub1 {q : sq_} {d : Nat} (hd : q.1 = nI d) (h0 : ¬ q.1 = 0) : ∃ e, e + 1 = d ∧ q.1 - 1 = nI e := by
  have : d ≠ 0 := fun z => h0 (by rw [hd, z]; rfl)
  exact ⟨d - 1, by omega, by rw [hd]; exact pk_sub (b := 1) (by omega)⟩
theorem tk_h {t : Int32} {q q' : sq_} {d : Nat} (hd : q.1 = nI d) (e : tk_ t q = some q') : ∃ d', d' + 1 = d ∧ q'.1 = nI d' := by
  obtain ⟨h0, -, rfl⟩ := tk_some e
  exact i_sub1 hd h0
theorem pt_h {t : Int32} {q : sq_} {d : Nat} (hd : q.1 = nI d) : (pt_ t q).1 = nI (d + 1) := by
  show q.1 + 1 = _
  rw [hd, nI_1]
theorem tki_h : ∀ (n : Nat) {q q' : sq_} {d : Nat}, q.1 = nI d → tki_ n q = some q' → ∃ d', d' + n = d ∧ q'.1 = nI d'
  | 0, q, q', d, hd, e => by cases e; exact ⟨d, rfl, hd⟩
  | n + 1, q, q', d, hd, e => by
    rw [tki_] at e
    cases e1 : tk_ 0 q with
    | none => rw [e1] at e; cases e
    | some q1 =>
      rw [e1] at e
      obtain ⟨d1, h1, h2⟩ := tk_h hd e1
      obtain ⟨d2, h3, h4⟩ := tki_h n h2 e
      exact ⟨d2, by omega, h4⟩
theorem tkc_h (bits : Int32) : ∀ (n : Nat) {q q' : sq_} {d : Nat}, q.1 = nI d → tkc_ bits n q = some q' → ∃ d', d' + n = d ∧ q'.1 = nI d'
  | 0, q, q', d, hd, e => by cases e; exact ⟨d, rfl, hd⟩
  | n + 1, q, q', d, hd, e => by
    rw [tkc_] at e
    cases e1 : tk_ ((bits >>> (nI n &&& 31)) &&& 1) q with
    | none => rw [e1] at e; cases e
    | some q1 =>
      rw [e1] at e
      obtain ⟨d1, h1, h2⟩ := tk_h hd e1
      obtain ⟨d2, h3, h4⟩ := tkc_h bits n h2 e
      exact ⟨d2, by omega, h4⟩
theorem pti_h : ∀ (n : Nat) {q : sq_} {d : Nat}, q.1 = nI d → (pti_ n q).1 = nI (d + n)
  | 0, _, _, hd => hd
  | n + 1, q, d, hd => by
    rw [pti_, pti_h n (pt_h hd)]
    congr 1
    omega
theorem om_some {α β : Type} {x : Option α} {f : α → β} {b : β} (e : x.map f = some b) : ∃ a, x = some a ∧ f a = b := by
  cases x with
  | none => cases e
  | some a => exact ⟨a, rfl, Option.some.inj e⟩
theorem ob_some {α β : Type} {x : Option α} {f : α → Option β} {b : β} (e : x.bind f = some b) : ∃ a, x = some a ∧ f a = some b := by
  cases x with
  | none => cases e
  | some a => exact ⟨a, rfl, e⟩
theorem mv_h {o v rb rs cp cb cr : Int32} {q q' : sq_} {d : Nat} (hd : q.1 = nI d) (h16 : d ≤ 16) (h26 : o = 26 ∨ o = 29 → (v - v / 4 * 4).toNatClampNeg < 1000) (e : mv_ o v rb rs cp cb cr q = some q') : ∃ d', d' < 3000 ∧ q'.1 = nI d' := by
  rw [mv_] at e
  by_cases k0 : o = 0
  · rw [if_pos k0] at e
    cases e; exact ⟨d + 1, by omega, pt_h hd⟩
  rw [if_neg k0] at e
  by_cases k1 : o = 1
  · rw [if_pos k1] at e
    obtain ⟨d', h1, h2⟩ := tk_h hd e; exact ⟨d', by omega, h2⟩
  rw [if_neg k1] at e
  by_cases k2 : o = 2
  · rw [if_pos k2] at e
    by_cases z : q.1 ≤ 0
    · rw [if_pos z] at e; cases e
    · rw [if_neg z] at e; cases e; exact ⟨d + 1, by omega, pt_h hd⟩
  rw [if_neg k2] at e
  by_cases k3 : o = 3
  · rw [if_pos k3] at e
    by_cases h1 : q.1 ≤ 1
    · rw [if_pos h1] at e; cases e
    · rw [if_neg h1] at e
      cases e
      have h2 : 2 ≤ d := by
        rw [hd] at h1
        rcases Nat.lt_or_ge d 2 with z | z
        · exact absurd (nI_le (a := d) (b := 1) (by omega) (by omega)) h1
        · exact z
      have e1 : (dr_ (dr_ q)).1 = nI (d - 2) := by
        show q.1 - 1 - 1 = _
        rw [hd, show nI d - 1 = nI (d - 1) from pk_sub (b := 1) (by omega), show nI (d - 1) - 1 = nI (d - 1 - 1) from pk_sub (b := 1) (by omega)]
        congr 1
      exact ⟨d - 2 + 1 + 1, by omega, pt_h (pt_h e1)⟩
  rw [if_neg k3] at e
  by_cases k4 : o = 4
  · rw [if_pos k4] at e
    cases e; exact ⟨d + 1, by omega, pt_h hd⟩
  rw [if_neg k4] at e
  by_cases k5 : o = 5
  · rw [if_pos k5] at e
    obtain ⟨d', h1, h2⟩ := tk_h hd e; exact ⟨d', by omega, h2⟩
  rw [if_neg k5] at e
  by_cases k6 : o ≤ 17
  · rw [if_pos k6] at e
    obtain ⟨q1, e1, rfl⟩ := om_some e
    obtain ⟨d', h1, h2⟩ := tki_h 2 hd e1
    exact ⟨d' + 1, by omega, pt_h h2⟩
  rw [if_neg k6] at e
  by_cases k7 : o = 19 ∨ o = 20 ∨ o = 28
  · rw [if_pos k7] at e
    obtain ⟨d', h1, h2⟩ := tk_h hd e; exact ⟨d', by omega, h2⟩
  rw [if_neg k7] at e
  by_cases k8 : o = 21
  · rw [if_pos k8] at e
    obtain ⟨q1, e1, rfl⟩ := om_some e
    obtain ⟨d', h1, h2⟩ := tk_h hd e1
    exact ⟨d' + 1, by omega, pt_h h2⟩
  rw [if_neg k8] at e
  by_cases k9 : o = 22
  · rw [if_pos k9] at e
    obtain ⟨q1, e1, rfl⟩ := om_some e
    obtain ⟨q2, e2, e3⟩ := ob_some e1
    obtain ⟨d', h1, h2⟩ := tk_h hd e2
    obtain ⟨d2, h3, h4⟩ := tk_h h2 e3
    exact ⟨d2 + 1, by omega, pt_h h4⟩
  rw [if_neg k9] at e
  by_cases k10 : o = 23
  · rw [if_pos k10] at e
    obtain ⟨q2, e2, e3⟩ := ob_some e
    obtain ⟨d', h1, h2⟩ := tki_h 2 hd e2
    obtain ⟨d2, h3, h4⟩ := tk_h h2 e3
    exact ⟨d2, by omega, h4⟩
  rw [if_neg k10] at e
  by_cases k11 : o = 24
  · rw [if_pos k11] at e
    obtain ⟨q1, e1, rfl⟩ := om_some e
    obtain ⟨d', h1, h2⟩ := tk_h hd e1
    exact ⟨d' + 1, by omega, pt_h h2⟩
  rw [if_neg k11] at e
  by_cases k12 : o = 25
  · rw [if_pos k12] at e
    obtain ⟨q1, e1, rfl⟩ := om_some e
    obtain ⟨d', h1, h2⟩ := tkc_h cb _ hd e1
    by_cases z : cr ≤ 0
    · rw [if_pos z]; exact ⟨d', by omega, h2⟩
    · rw [if_neg z]; exact ⟨d' + 1, by omega, pt_h h2⟩
  rw [if_neg k12] at e
  by_cases k13 : o = 26
  · rw [if_pos k13] at e
    obtain ⟨q1, e1, rfl⟩ := om_some e
    obtain ⟨d', h1, h2⟩ := tki_h _ hd e1
    exact ⟨d' + 1, by omega, pt_h h2⟩
  rw [if_neg k13] at e
  by_cases k14 : o = 27
  · rw [if_pos k14] at e
    by_cases z : rs ≤ 0
    · rw [if_pos z] at e; cases e; exact ⟨d, by omega, hd⟩
    · rw [if_neg z] at e; obtain ⟨d', h1, h2⟩ := tk_h hd e; exact ⟨d', by omega, h2⟩
  rw [if_neg k14] at e
  by_cases k15 : o = 29
  · rw [if_pos k15] at e
    have hv := h26 (Or.inr k15)
    obtain ⟨q1, e1, rfl⟩ := om_some e
    obtain ⟨d', h1, h2⟩ := tki_h _ hd e1
    exact ⟨d' + _, by omega, pti_h _ h2⟩
  rw [if_neg k15] at e
  cases e; exact ⟨d, by omega, hd⟩
/-- how many below n have p -/
def ct_ (p : Nat → Bool) : Nat → Nat
  | 0 => 0
  | n + 1 => ct_ p n + (if p n = true then 1 else 0)
theorem ct_eq {p p' : Nat → Bool} : ∀ (n : Nat), (∀ j, j < n → p j = p' j) → ct_ p n = ct_ p' n
  | 0, _ => rfl
  | n + 1, h => by rw [ct_, ct_, ct_eq n (fun j hj => h j (by omega)), h n (by omega)]
theorem ct_off {p p' : Nat → Bool} {i : Nat} : ∀ (n : Nat), i < n → (∀ j, j < n → j ≠ i → p j = p' j) → p i = true → p' i = false → ct_ p n = ct_ p' n + 1
  | 0, hi, _, _, _ => absurd hi (by omega)
  | n + 1, hi, h, h1, h2 => by
    rw [ct_, ct_]
    by_cases e : i = n
    · subst e
      rw [ct_eq i (fun j hj => h j (by omega) (by omega)), h1, h2]
      simp
    · rw [ct_off n (by omega) (fun j hj hne => h j (by omega) hne) h1 h2, h n (by omega) (fun z => e z.symm)]
      omega
theorem ct_le (p : Nat → Bool) : ∀ n, ct_ p n ≤ n
  | 0 => Nat.le_refl _
  | n + 1 => by
    rw [ct_]
    have := ct_le p n
    split <;> omega
theorem ct_pos {p : Nat → Bool} {i n : Nat} (hi : i < n) (h : p i = true) : 0 < ct_ p n := by
  have := ct_off (p := p) (p' := fun j => if j = i then false else p j) n hi (fun j _ hne => by simp [hne]) h (by simp)
  omega
/-- not come to yet, or waiting -/
def nu_ (n : Nat) (s : s3_) : Nat := ct_ (fun i => decide (s.1 i < 0)) n + ct_ (fun i => decide (¬ s.2.2 i = 0)) n
def iv_ (n : Nat) (s : s3_) : Prop := ∀ i, i < n → (s.1 i < 0 ∧ s.2.2 i = 0) ∨ ∃ d, d ≤ 16 ∧ s.1 i = nI d
theorem iv_cm {f i n : Nat} {q : sq_} {s s' : s3_} (hI : iv_ n s) (hi : i < n) (hq : ∃ d, d ≤ 16 ∧ q.1 = nI d) (e : cm_ f i q s = .inr s') : iv_ n s' ∧ nu_ n s' = nu_ n s := by
  unfold cm_ at e
  split at e
  · next h0 =>
    cases e
    have hw : s.2.2 i = 0 := by
      rcases hI i hi with ⟨-, h⟩ | ⟨d, hd, e⟩
      · exact h
      · rw [e] at h0; exact absurd h0 (nI_pos (by omega))
    obtain ⟨d, hd, ed⟩ := hq
    refine ⟨fun j hj => ?_, ?_⟩
    · by_cases hji : j = i
      · subst hji
        exact Or.inr ⟨d, hd, by simp only [va_up_self]; exact ed⟩
      · rcases hI j hj with ⟨h1, h2⟩ | ⟨d', h1, h2⟩
        · exact Or.inl ⟨by simp only [va_up_ne _ _ hji]; exact h1, by simp only [va_up_ne _ _ hji]; exact h2⟩
        · exact Or.inr ⟨d', h1, by simp only [va_up_ne _ _ hji]; exact h2⟩
    · unfold nu_
      have c1 := ct_off (p := fun i => decide (s.1 i < 0)) (p' := fun j => decide (va_up s.1 i q.1 j < 0)) n hi (fun j _ hne => by simp only [va_up_ne _ _ hne]) (decide_eq_true h0) (by simp only [va_up_self]; rw [ed]; exact decide_eq_false (nI_pos (by omega)))
      have c2 := ct_off (p := fun j => decide (¬ va_up s.2.2 i 1 j = 0)) (p' := fun i => decide (¬ s.2.2 i = 0)) n hi (fun j _ hne => by simp only [va_up_ne _ _ hne]) (by simp only [va_up_self]; decide) (by simp [hw])
      dsimp only
      omega
  · split at e
    · cases e; exact ⟨hI, rfl⟩
    · cases e
theorem iv_hd {f i n hn : Nat} {hf ht hg : Nat → Int32} (hgt : ∀ k, k < hn → ∃ t, t < n ∧ hg k = nI t) (hn4 : n ≤ 400) : ∀ (r : Nat) {s s' : s3_}, r ≤ hn → iv_ n s → hd_ f i hn hf ht hg r s = .inr s' → iv_ n s' ∧ nu_ n s' = nu_ n s
  | 0, s, s', _, hI, e => by cases e; exact ⟨hI, rfl⟩
  | r + 1, s, s', hr, hI, e => by
    rw [hd_] at e
    generalize hx : (if hf (hn - (r + 1)) ≤ nI i ∧ nI i < ht (hn - (r + 1)) then cm_ f (hg (hn - (r + 1))).toNatClampNeg (1, 0) s else Sum.inr s) = x at e
    cases x with
    | inl e' => cases e
    | inr s1 =>
      have h1 : iv_ n s1 ∧ nu_ n s1 = nu_ n s := by
        split at hx
        · obtain ⟨t, h1, h2⟩ := hgt (hn - (r + 1)) (by omega)
          rw [h2, nI_clamp (show t < 2 ^ 31 by omega)] at hx
          exact iv_cm hI h1 ⟨1, by omega, rfl⟩ hx
        · cases hx; exact ⟨hI, rfl⟩
      obtain ⟨h2, h3⟩ := iv_hd hgt hn4 r (by omega) h1.1 e
      exact ⟨h2, h3.trans h1.2⟩
theorem iv_lk {f n hn i : Nat} {op vv hf ht hg rb rs cp : Nat → Int32} (hn4 : n ≤ 400) (hgt : ∀ k, k < hn → ∃ t, t < n ∧ hg k = nI t) (hj : 17 < op i ∧ op i < 21 → ∃ t, t < n ∧ vv i = nI t) (h26 : op i = 26 ∨ op i = 29 → (vv i - vv i / 4 * 4).toNatClampNeg < 1000) {s s' : s3_} (hI : iv_ n s) (hi : i < n) (hd : ∃ d, d ≤ 16 ∧ s.1 i = nI d) (e : lk_ f n op vv hn hf ht hg rb rs cp i s = .inr s') : iv_ n s' ∧ nu_ n s' = nu_ n s := by
  unfold lk_ at e
  split at e
  · cases e
  next q emv =>
  split at e
  · cases e
  next h16 =>
  obtain ⟨d, hd1, hd2⟩ := hd
  obtain ⟨d', h1, h2⟩ := mv_h hd2 hd1 h26 emv
  have hq : ∃ d, d ≤ 16 ∧ q.1 = nI d := by
    refine ⟨d', ?_, h2⟩
    rcases Nat.lt_or_ge 16 d' with z | z
    · exact absurd (by rw [h2]; exact nI_lt (a := 16) z (by omega)) h16
    · exact z
  generalize hx : hd_ f i hn hf ht hg hn s = x at e
  cases x with
  | inl e' => cases e
  | inr s1 =>
    obtain ⟨i1, n1⟩ := iv_hd hgt hn4 hn (Nat.le_refl _) hI hx
    have e : bi_ (if 17 < op i ∧ op i < 21 then cm_ f (vv i).toNatClampNeg q s1 else .inr s1) (fun s => if op i = 18 ∨ op i = 27 ∨ op i = 28 then .inr s else if i + 1 = n then .inl (8, nI (512 * f + i)) else cm_ f (i + 1) q s) = .inr s' := e
    generalize hy : (if 17 < op i ∧ op i < 21 then cm_ f (vv i).toNatClampNeg q s1 else .inr s1 : (Int32 × Int32) ⊕ s3_) = y at e
    cases y with
    | inl e' => cases e
    | inr s2 =>
      have h3 : iv_ n s2 ∧ nu_ n s2 = nu_ n s1 := by
        split at hy
        · next z =>
          obtain ⟨t, t1, t2⟩ := hj z
          rw [t2, nI_clamp (show t < 2 ^ 31 by omega)] at hy
          exact iv_cm i1 t1 hq hy
        · cases hy; exact ⟨i1, rfl⟩
      have e : (if op i = 18 ∨ op i = 27 ∨ op i = 28 then .inr s2 else if i + 1 = n then .inl (8, nI (512 * f + i)) else cm_ f (i + 1) q s2 : (Int32 × Int32) ⊕ s3_) = .inr s' := e
      split at e
      · cases e; exact ⟨h3.1, by rw [h3.2, n1]⟩
      · split at e
        · cases e
        · next hne =>
          obtain ⟨i4, n4⟩ := iv_cm h3.1 (by omega) hq e
          exact ⟨i4, by rw [n4, h3.2, n1]⟩
