/-! THE SPECIFICATION: what is known is well formed, and only what lies below n counts. -/
def ivw_ (n : Nat) (s : s3_) : Prop := ∀ i, i < n → (s.1 i = -1 ∧ s.2.2 i = 0) ∨ ∃ d, d ≤ 16 ∧ wf_ d (s.1 i, s.2.1 i)
theorem ivw_m1 {n : Nat} {s : s3_} (h : ivw_ n s) : m1_ n s := by
  intro i hi hl
  rcases h i hi with ⟨h1, -⟩ | ⟨d, h1, h2⟩
  · exact h1
  · exact absurd (show s.1 i < 0 from hl) (by rw [show s.1 i = nI d from h2.1]; exact nI_pos (by omega))
theorem ivw_cm {f i n : Nat} {q : sq_} {s s' : s3_} (hI : ivw_ n s) (hq : ∃ d, d ≤ 16 ∧ wf_ d q) (e : cm_ f i q s = .inr s') : ivw_ n s' := by
  unfold cm_ at e
  split at e
  · cases e
    intro j hj
    by_cases hji : j = i
    · subst hji
      obtain ⟨d, h1, h2⟩ := hq
      exact Or.inr ⟨d, h1, by simp only [va_up_self]; exact h2⟩
    · simp only [va_up_ne _ _ hji]
      exact hI j hj
  · split at e
    · cases e; exact hI
    · cases e
theorem wf_10 : wf_ 1 (1, 0) := ⟨rfl, fun j _ _ => b_0 j⟩
theorem wf_00 : wf_ 0 (0, 0) := ⟨rfl, fun j _ _ => b_0 j⟩
theorem ivw_hd {f i n hn : Nat} {hf ht hg : Nat → Int32} : ∀ (r : Nat) {s s' : s3_}, ivw_ n s → hd_ f i hn hf ht hg r s = .inr s' → ivw_ n s'
  | 0, s, s', hI, e => by cases e; exact hI
  | r + 1, s, s', hI, e => by
    rw [hd_] at e
    generalize hx : (if hf (hn - (r + 1)) ≤ nI i ∧ nI i < ht (hn - (r + 1)) then cm_ f (hg (hn - (r + 1))).toNatClampNeg (1, 0) s else Sum.inr s) = x at e
    cases x with
    | inl e' => cases e
    | inr s1 =>
      have h1 : ivw_ n s1 := by
        split at hx
        · exact ivw_cm hI ⟨1, by omega, wf_10⟩ hx
        · cases hx; exact hI
      exact ivw_hd r h1 e
theorem ivw_lk {f n hn i : Nat} {op vv hf ht hg rb rs cp : Nat → Int32} (h26 : op i = 26 ∨ op i = 29 → (vv i - vv i / 4 * 4).toNatClampNeg < 4) (h25 : op i = 25 → ∀ j, j < 32 → j ≠ 0 → bt (rs (vv i).toNatClampNeg - 1) j = false) {s s' : s3_} (hI : ivw_ n s) (hd : ∃ d, d ≤ 16 ∧ wf_ d (s.1 i, s.2.1 i)) (e : lk_ f n op vv hn hf ht hg rb rs cp i s = .inr s') : ivw_ n s' := by
  unfold lk_ at e
  split at e
  · cases e
  next q emv =>
  split at e
  · cases e
  next h16 =>
  obtain ⟨d, hd1, hd2⟩ := hd
  obtain ⟨d', h1, h2⟩ := mv_w hd2 hd1 h26 h25 emv
  have hq : ∃ d, d ≤ 16 ∧ wf_ d q := by
    refine ⟨d', ?_, h2⟩
    rcases Nat.lt_or_ge 16 d' with z | z
    · exact absurd (by rw [h2.1]; exact nI_lt (a := 16) z (by omega)) h16
    · exact z
  generalize hx : hd_ f i hn hf ht hg hn s = x at e
  cases x with
  | inl e' => cases e
  | inr s1 =>
    have i1 := ivw_hd hn hI hx
    have e : bi_ (if 17 < op i ∧ op i < 21 then cm_ f (vv i).toNatClampNeg q s1 else .inr s1) (fun s => if op i = 18 ∨ op i = 27 ∨ op i = 28 then .inr s else if i + 1 = n then .inl (8, nI (512 * f + i)) else cm_ f (i + 1) q s) = .inr s' := e
    generalize hy : (if 17 < op i ∧ op i < 21 then cm_ f (vv i).toNatClampNeg q s1 else .inr s1 : (Int32 × Int32) ⊕ s3_) = y at e
    cases y with
    | inl e' => cases e
    | inr s2 =>
      have h3 : ivw_ n s2 := by
        split at hy
        · exact ivw_cm i1 hq hy
        · cases hy; exact i1
      have e : (if op i = 18 ∨ op i = 27 ∨ op i = 28 then .inr s2 else if i + 1 = n then .inl (8, nI (512 * f + i)) else cm_ f (i + 1) q s2 : (Int32 × Int32) ⊕ s3_) = .inr s' := e
      split at e
      · cases e; exact h3
      · split at e
        · cases e
        · exact ivw_cm h3 hq e
/-- alike below n -/
def se_ (n : Nat) (s s' : s3_) : Prop := ∀ i, i < n → s.1 i = s'.1 i ∧ s.2.1 i = s'.2.1 i ∧ s.2.2 i = s'.2.2 i
def re_ (n : Nat) (x y : (Int32 × Int32) ⊕ s3_) : Prop := match x, y with
  | .inl e, .inl e' => e = e'
  | .inr s, .inr s' => se_ n s s'
  | _, _ => False
theorem re_bi {n : Nat} {x y : (Int32 × Int32) ⊕ s3_} {k k' : s3_ → (Int32 × Int32) ⊕ s3_} (h : re_ n x y) (hk : ∀ s s', se_ n s s' → re_ n (k s) (k' s')) : re_ n (bi_ x k) (bi_ y k') := by
  cases x with
  | inl e => cases y with
    | inl e' => exact h
    | inr s' => exact h.elim
  | inr s => cases y with
    | inl e' => exact h.elim
    | inr s' => exact hk s s' h
theorem se_cm {n f i : Nat} {q : sq_} {s s' : s3_} (h : se_ n s s') (hi : i < n) : re_ n (cm_ f i q s) (cm_ f i q s') := by
  obtain ⟨h1, h2, h3⟩ := h i hi
  unfold cm_
  rw [h1, h2]
  split
  · intro j hj
    obtain ⟨g1, g2, g3⟩ := h j hj
    simp only [va_up]
    by_cases e : j = i
    · simp [e]
    · simp only [if_neg e]; exact ⟨g1, g2, g3⟩
  · split
    · exact h
    · rfl
theorem se_hd {n f i hn : Nat} {hf ht hg : Nat → Int32} (hn4 : n ≤ 400) (hgt : ∀ k, k < hn → ∃ t, t < n ∧ hg k = nI t) : ∀ (r : Nat) {s s' : s3_}, r ≤ hn → se_ n s s' → re_ n (hd_ f i hn hf ht hg r s) (hd_ f i hn hf ht hg r s')
  | 0, s, s', _, h => h
  | r + 1, s, s', hr, h => by
    rw [hd_, hd_]
    refine re_bi ?_ (fun a b hab => se_hd hn4 hgt r (by omega) hab)
    split
    · obtain ⟨t, t1, t2⟩ := hgt (hn - (r + 1)) (by omega)
      rw [t2, nI_clamp (show t < 2 ^ 31 by omega)]
      exact se_cm h t1
    · exact h
theorem se_lk {n f i hn : Nat} {op vv hf ht hg rb rs cp : Nat → Int32} (hn4 : n ≤ 400) (hgt : ∀ k, k < hn → ∃ t, t < n ∧ hg k = nI t) (hj : 17 < op i ∧ op i < 21 → ∃ t, t < n ∧ vv i = nI t) (hi : i < n) {s s' : s3_} (h : se_ n s s') : re_ n (lk_ f n op vv hn hf ht hg rb rs cp i s) (lk_ f n op vv hn hf ht hg rb rs cp i s') := by
  obtain ⟨h1, h2, h3⟩ := h i hi
  unfold lk_
  rw [h1, h2]
  generalize mv_ (op i) (vv i) (rb f) (rs f) (cp (vv i).toNatClampNeg) (rb (vv i).toNatClampNeg) (rs (vv i).toNatClampNeg) (s'.1 i, s'.2.1 i) = x
  cases x with
  | none => exact rfl
  | some q =>
    show re_ n (if 16 < q.1 then _ else _) (if 16 < q.1 then _ else _)
    by_cases c : 16 < q.1
    · rw [if_pos c, if_pos c]; exact rfl
    · rw [if_neg c, if_neg c]
      refine re_bi (se_hd hn4 hgt hn (Nat.le_refl _) h) (fun a b hab => re_bi ?_ (fun c d hcd => ?_))
      · split
        · next z =>
          obtain ⟨t, t1, t2⟩ := hj z
          rw [t2, nI_clamp (show t < 2 ^ 31 by omega)]
          exact se_cm hab t1
        · exact hab
      · split
        · exact hcd
        · split
          · exact rfl
          · next z => exact se_cm hcd (by omega)
theorem lwf_se {w w' : Nat → Int32} {n : Nat} (h : ∀ i, i < n → w i = w' i) : ∀ r, r ≤ n → lwf_ w n r = lwf_ w' n r
  | 0, _ => rfl
  | r + 1, hr => by rw [lwf_, lwf_, h _ (by omega), lwf_se h r (by omega)]
theorem se_vy {n : Nat} {look look' : Nat → s3_ → (Int32 × Int32) ⊕ s3_} (hl : ∀ i s s', i < n → se_ n s s' → re_ n (look i s) (look' i s')) : ∀ (g : Nat) {s s' : s3_}, se_ n s s' → re_ n (vy_ look n g s) (vy_ look' n g s')
  | 0, s, s', h => h
  | g + 1, s, s', h => by
    rw [vy_, vy_, lwf_se (fun i hi => (h i hi).2.2) n (Nat.le_refl _)]
    cases el : lwf_ s'.2.2 n n with
    | none => exact h
    | some i =>
      have hi := (lwf_some n (Nat.le_refl _) el).1
      refine re_bi (hl i _ _ hi ?_) (fun a b hab => se_vy hl g hab)
      intro j hj
      obtain ⟨g1, g2, g3⟩ := h j hj
      simp only [va_up]
      by_cases e : j = i
      · simp only [if_pos e]; exact ⟨g1, g2, trivial⟩
      · simp only [if_neg e]; exact ⟨g1, g2, g3⟩
theorem se_rfl (n : Nat) (s : s3_) : se_ n s s := fun i _ => ⟨rfl, rfl, rfl⟩
theorem lwf_skip {w : Nat → Int32} {n k : Nat} (hk : k ≤ n) (h : ∀ j, j < k → w j = 0) : ∀ r, r ≤ k → lwf_ w n (n - (k - r)) = lwf_ w n (n - k)
  | 0, _ => rfl
  | r + 1, hr => by
    rw [show n - (k - (r + 1)) = (n - (k - r)) + 1 by omega, lwf_]
    rw [show n - (n - (k - r) + 1) = k - (r + 1) by omega, h _ (by omega), if_pos rfl]
    exact lwf_skip hk h r (by omega)
