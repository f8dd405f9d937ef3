/-! CLASS AND REFERENCE VERIFY ALIKE what agrees -/
theorem mv_n25 {o : Int32} (h : ¬ o = 25) (v rb rs cp cb cr cp' cb' cr' : Int32) (q : sq_) : mv_ o v rb rs cp cb cr q = mv_ o v rb rs cp' cb' cr' q := by
  unfold mv_
  rw [if_neg h, if_neg h]
theorem hd_ext {f i hn : Nat} {hf ht hg hf' ht' hg' : Nat → Int32} (h : ∀ k, k < hn → hf k = hf' k ∧ ht k = ht' k ∧ hg k = hg' k) : ∀ (r : Nat) (s : s3_), r ≤ hn → hd_ f i hn hf ht hg r s = hd_ f i hn hf' ht' hg' r s
  | 0, _, _ => rfl
  | r + 1, s, hr => by
    obtain ⟨h1, h2, h3⟩ := h (hn - (r + 1)) (by omega)
    rw [hd_, hd_, h1, h2, h3]
    congr 1
    funext s'
    exact hd_ext h r s' (by omega)
theorem vy_ext {n : Nat} {look look' : Nat → s3_ → (Int32 × Int32) ⊕ s3_} (h : ∀ i s, i < n → look i s = look' i s) : ∀ (g : Nat) (s : s3_), vy_ look n g s = vy_ look' n g s
  | 0, _ => rfl
  | g + 1, s => by
    rw [vy_, vy_]
    cases el : lwf_ s.2.2 n n with
    | none => rfl
    | some i =>
      have hi := (lwf_some n (Nat.le_refl _) el).1
      show bi_ (look i _) (vy_ look n g) = bi_ (look' i _) (vy_ look' n g)
      rw [h i _ hi]
      congr 1
      funext s'
      exact vy_ext h g s'
theorem lkc_lkr {np b : Nat} (hnp : np ≤ 12) {FF : Nat → fc_} {ar : Nat → Nat → Int32} {NN HN : Nat → Nat} (hok : ∀ g, g < np → fok_ np (FF g) (NN g) (HN g)) (hag : ∀ g, g < np → agf_ (FF g) ar b g (NN g) (HN g)) {f : Nat} (hf : f < np) (i : Nat) (hi : i < NN f) (s : s3_) : lkc_ FF f (NN f) (HN f) i s = lkr_ ar b f (NN f) (HN f) i s := by
  have af := hag f hf
  obtain ⟨e0, e1⟩ := af.2.1 i hi
  have r2 : (FF f).1 2 = ar 15 (12 * b + f) := af.1 2 (by omega)
  have r3 : (FF f).1 3 = ar 16 (12 * b + f) := af.1 3 (by omega)
  have hh : ∀ (r : Nat) (s : s3_), r ≤ HN f → hd_ f i (HN f) (fun k => (FF f).2.2 k 0) (fun k => (FF f).2.2 k 1) (fun k => (FF f).2.2 k 2) r s = hd_ f i (HN f) (fun k => ar 21 (72 * b + 6 * f + k)) (fun k => ar 22 (72 * b + 6 * f + k)) (fun k => ar 23 (72 * b + 6 * f + k)) r s := hd_ext (fun k hk => ⟨af.2.2 k hk 0 (by omega), af.2.2 k hk 1 (by omega), af.2.2 k hk 2 (by omega)⟩)
  have hmv : ∀ q, mv_ ((FF f).2.1 0 i) ((FF f).2.1 1 i) ((FF f).1 2) ((FF f).1 3) ((FF ((FF f).2.1 1 i).toNatClampNeg).1 0) ((FF ((FF f).2.1 1 i).toNatClampNeg).1 2) ((FF ((FF f).2.1 1 i).toNatClampNeg).1 3) q = mv_ (ar 19 (4800 * b + 400 * f + i)) (ar 20 (4800 * b + 400 * f + i)) (ar 15 (12 * b + f)) (ar 16 (12 * b + f)) (ar 13 (12 * b + (ar 20 (4800 * b + 400 * f + i)).toNatClampNeg)) (ar 15 (12 * b + (ar 20 (4800 * b + 400 * f + i)).toNatClampNeg)) (ar 16 (12 * b + (ar 20 (4800 * b + 400 * f + i)).toNatClampNeg)) q := by
    intro q
    rw [r2, r3]
    by_cases c : (FF f).2.1 0 i = 25
    · obtain ⟨-, -, h25, -⟩ := (hok f hf).2.2.2.2.2.2.2.2.2 i hi
      obtain ⟨t, t1, t2⟩ := h25 c
      have at' := hag t t1
      rw [← e1, t2, nI_clamp (show t < 2 ^ 31 by omega), e0]
      rw [show (FF t).1 0 = ar 13 (12 * b + t) from at'.1 0 (by omega), show (FF t).1 2 = ar 15 (12 * b + t) from at'.1 2 (by omega), show (FF t).1 3 = ar 16 (12 * b + t) from at'.1 3 (by omega)]
    · rw [mv_n25 c _ _ _ _ _ _ (ar 13 (12 * b + (ar 20 (4800 * b + 400 * f + i)).toNatClampNeg)) (ar 15 (12 * b + (ar 20 (4800 * b + 400 * f + i)).toNatClampNeg)) (ar 16 (12 * b + (ar 20 (4800 * b + 400 * f + i)).toNatClampNeg)), e0, e1]
  unfold lkc_ lkr_ lk_
  rw [hmv]
  simp only [hh _ _ (Nat.le_refl _), e0, e1]
theorem vf_eq {np b : Nat} (hnp : np ≤ 12) {FF : Nat → fc_} {ar : Nat → Nat → Int32} {NN HN : Nat → Nat} (hok : ∀ g, g < np → fok_ np (FF g) (NN g) (HN g)) (hag : ∀ g, g < np → agf_ (FF g) ar b g (NN g) (HN g)) {f : Nat} (hf : f < np) : vf_ (lkc_ FF f (NN f) (HN f)) f (NN f) = vf_ (lkr_ ar b f (NN f) (HN f)) f (NN f) := by
  unfold vf_
  congr 1
  funext s
  exact vy_ext (fun i s hi => lkc_lkr hnp hok hag hf i hi s) _ s
theorem okr_of {np b : Nat} (hnp : np ≤ 12) {FF : Nat → fc_} {ar : Nat → Nat → Int32} {NN HN : Nat → Nat} (hok : ∀ g, g < np → fok_ np (FF g) (NN g) (HN g)) (hag : ∀ g, g < np → agf_ (FF g) ar b g (NN g) (HN g)) {f : Nat} (hf : f < np) : okr_ ar b f (NN f) (HN f) := by
  have af := hag f hf
  obtain ⟨a1, a2, a3, a4, a5, a6, a7, a8, a9, a10⟩ := hok f hf
  refine ⟨?_, a2, a3, ?_, a5, fun k hk => ?_, fun i hi => ?_⟩
  · rw [← af.1 4 (by omega)]; exact a1
  · rw [← af.1 5 (by omega)]; exact a4
  · rw [← af.2.2 k hk 2 (by omega)]; exact a9 k hk
  · obtain ⟨e0, e1⟩ := af.2.1 i hi
    obtain ⟨b1, b2, b3, b4⟩ := a10 i hi
    rw [← e0, ← e1]
    refine ⟨fun z => b2 ((gtp_iff b1).mpr z), fun z => ?_, b4⟩
    obtain ⟨t, t1, t2⟩ := b3 z
    obtain ⟨-, -, -, -, -, ⟨c, c1, c2⟩, -⟩ := hok t t1
    exact ⟨t, by omega, t2, c, by omega, by rw [← (hag t t1).1 0 (by omega)]; exact c2⟩
theorem vf_ivw {np f n hn : Nat} {FF : Nat → fc_} (ok : okf_ FF np f n hn) (hnp : np ≤ 12) {s : s3_} (h : vf_ (lkc_ FF f n hn) f n = .inr s) : ivw_ n s := by
  have step : ∀ (g : Nat) (s s' : s3_), ivw_ n s → vy_ (lkc_ FF f n hn) n g s = .inr s' → ivw_ n s' := by
    intro g
    induction g with
    | zero => intro s s' hI e; cases e; exact hI
    | succ g ih =>
      intro s s' hI e
      rw [vy_] at e
      cases el : lwf_ s.2.2 n n with
      | none => rw [el] at e; cases e; exact hI
      | some i =>
        rw [el] at e
        obtain ⟨hi, -, hw⟩ := lwf_some n (Nat.le_refl _) el
        have e : bi_ (lkc_ FF f n hn i (s.1, s.2.1, va_up s.2.2 i 0)) (vy_ (lkc_ FF f n hn) n g) = .inr s' := e
        cases ek : lkc_ FF f n hn i (s.1, s.2.1, va_up s.2.2 i 0) with
        | inl e' => rw [ek] at e; cases e
        | inr s1 =>
          rw [ek] at e
          exact ih s1 s' (ivw_lkc ok hnp hi (ivw_off hI) (iv_of_ivw hI hi hw) ek) e
  unfold vf_ at h
  have z3 : ivw_ n z3_ := fun i _ => Or.inl ⟨rfl, rfl⟩
  cases ec : cm_ f 0 (0, 0) z3_ with
  | inl e => rw [ec] at h; cases h
  | inr s1 =>
    rw [ec] at h
    exact step n s1 s (ivw_cm z3 ⟨0, by omega, wf_00⟩ ec) h
