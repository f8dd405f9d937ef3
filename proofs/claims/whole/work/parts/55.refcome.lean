/-! THE REFERENCE: comeTo, lookAtOne. bs: where the function's instructions begin in the rows. -/
def ar3_ (ar : Nat → Nat → Int32) (bs : Nat) (s : s3_) : Nat → Nat → Int32 := fun k j =>
  if k = 26 then (if bs ≤ j ∧ j < bs + 400 then s.1 (j - bs) else ar 26 j)
  else if k = 27 then (if bs ≤ j ∧ j < bs + 400 then s.2.1 (j - bs) else ar 27 j)
  else if k = 28 then (if j < 400 then s.2.2 j else ar 28 j) else ar k j
theorem ar3_26 (ar : Nat → Nat → Int32) (bs : Nat) (s : s3_) {i : Nat} (hi : i < 400) : ar3_ ar bs s 26 (bs + i) = s.1 i := by simp [ar3_, hi]
theorem ar3_27 (ar : Nat → Nat → Int32) (bs : Nat) (s : s3_) {i : Nat} (hi : i < 400) : ar3_ ar bs s 27 (bs + i) = s.2.1 i := by simp [ar3_, hi]
theorem ar3_28 (ar : Nat → Nat → Int32) (bs : Nat) (s : s3_) {i : Nat} (hi : i < 400) : ar3_ ar bs s 28 i = s.2.2 i := by simp [ar3_, hi]
theorem ar3_o (ar : Nat → Nat → Int32) (bs : Nat) (s : s3_) {k : Nat} (hk : k < 26) : ar3_ ar bs s k = ar k := by
  funext j
  simp only [ar3_]
  rw [if_neg (by omega), if_neg (by omega), if_neg (by omega)]
theorem ar3_u26 (ar : Nat → Nat → Int32) (bs : Nat) (s : s3_) {i : Nat} (hi : i < 400) (x : Int32) : va_up (ar3_ ar bs s) 26 (va_up (ar3_ ar bs s 26) (bs + i) x) = ar3_ ar bs (va_up s.1 i x, s.2) := by
  funext k j
  by_cases hk : k = 26
  · subst hk
    simp only [va_up, ar3_, if_true]
    by_cases hj : j = bs + i
    · subst hj; simp [hi]
    · rw [if_neg hj]
      split
      · next q => rw [if_neg (by omega)]
      · rfl
  · simp only [va_up, ar3_, if_neg hk]
theorem ar3_u27 (ar : Nat → Nat → Int32) (bs : Nat) (s : s3_) {i : Nat} (hi : i < 400) (x : Int32) : va_up (ar3_ ar bs s) 27 (va_up (ar3_ ar bs s 27) (bs + i) x) = ar3_ ar bs (s.1, va_up s.2.1 i x, s.2.2) := by
  funext k j
  by_cases hk : k = 27
  · subst hk
    simp only [va_up, ar3_, if_true]
    by_cases hj : j = bs + i
    · subst hj; simp [hi]
    · rw [if_neg hj]
      simp only [show ¬ (27 : Nat) = 26 by omega, if_false]
      split
      · next q => rw [if_neg (by omega)]
      · rfl
  · simp only [va_up, ar3_, if_neg hk]
theorem ar3_u28 (ar : Nat → Nat → Int32) (bs : Nat) (s : s3_) {i : Nat} (hi : i < 400) (x : Int32) : va_up (ar3_ ar bs s) 28 (va_up (ar3_ ar bs s 28) i x) = ar3_ ar bs (s.1, s.2.1, va_up s.2.2 i x) := by
  funext k j
  by_cases hk : k = 28
  · subst hk
    simp only [va_up, ar3_, if_true, show ¬ (28 : Nat) = 26 by omega, show ¬ (28 : Nat) = 27 by omega, if_false]
    by_cases hj : j = i
    · subst hj; simp [hi]
    · rw [if_neg hj, if_neg hj]
  · simp only [va_up, ar3_, if_neg hk]
theorem ar3_ext {ar : Nat → Nat → Int32} {bs : Nat} {s s' : s3_} (h : ∀ i, i < 400 → s.1 i = s'.1 i ∧ s.2.1 i = s'.2.1 i ∧ s.2.2 i = s'.2.2 i) : ar3_ ar bs s = ar3_ ar bs s' := by
  funext k j
  simp only [ar3_]
  split
  · split
    · next q => exact (h _ (by omega)).1
    · rfl
  · split
    · split
      · next q => exact (h _ (by omega)).2.1
      · rfl
    · split
      · split
        · next q => exact (h _ q).2.2
        · rfl
      · rfl
theorem ar3_self (ar : Nat → Nat → Int32) (bs : Nat) : ar3_ ar bs (fun i => ar 26 (bs + i), fun i => ar 27 (bs + i), fun i => ar 28 i) = ar := by
  funext k j
  simp only [ar3_]
  split
  · next e =>
    subst e
    split
    · next q => rw [show bs + (j - bs) = j by omega]
    · rfl
  · split
    · next e =>
      subst e
      split
      · next q => rw [show bs + (j - bs) = j by omega]
      · rfl
    · split
      · next e => subst e; split <;> rfl
      · rfl
theorem ar3_ar3 (ar : Nat → Nat → Int32) (bs : Nat) (s s' : s3_) : ar3_ (ar3_ ar bs s) bs s' = ar3_ ar bs s' := by
  funext k j
  simp only [ar3_, if_true]
  split
  · next e => split <;> rfl
  · split
    · next e => simp only [show ¬ (27 : Nat) = 26 by omega, if_false]; split <;> rfl
    · split
      · next e => simp only [show ¬ (28 : Nat) = 26 by omega, show ¬ (28 : Nat) = 27 by omega, if_false]; split <;> rfl
      · rfl
/-- the numbers with a fault -/
def scf_ (sc : Nat → Int32) (e : Int32 × Int32) : Nat → Int32 := va_up (va_up sc 7 e.1) 8 e.2
theorem scf_7 (sc : Nat → Int32) (e : Int32 × Int32) : scf_ sc e 7 = e.1 := by simp [scf_, va_up]
theorem cm_7 {f i : Nat} {q : sq_} {s : s3_} {e : Int32 × Int32} (h : cm_ f i q s = .inl e) : e.1 = 7 := by
  unfold cm_ at h
  split at h
  · cases h
  · split at h
    · cases h
    · cases h; rfl
theorem ix_bs (b f i : Nat) : ((4800 * nI b) + (400 * nI f)) + nI i = nI (4800 * b + 400 * f + i) := by
  rw [show (4800 : Int32) = nI 4800 by decide, show (400 : Int32) = nI 400 by decide, pk_mul, pk_mul, nI_add, nI_add]
theorem ix_pl (f i : Nat) : (512 * nI f) + nI i = nI (512 * f + i) := by
  rw [show (512 : Int32) = nI 512 by decide, pk_mul, nI_add]
theorem i_nn (x : Int32) : 0 ≤ x ↔ ¬ x < 0 := Int32.not_lt.symm
section MOC
variable (h : hc_H) (m : Nat) (sc : Nat → Int32) (ar : Nat → Nat → Int32)
/-- what the reference leaves: behind a fault, whatever the rows hold; else what the specification says -/
def rc_ (bs : Nat) (x : (Int32 × Int32) ⊕ s3_) (r : Option (Unit × Nat × Nat × hc_H)) : Prop := match x with
  | .inl e => ∃ s, r = some ((), 0, 0, mo_em h m (scf_ sc e) (ar3_ ar bs s))
  | .inr s => r = some ((), 0, 0, mo_em h m sc (ar3_ ar bs s))
theorem s_Mo_comeTo (b f i : Nat) (hb : b < 2) (hf : f < 12) (hi : i < 400) (hs : sc 7 = 0) (q : sq_) (s : s3_) : p_Mo_comeTo (some m) (nI b) (nI f) (nI i) q.1 q.2 (mo_em h m sc (ar3_ ar (4800 * b + 400 * f) s)) = match cm_ f i q s with
    | .inl e => some ((), 0, 0, mo_em h m (scf_ sc e) (ar3_ ar (4800 * b + 400 * f) s))
    | .inr s' => some ((), 0, 0, mo_em h m sc (ar3_ ar (4800 * b + 400 * f) s')) := by
  have hin : ¬ (nI (4800 * b + 400 * f + i) < 0 ∨ 9600 ≤ (nI (4800 * b + 400 * f + i)).toNatClampNeg) := nI_in (by omega) (by omega)
  have hcl : (nI (4800 * b + 400 * f + i)).toNatClampNeg = 4800 * b + 400 * f + i := nI_clamp (by omega)
  have hin2 : ¬ (nI i < 0 ∨ 400 ≤ (nI i).toNatClampNeg) := nI_in (by omega) (by omega)
  have hcl2 : (nI i).toNatClampNeg = i := nI_clamp (by omega)
  have wr : p_Mo_wrong (some m) 7 (nI (512 * f + i)) (mo_em h m sc (ar3_ ar (4800 * b + 400 * f) s)) = some ((), 0, 0, mo_em h m (scf_ sc (7, nI (512 * f + i))) (ar3_ ar (4800 * b + 400 * f) s)) := by
    rw [s_Mo_wrong, if_pos hs]; rfl
  rw [p_Mo_comeTo, ix_bs, ix_pl, mo_ref23, mo_ild26, if_neg hin, hcl, ar3_26 _ _ _ hi, ev_ite, cm_]
  by_cases h0 : s.1 i < 0
  · rw [if_neg (fun z => (i_nn _).mp z h0), if_pos h0]
    rw [mo_ref23, mo_ist26, if_neg hin, hcl, ar3_u26 _ _ _ hi, mo_ref24, mo_ist27, if_neg hin, hcl, ar3_u27 _ _ _ hi, mo_ref25, mo_ist28, if_neg hin2, hcl2, ar3_u28 _ _ _ hi]
    rfl
  · rw [if_pos ((i_nn _).mpr h0), if_neg h0, mo_ref23, mo_ild26, if_neg hin, hcl, ar3_26 _ _ _ hi]
    simp only [hm_jn]
    rw [ev_ite]
    by_cases h1 : s.1 i = q.1
    · rw [if_pos h1, mo_ref24, mo_ild27, if_neg hin, hcl, ar3_27 _ _ _ hi, ev_ite]
      by_cases h2 : s.2.1 i = q.2
      · rw [if_pos h2, if_pos ⟨h1, h2⟩]; rfl
      · rw [if_neg h2, if_neg (fun z => h2 z.2), mo_on, bd_0 wr]; rfl
    · rw [if_neg h1, if_neg (fun z => h1 z.1), mo_on, bd_0 wr]; rfl
theorem s_look_140 (b f i : Nat) (hb : b < 2) (hf : f < 12) (hi : i < 400) (hs : sc 7 = 0) (hn : Nat) (hhn : hn ≤ 6) (e18 : ar 18 (12 * b + f) = nI hn) (hg : ∀ k, k < hn → ∃ t, t < 400 ∧ ar 23 (72 * b + 6 * f + k) = nI t) (x5 x6 x7 x8 : Int32) (kx : hM Unit) : ∀ (r fu : Nat) (s : s3_), r ≤ hn → r < fu →
    match hd_ f i hn (fun k => ar 21 (72 * b + 6 * f + k)) (fun k => ar 22 (72 * b + 6 * f + k)) (fun k => ar 23 (72 * b + 6 * f + k)) r s with
    | .inl e => ∃ s', p_Mo_lookAtOne_140 (some m) (nI b) (nI f) (nI i) (nI (12 * b + f)) x5 x6 x7 x8 kx fu (nI (72 * b + 6 * f + (hn - r))) (mo_em h m sc (ar3_ ar (4800 * b + 400 * f) s)) = kx (mo_em h m (scf_ sc e) (ar3_ ar (4800 * b + 400 * f) s'))
    | .inr s' => p_Mo_lookAtOne_140 (some m) (nI b) (nI f) (nI i) (nI (12 * b + f)) x5 x6 x7 x8 kx fu (nI (72 * b + 6 * f + (hn - r))) (mo_em h m sc (ar3_ ar (4800 * b + 400 * f) s)) = kx (mo_em h m sc (ar3_ ar (4800 * b + 400 * f) s')) := by
  have hink : ¬ (nI (12 * b + f) < 0 ∨ 24 ≤ (nI (12 * b + f)).toNatClampNeg) := nI_in (by omega) (by omega)
  have hclk : (nI (12 * b + f)).toNatClampNeg = 12 * b + f := nI_clamp (by omega)
  have lim : ((72 * nI b) + (6 * nI f)) + nI hn = nI (72 * b + 6 * f + hn) := by
    rw [show (72 : Int32) = nI 72 by decide, show (6 : Int32) = nI 6 by decide, pk_mul, pk_mul, nI_add, nI_add]
  have head : ∀ (fu : Nat) (j : Nat) (sc' : Nat → Int32) (s : s3_), j ≤ hn → p_Mo_lookAtOne_140 (some m) (nI b) (nI f) (nI i) (nI (12 * b + f)) x5 x6 x7 x8 kx (fu + 1) (nI (72 * b + 6 * f + j)) (mo_em h m sc' (ar3_ ar (4800 * b + 400 * f) s)) = if j = hn then kx (mo_em h m sc' (ar3_ ar (4800 * b + 400 * f) s)) else if sc' 7 = 0 then (hm_jn (p_Mo_lookAtOne_140 (some m) (nI b) (nI f) (nI i) (nI (12 * b + f)) x5 x6 x7 x8 kx fu (nI (72 * b + 6 * f + j) + 1)) fun k206 => if nI i < ar 21 (72 * b + 6 * f + j) then k206 else (if ar 22 (72 * b + 6 * f + j) ≤ nI i then k206 else (hm_bind (p_Mo_comeTo (some m) (nI b) (nI f) (ar 23 (72 * b + 6 * f + j)) 1 0) fun _ => k206))) (mo_em h m sc' (ar3_ ar (4800 * b + 400 * f) s)) else kx (mo_em h m sc' (ar3_ ar (4800 * b + 400 * f) s)) := by
    intro fu j sc' s hj
    have hinj : j < hn → ¬ (nI (72 * b + 6 * f + j) < 0 ∨ 144 ≤ (nI (72 * b + 6 * f + j)).toNatClampNeg) := fun hj => nI_in (by omega) (by omega)
    have hclj : (nI (72 * b + 6 * f + j)).toNatClampNeg = 72 * b + 6 * f + j := nI_clamp (by omega)
    rw [p_Mo_lookAtOne_140, mo_ref15, mo_ild18, if_neg hink, hclk, ar3_o _ _ _ (by omega), e18, lim, ev_ite]
    by_cases hjn : j = hn
    · rw [if_pos hjn, if_pos (by rw [hjn]; exact nI_le (Nat.le_refl _) (by omega))]
    · have hlt : j < hn := by omega
      rw [if_neg hjn, if_neg (nI_ge (by omega) (by omega)), mo_get7, ev_ite]
      by_cases h7 : sc' 7 = 0
      · rw [if_pos h7, if_pos h7, mo_ref18, mo_ild21, if_neg (hinj hlt), hclj, ar3_o _ _ _ (by omega)]
        simp only [hm_jn]
        rw [ev_ite, ev_ite]
        by_cases q1 : nI i < ar 21 (72 * b + 6 * f + j)
        · rw [if_pos q1, if_pos q1]
        · rw [if_neg q1, if_neg q1, mo_ref19, mo_ild22, if_neg (hinj hlt), hclj, ar3_o _ _ _ (by omega), ev_ite, ev_ite]
          by_cases q2 : ar 22 (72 * b + 6 * f + j) ≤ nI i
          · rw [if_pos q2, if_pos q2]
          · rw [if_neg q2, if_neg q2, mo_ref20, mo_ild23, if_neg (hinj hlt), hclj, ar3_o _ _ _ (by omega), mo_on]
      · rw [if_neg h7, if_neg h7]
  intro r
  induction r with
  | zero =>
    intro fu s _ hfu
    obtain ⟨g, rfl⟩ : ∃ g, fu = g + 1 := ⟨fu - 1, by omega⟩
    simp only [hd_, Nat.sub_zero]
    rw [head g hn sc s (Nat.le_refl _), if_pos rfl]
  | succ r ih =>
    intro fu s hr hfu
    obtain ⟨g, rfl⟩ : ∃ g, fu = g + 1 := ⟨fu - 1, by omega⟩
    have next : nI (72 * b + 6 * f + (hn - (r + 1))) + 1 = nI (72 * b + 6 * f + (hn - r)) := by
      rw [nI_1]; congr 1; omega
    rw [head g (hn - (r + 1)) sc s (by omega), if_neg (by omega), if_pos hs]
    simp only [hm_jn, next, hd_]
    by_cases q1 : nI i < ar 21 (72 * b + 6 * f + (hn - (r + 1)))
    · rw [ev_ite, if_pos q1, if_neg (fun z : ar 21 (72 * b + 6 * f + (hn - (r + 1))) ≤ nI i ∧ nI i < ar 22 (72 * b + 6 * f + (hn - (r + 1))) => Int32.not_le.mpr q1 z.1)]
      exact ih g s (by omega) (by omega)
    · by_cases q2 : ar 22 (72 * b + 6 * f + (hn - (r + 1))) ≤ nI i
      · rw [ev_ite, if_neg q1, ev_ite, if_pos q2, if_neg (fun z : ar 21 (72 * b + 6 * f + (hn - (r + 1))) ≤ nI i ∧ nI i < ar 22 (72 * b + 6 * f + (hn - (r + 1))) => Int32.not_lt.mpr q2 z.2)]
        exact ih g s (by omega) (by omega)
      · rw [ev_ite, if_neg q1, ev_ite, if_neg q2, if_pos ⟨Int32.not_lt.mp q1, Int32.not_le.mp q2⟩]
        obtain ⟨t, ht, et⟩ := hg (hn - (r + 1)) (by omega)
        have key := s_Mo_comeTo h m sc ar b f t hb hf ht hs (1, 0) s
        rw [et, nI_clamp (show t < 2 ^ 31 by omega)]
        cases ec : cm_ f t (1, 0) s with
        | inl e =>
          rw [ec] at key
          rw [bd_0 key]
          simp only [bi_]
          obtain ⟨g', rfl⟩ : ∃ g', g = g' + 1 := ⟨g - 1, by omega⟩
          refine ⟨s, ?_⟩
          have e7 : ¬ scf_ sc e 7 = 0 := by rw [scf_7, cm_7 ec]; decide
          rw [head g' (hn - r) (scf_ sc e) s (by omega), if_neg e7]
          split <;> rfl
        | inr s' =>
          rw [ec] at key
          rw [bd_0 key]
          simp only [bi_]
          exact ih g s' (by omega) (by omega)
end MOC
