/-! THE REFERENCE: lookAtOne is the specification's lk_ -/
theorem scq_of (sc : Nat → Int32) (x y : Int32) : va_up (va_up sc 27 x) 28 y = scq_ sc (x, y) := by
  funext k
  simp only [va_up, scq_]
  by_cases h1 : k = 28
  · subst h1; rfl
  · simp [h1]
/-- function f of bank b is one that can be verified: n instructions, hn handlers -/
def okr_ (ar : Nat → Nat → Int32) (b f n hn : Nat) : Prop :=
  ar 17 (12 * b + f) = nI n ∧ 1 ≤ n ∧ n ≤ 400 ∧ ar 18 (12 * b + f) = nI hn ∧ hn ≤ 6 ∧ (∀ k, k < hn → ∃ t, t < n ∧ ar 23 (72 * b + 6 * f + k) = nI t) ∧
  ∀ i, i < n → (17 < ar 19 (4800 * b + 400 * f + i) ∧ ar 19 (4800 * b + 400 * f + i) < 21 → ∃ t, t < n ∧ ar 20 (4800 * b + 400 * f + i) = nI t) ∧
    (ar 19 (4800 * b + 400 * f + i) = 25 → ∃ t, t < 12 ∧ ar 20 (4800 * b + 400 * f + i) = nI t ∧ ∃ c, c < 1000 ∧ ar 13 (12 * b + t) = nI c) ∧
    (ar 19 (4800 * b + 400 * f + i) = 26 ∨ ar 19 (4800 * b + 400 * f + i) = 29 → ∃ t, t < 1000 ∧ ar 20 (4800 * b + 400 * f + i) = nI t)
/-- lk_ with the reference's rows -/
def lkr_ (ar : Nat → Nat → Int32) (b f n hn i : Nat) (s : s3_) : (Int32 × Int32) ⊕ s3_ :=
  lk_ f n (fun j => ar 19 (4800 * b + 400 * f + j)) (fun j => ar 20 (4800 * b + 400 * f + j)) hn (fun k => ar 21 (72 * b + 6 * f + k)) (fun k => ar 22 (72 * b + 6 * f + k)) (fun k => ar 23 (72 * b + 6 * f + k)) (fun g => ar 15 (12 * b + g)) (fun g => ar 16 (12 * b + g)) (fun g => ar 13 (12 * b + g)) i s
section MOL
variable (h : hc_H) (m : Nat) (sc : Nat → Int32) (ar : Nat → Nat → Int32)
def rl_ (bs : Nat) (x : (Int32 × Int32) ⊕ s3_) (r : Option (Unit × Nat × Nat × hc_H)) : Prop := match x with
  | .inl e => ∃ q s, r = some ((), 0, 0, mo_em h m (scf_ (scq_ sc q) e) (ar3_ ar bs s))
  | .inr s => ∃ q, r = some ((), 0, 0, mo_em h m (scq_ sc q) (ar3_ ar bs s))
theorem hd_7 (f i hn : Nat) (hf ht hg : Nat → Int32) : ∀ (r : Nat) (s : s3_) (e : Int32 × Int32), hd_ f i hn hf ht hg r s = .inl e → e.1 = 7 := by
  intro r
  induction r with
  | zero => intro s e h; cases h
  | succ r ih =>
    intro s e h
    rw [hd_] at h
    generalize hx : (if hf (hn - (r + 1)) ≤ nI i ∧ nI i < ht (hn - (r + 1)) then cm_ f (hg (hn - (r + 1))).toNatClampNeg (1, 0) s else Sum.inr s) = x at h
    cases x with
    | inl e' =>
      have h' : (Sum.inl e' : (Int32 × Int32) ⊕ s3_) = Sum.inl e := h
      cases h'
      split at hx
      · exact cm_7 hx
      · cases hx
    | inr s' => exact ih s' e h
theorem look_140 {kx : hM Unit} {X : s3_ → (Int32 × Int32) ⊕ s3_} (b f i : Nat) (hb : b < 2) (hf : f < 12) (hi : i < 400) (q : sq_) (hs : sc 7 = 0) (hn : Nat) (hhn : hn ≤ 6) (e18 : ar 18 (12 * b + f) = nI hn) (hg : ∀ k, k < hn → ∃ t, t < 400 ∧ ar 23 (72 * b + 6 * f + k) = nI t) (x5 x6 x7 x8 : Int32) (s : s3_)
    (H1 : ∀ e s', e.1 = 7 → rl_ h m sc ar (4800 * b + 400 * f) (.inl e) (kx (mo_em h m (scf_ (scq_ sc q) e) (ar3_ ar (4800 * b + 400 * f) s')))) (H2 : ∀ s', rl_ h m sc ar (4800 * b + 400 * f) (X s') (kx (mo_em h m (scq_ sc q) (ar3_ ar (4800 * b + 400 * f) s')))) :
    rl_ h m sc ar (4800 * b + 400 * f) (bi_ (hd_ f i hn (fun k => ar 21 (72 * b + 6 * f + k)) (fun k => ar 22 (72 * b + 6 * f + k)) (fun k => ar 23 (72 * b + 6 * f + k)) hn s) X) (p_Mo_lookAtOne_140 (some m) (nI b) (nI f) (nI i) (nI (12 * b + f)) x5 x6 x7 x8 kx hm_fuel (nI (72 * b + 6 * f)) (mo_em h m (scq_ sc q) (ar3_ ar (4800 * b + 400 * f) s))) := by
  have key := s_look_140 h m (scq_ sc q) ar b f i hb hf hi (by rw [scq_7]; exact hs) hn hhn e18 hg x5 x6 x7 x8 kx hn hm_fuel s (Nat.le_refl _) (by unfold hm_fuel; omega)
  rw [Nat.sub_self, Nat.add_zero] at key
  cases ehd : hd_ f i hn (fun k => ar 21 (72 * b + 6 * f + k)) (fun k => ar 22 (72 * b + 6 * f + k)) (fun k => ar 23 (72 * b + 6 * f + k)) hn s with
  | inl e =>
    rw [ehd] at key
    obtain ⟨s', ek⟩ := key
    rw [ek]
    exact H1 e s' (hd_7 _ _ _ _ _ _ _ _ _ ehd)
  | inr s' =>
    rw [ehd] at key
    rw [key]
    exact H2 s'
theorem i_17 (o : Int32) : ¬ o ≤ 17 ↔ 17 < o := Int32.not_le
theorem s_Mo_lookAtOne (b f n hn i : Nat) (hb : b < 2) (hf : f < 12) (ok : okr_ ar b f n hn) (hi : i < n) (hs : sc 7 = 0) (s : s3_) (hd : ∃ d, d ≤ 16 ∧ s.1 i = nI d) : rl_ h m sc ar (4800 * b + 400 * f) (lkr_ ar b f n hn i s) (p_Mo_lookAtOne (some m) (nI b) (nI f) (nI i) (mo_em h m sc (ar3_ ar (4800 * b + 400 * f) s))) := by
  obtain ⟨e17, hn1, hn4, e18, hhn, hg, hop⟩ := ok
  obtain ⟨hj, hc, hv⟩ := hop i hi
  have hi4 : i < 400 := by omega
  have one : (1 : Int32) ≠ 0 := by decide
  have hin : ¬ (nI (4800 * b + 400 * f + i) < 0 ∨ 9600 ≤ (nI (4800 * b + 400 * f + i)).toNatClampNeg) := nI_in (by omega) (by omega)
  have hcl : (nI (4800 * b + 400 * f + i)).toNatClampNeg = 4800 * b + 400 * f + i := nI_clamp (by omega)
  have hink : ¬ (nI (12 * b + f) < 0 ∨ 24 ≤ (nI (12 * b + f)).toNatClampNeg) := nI_in (by omega) (by omega)
  have hclk : (nI (12 * b + f)).toNatClampNeg = 12 * b + f := nI_clamp (by omega)
  have ek : (12 * nI b) + nI f = nI (12 * b + f) := by rw [show (12 : Int32) = nI 12 by decide, pk_mul, nI_add]
  have eh : (72 * nI b) + (6 * nI f) = nI (72 * b + 6 * f) := by rw [show (72 : Int32) = nI 72 by decide, show (6 : Int32) = nI 6 by decide, pk_mul, pk_mul, nI_add]
  have o15 : ar3_ ar (4800 * b + 400 * f) s 15 = ar 15 := ar3_o _ _ _ (by omega)
  have o16 : ar3_ ar (4800 * b + 400 * f) s 16 = ar 16 := ar3_o _ _ _ (by omega)
  have o13 : ar3_ ar (4800 * b + 400 * f) s 13 = ar 13 := ar3_o _ _ _ (by omega)
  have o19 : ar3_ ar (4800 * b + 400 * f) s 19 = ar 19 := ar3_o _ _ _ (by omega)
  have o20 : ar3_ ar (4800 * b + 400 * f) s 20 = ar 20 := ar3_o _ _ _ (by omega)
  rw [p_Mo_lookAtOne, ix_bs, ix_pl, ek, eh, mo_ref16, mo_ild19, if_neg hin, hcl, o19, mo_ref23, mo_ild26, if_neg hin, hcl, ar3_26 _ _ _ hi4, mo_put27, mo_ref24, mo_ild27, if_neg hin, hcl, ar3_27 _ _ _ hi4, mo_put28, scq_of, mo_ref17, mo_ild20, if_neg hin, hcl, o20, mo_on]
  unfold lkr_ lk_
  dsimp only
  have mvr := s_moves h m sc (ar3_ ar (4800 * b + 400 * f) s) b f hb hf (ar 19 (4800 * b + 400 * f + i)) (ar 20 (4800 * b + 400 * f + i)) (fun z => by obtain ⟨t, h1, h2, c, h3, h4⟩ := hc z; exact ⟨t, h1, h2, c, h3, by rw [o13]; exact h4⟩) (fun z => by
    obtain ⟨t, h1, h2⟩ := hv z
    rw [h2]
    exact ⟨t % 4, by omega, pk_rem (d := 4) (by omega) (by omega) (by omega)⟩) (s.1 i, s.2.1 i) hd
  rw [o15, o16, o13] at mvr
  simp only [hm_jn]
  have wr : ∀ (k : Int32) (q1 : sq_), p_Mo_wrong (some m) k (nI (512 * f + i)) (mo_em h m (scq_ sc q1) (ar3_ ar (4800 * b + 400 * f) s)) = some ((), 0, 0, mo_em h m (scf_ (scq_ sc q1) (k, nI (512 * f + i))) (ar3_ ar (4800 * b + 400 * f) s)) := fun k q1 => by
    rw [s_Mo_wrong, if_pos (by rw [scq_7]; exact hs)]; rfl
  cases emv : mv_ (ar 19 (4800 * b + 400 * f + i)) (ar 20 (4800 * b + 400 * f + i)) (ar 15 (12 * b + f)) (ar 16 (12 * b + f)) (ar 13 (12 * b + (ar 20 (4800 * b + 400 * f + i)).toNatClampNeg)) (ar 15 (12 * b + (ar 20 (4800 * b + 400 * f + i)).toNatClampNeg)) (ar 16 (12 * b + (ar 20 (4800 * b + 400 * f + i)).toNatClampNeg)) (s.1 i, s.2.1 i) with
  | none =>
    rw [emv] at mvr
    obtain ⟨q1, e1⟩ := mvr
    rw [bd_0 e1, ev_ite, if_pos rfl, mo_on, bd_0 (wr 5 q1), mo_get7, scf_7, ev_ite, if_neg (show ¬ (5 : Int32) ≤ 0 by decide)]
    exact ⟨q1, s, rfl⟩
  | some q1 =>
    rw [emv] at mvr
    rw [bd_0 mvr, ev_ite, if_neg one, mo_get27, scq_27, ev_ite]
    by_cases h16 : 16 < q1.1
    · simp only [if_pos h16]
      rw [if_neg (Int32.not_le.mpr h16), mo_on, bd_0 (wr 6 q1), mo_get7, scf_7, ev_ite, if_neg (show ¬ (6 : Int32) ≤ 0 by decide)]
      exact ⟨q1, s, rfl⟩
    · simp only [if_neg h16]
      rw [if_pos (Int32.not_lt.mp h16), mo_get7, scq_7, hs, ev_ite, if_pos (by decide), mo_get27, mo_get28, scq_27, scq_28]
      refine look_140 h m sc ar b f i hb hf hi4 q1 hs hn hhn e18 (fun k hk => by obtain ⟨t, h1, h2⟩ := hg k hk; exact ⟨t, by omega, h2⟩) _ _ _ _ s ?_ ?_
      · intro e s' e7
        have n7 : ¬ scf_ (scq_ sc q1) e 7 = 0 := by rw [scf_7, e7]; decide
        refine ⟨q1, s', ?_⟩
        simp only [mo_get7, ev_ite, if_neg n7, ev_ret, ite_self]
      · intro s'
        have n7 : scq_ sc q1 7 = 0 := by rw [scq_7]; exact hs
        have kk : ∀ s'', rl_ h m sc ar (4800 * b + 400 * f) (if ar 19 (4800 * b + 400 * f + i) = 18 ∨ ar 19 (4800 * b + 400 * f + i) = 27 ∨ ar 19 (4800 * b + 400 * f + i) = 28 then .inr s'' else if i + 1 = n then .inl (8, nI (512 * f + i)) else cm_ f (i + 1) q1 s'') ((if ar 19 (4800 * b + 400 * f + i) = 18 then hm_ret () else (if ar 19 (4800 * b + 400 * f + i) = 27 then hm_ret () else (if ar 19 (4800 * b + 400 * f + i) = 28 then hm_ret () else (hm_bind (hm_geti 8 7 (some m)) fun a22 => if a22 = 0 then (hm_bind (hm_getr 8 14 (some m)) fun a23 => hm_bind (hm_ild 17 a23 (nI (12 * b + f))) fun a24 => if (nI i + 1) = a24 then (hm_bind (hm_on 8 (some m) (p_Mo_wrong (some m) 8 (nI (512 * f + i)))) fun _ => hm_ret ()) else (hm_bind (hm_on 8 (some m) (p_Mo_comeTo (some m) (nI b) (nI f) (nI i + 1) q1.1 q1.2)) fun _ => hm_ret ())) else hm_ret ()))) : hM Unit) (mo_em h m (scq_ sc q1) (ar3_ ar (4800 * b + 400 * f) s''))) := by
          intro s''
          by_cases k1 : ar 19 (4800 * b + 400 * f + i) = 18
          · rw [ev_ite, if_pos k1, if_pos (Or.inl k1)]; exact ⟨q1, rfl⟩
          by_cases k2 : ar 19 (4800 * b + 400 * f + i) = 27
          · rw [ev_ite, if_neg k1, ev_ite, if_pos k2, if_pos (Or.inr (Or.inl k2))]; exact ⟨q1, rfl⟩
          by_cases k3 : ar 19 (4800 * b + 400 * f + i) = 28
          · rw [ev_ite, if_neg k1, ev_ite, if_neg k2, ev_ite, if_pos k3, if_pos (Or.inr (Or.inr k3))]; exact ⟨q1, rfl⟩
          rw [ev_ite, if_neg k1, ev_ite, if_neg k2, ev_ite, if_neg k3, if_neg (fun z => z.elim k1 fun z => z.elim k2 k3), mo_get7, n7, ev_ite, if_pos rfl, mo_ref14, mo_ild17, if_neg hink, hclk, ar3_o _ _ _ (by omega), e17, nI_1, ev_ite]
          by_cases k4 : i + 1 = n
          · rw [if_pos k4, if_pos (by rw [k4]), mo_on]
            have wr8 : p_Mo_wrong (some m) 8 (nI (512 * f + i)) (mo_em h m (scq_ sc q1) (ar3_ ar (4800 * b + 400 * f) s'')) = some ((), 0, 0, mo_em h m (scf_ (scq_ sc q1) (8, nI (512 * f + i))) (ar3_ ar (4800 * b + 400 * f) s'')) := by
              rw [s_Mo_wrong, if_pos n7]; rfl
            rw [bd_0 wr8]
            exact ⟨q1, s'', rfl⟩
          · rw [if_neg k4, if_neg (fun z => k4 ((nI_eq (by omega) (by omega)).mp z)), mo_on]
            have key := s_Mo_comeTo h m (scq_ sc q1) ar b f (i + 1) hb hf (by omega) n7 q1 s''
            cases ec : cm_ f (i + 1) q1 s'' with
            | inl e => rw [ec] at key; rw [bd_0 key]; exact ⟨q1, s'', rfl⟩
            | inr s3 => rw [ec] at key; rw [bd_0 key]; exact ⟨q1, rfl⟩
        by_cases j1 : ar 19 (4800 * b + 400 * f + i) ≤ 17
        · rw [ev_ite, if_pos j1, if_neg (fun z => Int32.not_lt.mpr j1 z.1)]
          exact kk s'
        by_cases j2 : 21 ≤ ar 19 (4800 * b + 400 * f + i)
        · rw [ev_ite, if_neg j1, ev_ite, if_pos j2, if_neg (fun z => Int32.not_lt.mpr j2 z.2)]
          exact kk s'
        obtain ⟨t, ht, et⟩ := hj ⟨Int32.not_le.mp j1, Int32.not_le.mp j2⟩
        rw [ev_ite, if_neg j1, ev_ite, if_neg j2, if_pos ⟨Int32.not_le.mp j1, Int32.not_le.mp j2⟩, mo_get7, n7, ev_ite, if_pos rfl, mo_ref17, mo_ild20, if_neg hin, hcl, ar3_o _ _ _ (by omega), et, nI_clamp (show t < 2 ^ 31 by omega), mo_on]
        have key := s_Mo_comeTo h m (scq_ sc q1) ar b f t hb hf (by omega) n7 q1 s'
        cases ec : cm_ f t q1 s' with
        | inl e =>
          rw [ec] at key
          rw [bd_0 key]
          have m7 : ¬ scf_ (scq_ sc q1) e 7 = 0 := by rw [scf_7, cm_7 ec]; decide
          refine ⟨q1, s', ?_⟩
          simp only [mo_get7, ev_ite, if_neg m7, ev_ret, ite_self]
        | inr s3 =>
          rw [ec] at key
          rw [bd_0 key]
          exact kk s3
end MOL
