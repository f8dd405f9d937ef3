/-! THE REFERENCE reads a function -/
section MRF
variable (h : hc_H) (m : Nat) (sc : Nat → Int32) (B : Nat → Int32) (N : Nat)
abbrev IB_ (B : Nat → Int32) : (Nat → Nat → Int32) → Prop := fun ar => ar 10 = B
theorem mnt_ (n : Nat) (hn : n ≤ 8) (lo hi : Int32) : rt_ (Em_ h m sc) (IB_ B) sb0_ (hm_on 8 (some m) (p_Mo_numberNext (some m) (nI n) lo hi)) (fun _ => True) :=
  rt_on (fun ar _ _ => mo_on1 h m _ ar _) (rt_number h m sc B n hn lo hi)
variable {sc N}
theorem mno_ (e2 : sc 2 = nI N) (hN : N ≤ 4096) (ar : Nat → Nat → Int32) (hB : ar 10 = B) (n : Nat) (hn : n ≤ 8) (lo hi : Int32) : ro_ (Em_ h m sc) N (IB_ B) sb0_ (hm_on 8 (some m) (p_Mo_numberNext (some m) (nI n) lo hi)) ar (nn_ B N n lo hi) (fun v => v) (fun _ => ar) (fun _ => True) :=
  ro_on (fun ar _ _ => mo_on1 h m _ ar _) (ro_number h m sc B N e2 hN ar hB n hn lo hi)
/-- a write behind the bank that stands -/
def u2_ (ar : Nat → Nat → Int32) (k j : Nat) (x : Int32) : Nat → Nat → Int32 := va_up ar k (va_up (ar k) j x)
theorem u2_B {ar : Nat → Nat → Int32} {k : Nat} (hk : 12 ≤ k) (j : Nat) (x : Int32) (hB : ar 10 = B) : u2_ ar k j x 10 = B := (va_up_ne _ _ (by omega)).trans hB
theorem u2_s (ar : Nat → Nat → Int32) (k j : Nat) (x : Int32) : u2_ ar k j x k j = x := by
  unfold u2_
  rw [va_up_self, va_up_self]
theorem u2_k (ar : Nat → Nat → Int32) {k k' : Nat} (j : Nat) (x : Int32) (hk : k' ≠ k) : u2_ ar k j x k' = ar k' := va_up_ne _ _ hk
theorem u2_sb (ar : Nat → Nat → Int32) {k j : Nat} (hk : 12 ≤ k) (hj : bk_ k ≤ j) (x : Int32) : sb0_ ar (u2_ ar k j x) := sb0_up ar hk hj x
theorem bk_12 {k : Nat} (h1 : 13 ≤ k) (h2 : k ≤ 18) : bk_ k = 12 := by
  unfold bk_
  rw [if_neg (by omega), if_pos (by omega)]
theorem bk_72 {k : Nat} (h1 : 21 ≤ k) (h2 : k ≤ 25) : bk_ k = 72 := by
  unfold bk_
  rw [if_neg (by omega), if_neg (by omega), if_neg (by omega), if_pos (by omega)]
theorem bk_48 {k : Nat} (h1 : 19 ≤ k) (h2 : k ≤ 20) : bk_ k = 4800 := by
  unfold bk_
  rw [if_neg (by omega), if_neg (by omega), if_pos (by omega)]
theorem ix12 (f : Nat) : 12 + nI f = nI (12 + f) := nI_add 12 f
theorem ix48 (f i : Nat) : (4800 + (400 * nI f)) + nI i = nI (4800 + 400 * f + i) := by
  rw [show (4800 : Int32) = nI 4800 by decide, show (400 : Int32) = nI 400 by decide, pk_mul, nI_add, nI_add]
theorem ix72 (f i : Nat) : (72 + (6 * nI f)) + nI i = nI (72 + 6 * f + i) := by
  rw [show (72 : Int32) = nI 72 by decide, show (6 : Int32) = nI 6 by decide, pk_mul, nI_add, nI_add]
/-! one instruction -/
def mi3_ (m f i : Nat) (o w : Int32) : hM Unit := hm_bind (hm_getr 8 16 (some m)) fun a3 => hm_bind (hm_ist 19 a3 ((4800 + (400 * nI f)) + nI i) o) fun _ => hm_bind (hm_getr 8 17 (some m)) fun a4 => hm_bind (hm_ist 20 a4 ((4800 + (400 * nI f)) + nI i) w) fun _ => hm_ret ()
def mw_ (ar : Nat → Nat → Int32) (f i : Nat) (d : Int32 × Int32) : Nat → Nat → Int32 := u2_ (u2_ ar 19 (4800 + 400 * f + i) d.1) 20 (4800 + 400 * f + i) d.2
theorem mw_sb (ar : Nat → Nat → Int32) (f i : Nat) (d : Int32 × Int32) : sb0_ ar (mw_ ar f i d) := sb0_tr _ _ _ (u2_sb ar (by omega) (by rw [bk_48 (by omega) (by omega)]; omega) d.1) (u2_sb _ (by omega) (by rw [bk_48 (by omega) (by omega)]; omega) d.2)
theorem mi3_e (f i : Nat) (hf : f < 12) (hi : i < 400) (o w : Int32) (ar : Nat → Nat → Int32) (p : Int32) (ft : Int32 × Int32) : mi3_ m f i o w (Em_ h m sc ar p ft) = some ((), 0, 0, Em_ h m sc (mw_ ar f i (o, w)) p ft) := by
  have hin : ¬ (nI (4800 + 400 * f + i) < 0 ∨ 9600 ≤ (nI (4800 + 400 * f + i)).toNatClampNeg) := nI_in (by omega) (by omega)
  have hcl : (nI (4800 + 400 * f + i)).toNatClampNeg = 4800 + 400 * f + i := nI_clamp (by omega)
  rw [mi3_, ix48, mo_ref16, mo_ist19, if_neg hin, hcl, mo_ref17, mo_ist20, if_neg hin, hcl, ev_ret]
  rfl
theorem mi3_t (f i : Nat) (hf : f < 12) (hi : i < 400) (o w : Int32) : rt_ (Em_ h m sc) (IB_ B) sb0_ (mi3_ m f i o w) (fun _ => True) := fun ar p ft hB _ => ⟨(), mw_ ar f i (o, w), p, trivial, u2_B B (by omega) _ _ (u2_B B (by omega) _ _ hB), mw_sb _ _ _ _, mi3_e h m f i hf hi o w ar p ft⟩
def mi2_ (m f i : Nat) (x3 x4 a1 : Int32) : hM Unit :=
  if a1 = 0 then hm_bind (hm_on 8 (some m) (p_Mo_numberNext (some m) 4 (-2147483648) 2147483647)) fun v => mi3_ m f i a1 v
  else if a1 = 4 ∨ a1 = 5 then hm_bind (hm_getr 8 11 (some m)) fun a5 => hm_bind (hm_ild 14 a5 (12 + nI f)) fun a6 => hm_bind (hm_on 8 (some m) (p_Mo_numberNext (some m) 1 0 (a6 - 1))) fun v => mi3_ m f i a1 v
  else if a1 ≤ 17 ∨ 21 ≤ a1 then (if a1 = 25 then hm_bind (hm_on 8 (some m) (p_Mo_numberNext (some m) 1 0 (x4 - 1))) fun v => mi3_ m f i a1 v else if a1 = 26 ∨ a1 = 29 then hm_bind (hm_on 8 (some m) (p_Mo_numberNext (some m) 1 0 15)) fun v => mi3_ m f i a1 v else mi3_ m f i a1 0)
  else hm_bind (hm_on 8 (some m) (p_Mo_numberNext (some m) 2 0 (x3 - 1))) fun v => mi3_ m f i a1 v
theorem mi_eq (f i : Nat) (x3 x4 : Int32) : p_Mo_readInstruction (some m) (nI f) (nI i) x3 x4 = hm_bind (hm_on 8 (some m) (p_Mo_numberNext (some m) 1 0 29)) fun a1 => mi2_ m f i x3 x4 a1 := by
  unfold p_Mo_readInstruction
  refine congrArg _ (funext fun a1 => ?_)
  unfold mi2_
  simp only [hm_jn]
  by_cases h0 : a1 = 0
  · rw [if_pos h0, if_pos h0]; rfl
  · rw [if_neg h0, if_neg h0]
    by_cases h4 : a1 = 4
    · rw [if_pos h4, if_pos (Or.inl h4)]; rfl
    · rw [if_neg h4]
      by_cases h5 : a1 = 5
      · rw [if_pos h5, if_pos (Or.inr h5)]; rfl
      · rw [if_neg h5, if_neg (fun z : a1 = 4 ∨ a1 = 5 => z.elim h4 h5)]
        have tail : (if a1 = 25 then hm_bind (hm_on 8 (some m) (p_Mo_numberNext (some m) 1 0 (x4 - 1))) fun v => mi3_ m f i a1 v else if a1 = 26 then hm_bind (hm_on 8 (some m) (p_Mo_numberNext (some m) 1 0 15)) fun v => mi3_ m f i a1 v else if a1 = 29 then hm_bind (hm_on 8 (some m) (p_Mo_numberNext (some m) 1 0 15)) fun v => mi3_ m f i a1 v else mi3_ m f i a1 0) = (if a1 = 25 then hm_bind (hm_on 8 (some m) (p_Mo_numberNext (some m) 1 0 (x4 - 1))) fun v => mi3_ m f i a1 v else if a1 = 26 ∨ a1 = 29 then hm_bind (hm_on 8 (some m) (p_Mo_numberNext (some m) 1 0 15)) fun v => mi3_ m f i a1 v else mi3_ m f i a1 0) := by
          by_cases h25 : a1 = 25
          · rw [if_pos h25, if_pos h25]
          · rw [if_neg h25, if_neg h25]
            by_cases h26 : a1 = 26
            · rw [if_pos h26, if_pos (Or.inl h26)]
            · rw [if_neg h26]
              by_cases h29 : a1 = 29
              · rw [if_pos h29, if_pos (Or.inr h29)]
              · rw [if_neg h29, if_neg (fun z => z.elim h26 h29)]
        by_cases h17 : a1 ≤ 17
        · rw [if_pos h17, if_pos (Or.inl h17)]; exact tail
        · rw [if_neg h17]
          by_cases h21 : 21 ≤ a1
          · rw [if_pos h21, if_pos (Or.inr h21)]; exact tail
          · rw [if_neg h21, if_neg (fun z : a1 ≤ 17 ∨ 21 ≤ a1 => z.elim h17 h21)]; rfl
theorem mi2_t (f i : Nat) (hf : f < 12) (hi : i < 400) (x3 x4 a1 : Int32) : rt_ (Em_ h m sc) (IB_ B) sb0_ (mi2_ m f i x3 x4 a1) (fun _ => True) := by
  have hin : ¬ (nI (12 + f) < 0 ∨ 24 ≤ (nI (12 + f)).toNatClampNeg) := nI_in (by omega) (by omega)
  have nx : ∀ (n : Nat) (lo hi : Int32), n ≤ 8 → rt_ (Em_ h m sc) (IB_ B) sb0_ (hm_bind (hm_on 8 (some m) (p_Mo_numberNext (some m) (nI n) lo hi)) fun v => mi3_ m f i a1 v) (fun _ => True) := fun n lo hi' hn => rt_bind sb0_tr (mnt_ h m sc B n hn lo hi') (fun v _ => mi3_t h m B f i hf hi a1 v)
  unfold mi2_
  by_cases h0 : a1 = 0
  · rw [if_pos h0]; exact nx 4 _ _ (by omega)
  rw [if_neg h0]
  by_cases h4 : a1 = 4 ∨ a1 = 5
  · rw [if_pos h4]
    exact rt_pre2 sb0_tr (m' := fun hi => hm_bind (hm_on 8 (some m) (p_Mo_numberNext (some m) 1 0 (hi - 1))) fun v => mi3_ m f i a1 v) (fun ar p ft hB _ => ⟨_, ar, hB, sb0_rfl _, by rw [mo_ref11, ix12, mo_ild14, if_neg hin]⟩) (fun hi' => nx 1 _ _ (by omega))
  rw [if_neg h4]
  by_cases h17 : a1 ≤ 17 ∨ 21 ≤ a1
  · rw [if_pos h17]
    by_cases h25 : a1 = 25
    · rw [if_pos h25]; exact nx 1 _ _ (by omega)
    · rw [if_neg h25]
      by_cases h26 : a1 = 26 ∨ a1 = 29
      · rw [if_pos h26]; exact nx 1 _ _ (by omega)
      · rw [if_neg h26]; exact mi3_t h m B f i hf hi a1 0
  · rw [if_neg h17]; exact nx 2 _ _ (by omega)
theorem mi2_o (e2 : sc 2 = nI N) (hN : N ≤ 4096) (f i : Nat) (hf : f < 12) (hi : i < 400) (ar : Nat → Nat → Int32) (hB : ar 10 = B) (lo x3 x4 o : Int32) (ho : ¬ o < 0 ∧ ¬ 29 < o) (elo : ar 14 (12 + f) = lo) : ro_ (Em_ h m sc) N (IB_ B) sb0_ (mi2_ m f i x3 x4 o) ar (sbd_ (nn_ B N (bb_ o) (lb_ o) (mb_ o lo x3 x4)) fun v => sre_ (o, v)) (fun _ => ()) (fun d => mw_ ar f i d) (fun _ => True) := by
  have hin : ¬ (nI (12 + f) < 0 ∨ 24 ≤ (nI (12 + f)).toNatClampNeg) := nI_in (by omega) (by omega)
  have hcl : (nI (12 + f)).toNatClampNeg = 12 + f := nI_clamp (by omega)
  have m3 : ∀ v, ro_ (Em_ h m sc) N (IB_ B) sb0_ (mi3_ m f i o v) ar (sre_ (o, v)) (fun _ => ()) (fun d => mw_ ar f i d) (fun _ => True) := fun v p ft hp hft => ⟨hp, u2_B B (by omega) _ _ (u2_B B (by omega) _ _ hB), mw_sb _ _ _ _, mi3_e h m f i hf hi o v ar _ ft⟩
  have nx : ∀ (n : Nat) (l u : Int32), n ≤ 8 → ro_ (Em_ h m sc) N (IB_ B) sb0_ (hm_bind (hm_on 8 (some m) (p_Mo_numberNext (some m) (nI n) l u)) fun v => mi3_ m f i o v) ar (sbd_ (nn_ B N n l u) fun v => sre_ (o, v)) (fun _ => ()) (fun d => mw_ ar f i d) (fun _ => True) := fun n l u hn => ro_bind sb0_tr (mno_ h m B e2 hN ar hB n hn l u) (fun v _ _ _ => m3 v) (fun v _ => mi3_t h m B f i hf hi o v)
  obtain ⟨j, hj, rfl⟩ : ∃ j, j ≤ 29 ∧ o = nI j := nI_of2 (M := 29) (n := 29) (by decide) ho.1 (Int32.not_lt.mp ho.2)
  have g3 := gtp_iff (o := nI j) ⟨j, hj, rfl⟩
  unfold mi2_ bb_ lb_ mb_
  by_cases h0 : nI j = 0
  · rw [if_pos h0, if_pos h0, if_pos h0, if_pos h0]; exact nx 4 _ _ (by omega)
  rw [if_neg h0, if_neg h0, if_neg h0, if_neg h0]
  by_cases h4 : nI j = 4 ∨ nI j = 5
  · have h45 : nI j = 4 ∨ nI j = 5 ∨ nI j = 25 ∨ nI j = 26 ∨ nI j = 29 := h4.elim Or.inl (fun z => Or.inr (Or.inl z))
    rw [if_pos h4, if_pos h45, if_pos h4]
    refine ro_pre0 sb0_tr (c' := ar) (m' := hm_bind (hm_on 8 (some m) (p_Mo_numberNext (some m) 1 0 (lo - 1))) fun v => mi3_ m f i (nI j) v) (sb0_rfl _) (fun p ft _ => by rw [mo_ref11, ix12, mo_ild14, if_neg hin, hcl, elo]) (nx 1 _ _ (by omega))
  rw [if_neg h4, if_neg h4]
  by_cases h18 : nI j = 18 ∨ nI j = 19 ∨ nI j = 20
  · have h45 : ¬ (nI j = 4 ∨ nI j = 5 ∨ nI j = 25 ∨ nI j = 26 ∨ nI j = 29) := by
      rintro (z | z | z | z | z)
      · exact h4 (Or.inl z)
      · exact h4 (Or.inr z)
      all_goals (rw [z] at h18; exact absurd h18 (by decide))
    have h17 := g3.mp h18
    rw [if_neg (show ¬ (nI j ≤ 17 ∨ 21 ≤ nI j) from fun z => z.elim (Int32.not_le.mpr h17.1) (Int32.not_le.mpr h17.2)), if_neg h45, if_pos h18, if_pos h18]
    exact nx 2 _ _ (by omega)
  · have h17 : nI j ≤ 17 ∨ 21 ≤ nI j := by
      by_cases c1 : nI j ≤ 17
      · exact Or.inl c1
      · by_cases c2 : 21 ≤ nI j
        · exact Or.inr c2
        · exact absurd (g3.mpr ⟨Int32.not_le.mp c1, Int32.not_le.mp c2⟩) h18
    rw [if_pos h17, if_neg h18, if_neg h18]
    by_cases h25 : nI j = 25
    · rw [if_pos h25, if_pos (show nI j = 4 ∨ nI j = 5 ∨ nI j = 25 ∨ nI j = 26 ∨ nI j = 29 from Or.inr (Or.inr (Or.inl h25))), if_pos h25]
      exact nx 1 _ _ (by omega)
    · rw [if_neg h25, if_neg h25]
      by_cases h26 : nI j = 26 ∨ nI j = 29
      · have h45 : nI j = 4 ∨ nI j = 5 ∨ nI j = 25 ∨ nI j = 26 ∨ nI j = 29 := Or.inr (Or.inr (Or.inr h26))
        rw [if_pos h26, if_pos h45, if_pos h26]
        exact nx 1 _ _ (by omega)
      · have h45 : ¬ (nI j = 4 ∨ nI j = 5 ∨ nI j = 25 ∨ nI j = 26 ∨ nI j = 29) := by
          rintro (z | z | z | z)
          · exact h4 (Or.inl z)
          · exact h4 (Or.inr z)
          · exact h25 z
          · exact h26 z
        rw [if_neg h26, if_neg h45, if_neg h26]
        refine ro_eq (m3 0) (fun p => ?_)
        rfl
def mws_ (f : Nat) : (Nat → Nat → Int32) → Nat → List (Int32 × Int32) → (Nat → Nat → Int32)
  | ar, _, [] => ar
  | ar, i, d :: l => mws_ f (mw_ ar f i d) (i + 1) l
theorem mlp_t (f : Nat) (hf : f < 12) (x2 x : Int32) (kx : hM Unit) (hk : rt_ (Em_ h m sc) (IB_ B) sb0_ kx (fun _ => True)) (fu : Nat) : rt_ (Em_ h m sc) (IB_ B) sb0_ (p_Mo_readFunction_109 (some m) (nI f) x2 (nI (12 + f)) kx (fu + 1) x) (fun _ => True) := by
  have hin : ¬ (nI (12 + f) < 0 ∨ 24 ≤ (nI (12 + f)).toNatClampNeg) := nI_in (by omega) (by omega)
  refine rt_pre2 sb0_tr (ι := Unit) (m' := fun _ => kx) (fun ar p ft hB hft => ⟨(), ar, hB, sb0_rfl _, ?_⟩) (fun _ => hk)
  rw [p_Mo_readFunction_109, mo_ref14, mo_ild17, if_neg hin, ev_ite]
  split
  · rfl
  · rw [mo_get7, sp_7, ev_ite, if_neg (lt_ne hft)]
theorem mlp_o (e2 : sc 2 = nI N) (hN : N ≤ 4096) (f : Nat) (hf : f < 12) (n : Nat) (hn : n ≤ 400) (lo x2 : Int32) (kx : hM Unit) (hk : rt_ (Em_ h m sc) (IB_ B) sb0_ kx (fun _ => True)) {δ : Type} {T : List (Int32 × Int32) → rs_ δ} {upd : δ → Nat → Nat → Int32} : ∀ (r fu : Nat) (ar : Nat → Nat → Int32), r ≤ n → r < fu → ar 10 = B → ar 17 (12 + f) = nI n → ar 14 (12 + f) = lo → (∀ l, l.length = r → mws_ f ar (n - r) l 10 = B → ro_ (Em_ h m sc) N (IB_ B) sb0_ kx (mws_ f ar (n - r) l) (T l) (fun _ => ()) upd (fun _ => True)) → ro_ (Em_ h m sc) N (IB_ B) sb0_ (p_Mo_readFunction_109 (some m) (nI f) x2 (nI (12 + f)) kx fu (nI (n - r))) ar (sbd_ (sls_ (si_ B N lo (nI n) x2) r) T) (fun _ => ()) upd (fun _ => True) := by
  have hin : ¬ (nI (12 + f) < 0 ∨ 24 ≤ (nI (12 + f)).toNatClampNeg) := nI_in (by omega) (by omega)
  have hcl : (nI (12 + f)).toNatClampNeg = 12 + f := nI_clamp (by omega)
  intro r
  induction r generalizing T with
  | zero =>
    intro fu ar _ hfu hB e17 e14 hT
    obtain ⟨u, rfl⟩ : ∃ u, fu = u + 1 := ⟨fu - 1, by omega⟩
    refine ro_pre0 sb0_tr (c' := ar) (m' := kx) (sb0_rfl _) (fun p ft _ => ?_) (hT [] rfl hB)
    rw [p_Mo_readFunction_109, mo_ref14, mo_ild17, if_neg hin, hcl, e17, ev_ite, if_pos (nI_le (by omega) (by omega))]
  | succ r ih =>
    intro fu ar hr hfu hB e17 e14 hT
    obtain ⟨u, rfl⟩ : ∃ u, fu = u + 1 := ⟨fu - 1, by omega⟩
    obtain ⟨u, rfl⟩ : ∃ k, u = k + 1 := ⟨u - 1, by omega⟩
    have hi4 : n - (r + 1) < 400 := by omega
    have tL := mlp_t h m B f hf x2 (nI (n - r)) kx hk u (sc := sc)
    have inst : rt_ (Em_ h m sc) (IB_ B) sb0_ (p_Mo_readInstruction (some m) (nI f) (nI (n - (r + 1))) (nI n) x2) (fun _ => True) := by
      rw [mi_eq]
      exact rt_bind sb0_tr (mnt_ h m sc B 1 (by omega) 0 29) (fun v _ => mi2_t h m B f _ hf hi4 _ _ v)
    refine ro_pre0 sb0_tr (c' := ar) (m' := hm_bind (p_Mo_readInstruction (some m) (nI f) (nI (n - (r + 1))) (nI n) x2) fun _ => p_Mo_readFunction_109 (some m) (nI f) x2 (nI (12 + f)) kx (u + 1) (nI (n - r))) (sb0_rfl _) (fun p ft hft => ?_) ?_
    · rw [p_Mo_readFunction_109, mo_ref14, mo_ild17, if_neg hin, hcl, e17, ev_ite, if_neg (nI_ge (by omega) (by omega)), mo_get7, sp_7, ev_ite, if_pos hft, mo_ref14, mo_ild17, if_neg hin, hcl, e17, mo_on, nI_1, show n - (r + 1) + 1 = n - r by omega]
    · have io : ro_ (Em_ h m sc) N (IB_ B) sb0_ (p_Mo_readInstruction (some m) (nI f) (nI (n - (r + 1))) (nI n) x2) ar (si_ B N lo (nI n) x2) (fun _ => ()) (fun d => mw_ ar f (n - (r + 1)) d) (fun _ => True) := by
        rw [mi_eq]
        exact ro_bind sb0_tr (mno_ h m B e2 hN ar hB 1 (by omega) 0 29) (fun o p p' hs => mi2_o h m B e2 hN f _ hf hi4 ar hB lo (nI n) x2 o (nn_in hs) e14) (fun v _ => mi2_t h m B f _ hf hi4 _ _ v)
      have key := ro_bind sb0_tr (T := fun d => sbd_ (sls_ (si_ B N lo (nI n) x2) r) fun l => T (d :: l)) (val2 := fun _ => ()) (upd2 := upd) (D' := fun _ => True) (k := fun _ => p_Mo_readFunction_109 (some m) (nI f) x2 (nI (12 + f)) kx (u + 1) (nI (n - r))) io (fun d _ _ _ => ?_) (fun _ _ => tL)
      · refine ro_eq key (fun p => ?_)
        rw [sls_, sbd_as]
        refine sbd_c _ (fun o p => ?_) p
        rw [sbd_as]
        exact sbd_c _ (fun l p => rfl) p
      · have hB' : mw_ ar f (n - (r + 1)) d 10 = B := u2_B B (by omega) _ _ (u2_B B (by omega) _ _ hB)
        refine ih (u + 1) (mw_ ar f (n - (r + 1)) d) (by omega) (by omega) hB' ?_ ?_ (fun l hl hBl => ?_)
        · rw [mw_, u2_k _ _ _ (by decide), u2_k _ _ _ (by decide)]; exact e17
        · rw [mw_, u2_k _ _ _ (by decide), u2_k _ _ _ (by decide)]; exact e14
        · have := hT (d :: l) (by rw [List.length_cons, hl])
          rw [mws_, show n - (r + 1) + 1 = n - r by omega] at this
          exact this hBl
end MRF
