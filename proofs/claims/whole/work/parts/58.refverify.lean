/-! THE REFERENCE: verify -/
/-- the least that waits, among the last r below n -/
def lwf_ (w : Nat → Int32) (n : Nat) : Nat → Option Nat
  | 0 => none
  | r + 1 => if w (n - (r + 1)) = 0 then lwf_ w n r else some (n - (r + 1))
/-- g turns: the least that waits is looked at -/
def vy_ (look : Nat → s3_ → (Int32 × Int32) ⊕ s3_) (n : Nat) : Nat → s3_ → (Int32 × Int32) ⊕ s3_
  | 0, s => .inr s
  | g + 1, s => match lwf_ s.2.2 n n with
    | none => .inr s
    | some i => bi_ (look i (s.1, s.2.1, va_up s.2.2 i 0)) (vy_ look n g)
def z3_ : s3_ := (fun _ => -1, fun _ => 0, fun _ => 0)
/-- a function is verified: 0 is come to, then n turns -/
def vf_ (look : Nat → s3_ → (Int32 × Int32) ⊕ s3_) (f n : Nat) : (Int32 × Int32) ⊕ s3_ := bi_ (cm_ f 0 (0, 0) z3_) (vy_ look n n)
theorem lwf_some {w : Nat → Int32} {n : Nat} : ∀ (r : Nat) {i : Nat}, r ≤ n → lwf_ w n r = some i → i < n ∧ n - r ≤ i ∧ ¬ w i = 0
  | 0, _, _, e => by cases e
  | r + 1, i, hr, e => by
    rw [lwf_] at e
    split at e
    · obtain ⟨h1, h2, h3⟩ := lwf_some r (by omega) e
      exact ⟨h1, by omega, h3⟩
    · next h => cases e; exact ⟨by omega, Nat.le_refl _, h⟩
theorem scq_scq (sc : Nat → Int32) (q q' : sq_) : scq_ (scq_ sc q) q' = scq_ sc q' := by
  funext k
  simp only [scq_]
  split
  · rfl
  · split <;> rfl
theorem iv_off {n i : Nat} {s : s3_} (hI : iv_ n s) (hi : i < n) (hw : ¬ s.2.2 i = 0) : iv_ n (s.1, s.2.1, va_up s.2.2 i 0) ∧ nu_ n (s.1, s.2.1, va_up s.2.2 i 0) + 1 = nu_ n s ∧ ∃ d, d ≤ 16 ∧ s.1 i = nI d := by
  have hd : ∃ d, d ≤ 16 ∧ s.1 i = nI d := by
    rcases hI i hi with ⟨-, h⟩ | h
    · exact absurd h hw
    · exact h
  refine ⟨fun j hj => ?_, ?_, hd⟩
  · rcases hI j hj with ⟨h1, h2⟩ | h
    · by_cases e : j = i
      · subst e; exact absurd h2 hw
      · exact Or.inl ⟨h1, by simp only [va_up_ne _ _ e]; exact h2⟩
    · exact Or.inr h
  · unfold nu_
    have := ct_off (p := fun j => decide (¬ s.2.2 j = 0)) (p' := fun j => decide (¬ va_up s.2.2 i 0 j = 0)) n hi (fun j _ hne => by simp only [va_up_ne _ _ hne]) (by simpa using hw) (by simp [va_up])
    dsimp only
    omega
theorem lk_ne0 {f n hn i : Nat} {op vv hf ht hg rb rs cp : Nat → Int32} {s : s3_} {e : Int32 × Int32} (h : lk_ f n op vv hn hf ht hg rb rs cp i s = .inl e) : ¬ e.1 = 0 := by
  unfold lk_ at h
  split at h
  · cases h; exact (by decide : ¬ (5 : Int32) = 0)
  next q emv =>
  split at h
  · cases h; exact (by decide : ¬ (6 : Int32) = 0)
  next h16 =>
  generalize hx : hd_ f i hn hf ht hg hn s = x at h
  cases x with
  | inl e' =>
    have h : (Sum.inl e' : (Int32 × Int32) ⊕ s3_) = .inl e := h
    cases h
    rw [hd_7 _ _ _ _ _ _ _ _ _ hx]; decide
  | inr s1 =>
    have h : bi_ (if 17 < op i ∧ op i < 21 then cm_ f (vv i).toNatClampNeg q s1 else .inr s1) (fun s => if op i = 18 ∨ op i = 27 ∨ op i = 28 then .inr s else if i + 1 = n then .inl (8, nI (512 * f + i)) else cm_ f (i + 1) q s) = .inl e := h
    generalize hy : (if 17 < op i ∧ op i < 21 then cm_ f (vv i).toNatClampNeg q s1 else .inr s1 : (Int32 × Int32) ⊕ s3_) = y at h
    cases y with
    | inl e' =>
      have h : (Sum.inl e' : (Int32 × Int32) ⊕ s3_) = .inl e := h
      cases h
      split at hy
      · rw [cm_7 hy]; decide
      · cases hy
    | inr s2 =>
      have h : (if op i = 18 ∨ op i = 27 ∨ op i = 28 then .inr s2 else if i + 1 = n then .inl (8, nI (512 * f + i)) else cm_ f (i + 1) q s2 : (Int32 × Int32) ⊕ s3_) = .inl e := h
      split at h
      · cases h
      · split at h
        · cases h; exact (by decide : ¬ (8 : Int32) = 0)
        · rw [cm_7 h]; decide
theorem iv_lkr {ar : Nat → Nat → Int32} {b f n hn i : Nat} (ok : okr_ ar b f n hn) {s s' : s3_} (hI : iv_ n s) (hi : i < n) (hd : ∃ d, d ≤ 16 ∧ s.1 i = nI d) (e : lkr_ ar b f n hn i s = .inr s') : iv_ n s' ∧ nu_ n s' = nu_ n s := by
  obtain ⟨e17, hn1, hn4, e18, hhn, hg, hop⟩ := ok
  obtain ⟨hj, hc, hv⟩ := hop i hi
  exact iv_lk (f := f) (n := n) (hn := hn) (i := i) (op := fun j => ar 19 (4800 * b + 400 * f + j)) (vv := fun j => ar 20 (4800 * b + 400 * f + j)) (hf := fun k => ar 21 (72 * b + 6 * f + k)) (ht := fun k => ar 22 (72 * b + 6 * f + k)) (hg := fun k => ar 23 (72 * b + 6 * f + k)) (rb := fun g => ar 15 (12 * b + g)) (rs := fun g => ar 16 (12 * b + g)) (cp := fun g => ar 13 (12 * b + g)) hn4 hg hj (fun z => by
    obtain ⟨t, h1, h2⟩ := hv z
    rw [h2, show nI t - nI t / 4 * 4 = nI (t % 4) from pk_rem (d := 4) (by omega) (by omega) (by omega), nI_clamp (by omega)]
    omega) hI hi hd e
section MOV
variable (h : hc_H) (m : Nat) (sc : Nat → Int32) (ar : Nat → Nat → Int32)
theorem s_verify_84 (b f n hn : Nat) (hb : b < 2) (hf : f < 12) (ok : okr_ ar b f n hn) (hs : sc 7 = 0) (kx : hM Unit) : ∀ (fu g r : Nat) (s : s3_) (q : sq_), r ≤ n → iv_ n s → nu_ n s ≤ g → lwf_ s.2.2 n n = lwf_ s.2.2 n r → 401 * g + r < fu →
    match vy_ (lkr_ ar b f n hn) n g s with
    | .inl e => ∃ q' s', ¬ e.1 = 0 ∧ p_Mo_verify_84 (some m) (nI b) (nI f) (nI (12 * b + f)) kx fu (nI (n - r)) (mo_em h m (scq_ sc q) (ar3_ ar (4800 * b + 400 * f) s)) = kx (mo_em h m (scf_ (scq_ sc q') e) (ar3_ ar (4800 * b + 400 * f) s'))
    | .inr s' => ∃ q', p_Mo_verify_84 (some m) (nI b) (nI f) (nI (12 * b + f)) kx fu (nI (n - r)) (mo_em h m (scq_ sc q) (ar3_ ar (4800 * b + 400 * f) s)) = kx (mo_em h m (scq_ sc q') (ar3_ ar (4800 * b + 400 * f) s')) := by
  obtain ⟨e17, hn1, hn4, e18, hhn, hg, hop⟩ := id ok
  have hink : ¬ (nI (12 * b + f) < 0 ∨ 24 ≤ (nI (12 * b + f)).toNatClampNeg) := nI_in (by omega) (by omega)
  have hclk : (nI (12 * b + f)).toNatClampNeg = 12 * b + f := nI_clamp (by omega)
  intro fu
  induction fu with
  | zero => intro g r s q _ _ _ _ hfu; omega
  | succ fu ih =>
    intro g r s q hr hI hnu hlw hfu
    have n7 : scq_ sc q 7 = 0 := by rw [scq_7]; exact hs
    have head : p_Mo_verify_84 (some m) (nI b) (nI f) (nI (12 * b + f)) kx (fu + 1) (nI (n - r)) (mo_em h m (scq_ sc q) (ar3_ ar (4800 * b + 400 * f) s)) = if nI n ≤ nI (n - r) then kx (mo_em h m (scq_ sc q) (ar3_ ar (4800 * b + 400 * f) s)) else (hm_bind (hm_getr 8 25 (some m)) fun a7 => hm_bind (hm_ild 28 a7 (nI (n - r))) fun a8 => if a8 = 0 then (p_Mo_verify_84 (some m) (nI b) (nI f) (nI (12 * b + f)) kx fu (nI (n - r) + 1)) else (hm_bind (hm_getr 8 25 (some m)) fun a9 => hm_bind (hm_ist 28 a9 (nI (n - r)) (0 &&& 1)) fun _ => hm_bind (hm_on 8 (some m) (p_Mo_lookAtOne (some m) (nI b) (nI f) (nI (n - r)))) fun _ => p_Mo_verify_84 (some m) (nI b) (nI f) (nI (12 * b + f)) kx fu 0)) (mo_em h m (scq_ sc q) (ar3_ ar (4800 * b + 400 * f) s)) := by
      rw [p_Mo_verify_84, mo_get7, n7, ev_ite, if_pos rfl, mo_ref14, mo_ild17, if_neg hink, hclk, ar3_o _ _ _ (by omega), e17, ev_ite]
    rw [head]
    cases r with
    | zero =>
      rw [if_pos (by rw [Nat.sub_zero]; exact nI_le (Nat.le_refl _) (by omega))]
      have : vy_ (lkr_ ar b f n hn) n g s = .inr s := by
        cases g with
        | zero => rfl
        | succ g => rw [vy_, hlw]; rfl
      rw [this]
      exact ⟨q, rfl⟩
    | succ r =>
      have hj4 : n - (r + 1) < 400 := by omega
      have hin : ¬ (nI (n - (r + 1)) < 0 ∨ 400 ≤ (nI (n - (r + 1))).toNatClampNeg) := nI_in (by omega) (by omega)
      have hcl : (nI (n - (r + 1))).toNatClampNeg = n - (r + 1) := nI_clamp (by omega)
      rw [if_neg (nI_ge (by omega) (by omega)), mo_ref25, mo_ild28, if_neg hin, hcl, ar3_28 _ _ _ hj4, ev_ite]
      by_cases hw : s.2.2 (n - (r + 1)) = 0
      · rw [if_pos hw, nI_1, show n - (r + 1) + 1 = n - r by omega]
        exact ih g r s q (by omega) hI hnu (by rw [hlw, lwf_, if_pos hw]) (by omega)
      · rw [if_neg hw, mo_ref25, mo_ist28, if_neg hin, hcl, ar3_u28 _ _ _ hj4, mo_on]
        obtain ⟨i1, n1, hd⟩ := iv_off hI (show n - (r + 1) < n by omega) hw
        obtain ⟨g, rfl⟩ : ∃ k, g = k + 1 := ⟨g - 1, by omega⟩
        obtain ⟨hj, hc, hv⟩ := hop (n - (r + 1)) (by omega)
        have key := s_Mo_lookAtOne h m (scq_ sc q) ar b f n hn (n - (r + 1)) hb hf ok (by omega) n7 (s.1, s.2.1, va_up s.2.2 (n - (r + 1)) 0) hd
        have hv' : vy_ (lkr_ ar b f n hn) n (g + 1) s = bi_ (lkr_ ar b f n hn (n - (r + 1)) (s.1, s.2.1, va_up s.2.2 (n - (r + 1)) 0)) (vy_ (lkr_ ar b f n hn) n g) := by
          rw [vy_, hlw, lwf_, if_neg hw]
        rw [hv', show (0 : Int32) &&& 1 = 0 by decide]
        cases el : lkr_ ar b f n hn (n - (r + 1)) (s.1, s.2.1, va_up s.2.2 (n - (r + 1)) 0) with
        | inl e =>
          rw [el] at key
          obtain ⟨q', s', ek⟩ := key
          rw [scq_scq] at ek
          rw [bd_0 ek]
          have e7 : ¬ e.1 = 0 := lk_ne0 el
          refine ⟨q', s', e7, ?_⟩
          obtain ⟨fu, rfl⟩ : ∃ k, fu = k + 1 := ⟨fu - 1, by omega⟩
          rw [p_Mo_verify_84, mo_get7, scf_7, ev_ite, if_neg e7]
        | inr s' =>
          rw [el] at key
          obtain ⟨q', ek⟩ := key
          rw [scq_scq] at ek
          rw [bd_0 ek]
          have hlk := iv_lkr ok i1 (show n - (r + 1) < n by omega) hd el
          have := ih g n s' q' (Nat.le_refl _) hlk.1 (by omega) rfl (by omega)
          rw [Nat.sub_self] at this
          exact this
/-- from j on all is cleared -/
def cl_ (j : Nat) (s : s3_) : s3_ := (fun i => if j ≤ i then -1 else s.1 i, fun i => if j ≤ i then 0 else s.2.1 i, fun i => if j ≤ i then 0 else s.2.2 i)
theorem s_verify_10 (b f : Nat) (hb : b < 2) (hf : f < 12) (x3 : Int32) (kx : hM Unit) : ∀ (r fu : Nat) (s : s3_), r ≤ 400 → r < fu → p_Mo_verify_10 (some m) (nI b) (nI f) x3 kx fu (nI (400 - r)) (mo_em h m sc (ar3_ ar (4800 * b + 400 * f) s)) = kx (mo_em h m sc (ar3_ ar (4800 * b + 400 * f) (cl_ (400 - r) s))) := by
  intro r
  induction r with
  | zero =>
    intro fu s _ hfu
    obtain ⟨g, rfl⟩ : ∃ g, fu = g + 1 := ⟨fu - 1, by omega⟩
    rw [p_Mo_verify_10, ev_ite, if_pos (by rw [Nat.sub_zero]; exact nI_le (a := 400) (Nat.le_refl _) (by omega))]
    congr 2
    refine ar3_ext (fun i hi => ?_)
    simp only [cl_]
    rw [if_neg (by omega), if_neg (by omega), if_neg (by omega)]
    exact ⟨rfl, rfl, rfl⟩
  | succ r ih =>
    intro fu s hr hfu
    obtain ⟨g, rfl⟩ : ∃ g, fu = g + 1 := ⟨fu - 1, by omega⟩
    have hj4 : 400 - (r + 1) < 400 := by omega
    have hin : ¬ (nI (4800 * b + 400 * f + (400 - (r + 1))) < 0 ∨ 9600 ≤ (nI (4800 * b + 400 * f + (400 - (r + 1)))).toNatClampNeg) := nI_in (by omega) (by omega)
    have hcl : (nI (4800 * b + 400 * f + (400 - (r + 1)))).toNatClampNeg = 4800 * b + 400 * f + (400 - (r + 1)) := nI_clamp (by omega)
    have hin2 : ¬ (nI (400 - (r + 1)) < 0 ∨ 400 ≤ (nI (400 - (r + 1))).toNatClampNeg) := nI_in (by omega) (by omega)
    have hcl2 : (nI (400 - (r + 1))).toNatClampNeg = 400 - (r + 1) := nI_clamp (by omega)
    rw [p_Mo_verify_10, ev_ite, if_neg (show ¬ (400 : Int32) ≤ nI (400 - (r + 1)) from nI_ge (b := 400) (by omega) (by omega)), ix_bs, mo_ref25, mo_ist28, if_neg hin2, hcl2, ar3_u28 _ _ _ hj4, mo_ref23, mo_ist26, if_neg hin, hcl, ar3_u26 _ _ _ hj4, mo_ref24, mo_ist27, if_neg hin, hcl, ar3_u27 _ _ _ hj4, nI_1, show 400 - (r + 1) + 1 = 400 - r by omega, ih g _ (by omega) (by omega)]
    congr 2
    refine ar3_ext (fun i hi => ?_)
    simp only [cl_, va_up]
    by_cases h1 : 400 - r ≤ i
    · rw [if_pos h1, if_pos h1, if_pos h1, if_pos (by omega), if_pos (by omega), if_pos (by omega)]
      exact ⟨rfl, rfl, rfl⟩
    · rw [if_neg h1, if_neg h1, if_neg h1]
      by_cases h2 : i = 400 - (r + 1)
      · subst h2
        simp
      · rw [if_neg h2, if_neg h2, if_neg h2, if_neg (by omega), if_neg (by omega), if_neg (by omega)]
        exact ⟨rfl, rfl, rfl⟩
theorem z3_iv (f n : Nat) (hn : 1 ≤ n) : ∃ s, cm_ f 0 (0, 0) z3_ = .inr s ∧ iv_ n s ∧ nu_ n s ≤ n := by
  refine ⟨_, if_pos (show (-1 : Int32) < 0 by decide), ?_, ?_⟩
  · intro i hi
    by_cases e : i = 0
    · subst e; exact Or.inr ⟨0, by omega, rfl⟩
    · exact Or.inl ⟨by simp only [va_up_ne _ _ e]; exact (by decide : (-1 : Int32) < 0), by simp only [va_up_ne _ _ e]; rfl⟩
  · have hI : iv_ n z3_ := fun i hi => Or.inl ⟨by show (-1 : Int32) < 0; decide, rfl⟩
    have := (iv_cm (f := f) (i := 0) (q := (0, 0)) hI hn ⟨0, by omega, rfl⟩ (if_pos (show (-1 : Int32) < 0 by decide))).2
    rw [this]
    unfold nu_
    have h1 := ct_le (fun i => decide (z3_.1 i < 0)) n
    have h2 : ∀ n, ct_ (fun i => decide (¬ z3_.2.2 i = 0)) n = 0 := by
      intro n
      induction n with
      | zero => rfl
      | succ n ih => rw [ct_, ih]; rfl
    rw [h2]
    exact h1
/-- THE REFERENCE VERIFIES as the specification says -/
theorem s_Mo_verify (b f n hn : Nat) (hb : b < 2) (hf : f < 12) (ok : okr_ ar b f n hn) (hs : sc 7 = 0) :
    match vf_ (lkr_ ar b f n hn) f n with
    | .inl e => ∃ q s, ¬ e.1 = 0 ∧ p_Mo_verify (some m) (nI b) (nI f) (mo_em h m sc ar) = some ((), 0, 0, mo_em h m (scf_ (scq_ sc q) e) (ar3_ ar (4800 * b + 400 * f) s))
    | .inr s => ∃ q, p_Mo_verify (some m) (nI b) (nI f) (mo_em h m sc ar) = some ((), 0, 0, mo_em h m (scq_ sc q) (ar3_ ar (4800 * b + 400 * f) s)) := by
  have ek : (12 * nI b) + nI f = nI (12 * b + f) := by rw [show (12 : Int32) = nI 12 by decide, pk_mul, nI_add]
  obtain ⟨s1, ec, i1, n1⟩ := z3_iv f n ok.2.1
  have hn4 := ok.2.2.1
  have start : p_Mo_verify (some m) (nI b) (nI f) (mo_em h m sc ar) = p_Mo_verify_84 (some m) (nI b) (nI f) (nI (12 * b + f)) (hm_ret ()) hm_fuel 0 (mo_em h m (scq_ sc (sc 27, sc 28)) (ar3_ ar (4800 * b + 400 * f) s1)) := by
    rw [p_Mo_verify, ek]
    have c := s_verify_10 h m sc ar b f hb hf (nI (12 * b + f)) (hm_bind (hm_on 8 (some m) (p_Mo_comeTo (some m) (nI b) (nI f) 0 0 0)) fun _ => p_Mo_verify_84 (some m) (nI b) (nI f) (nI (12 * b + f)) (hm_ret ()) hm_fuel 0) 400 hm_fuel (fun i => ar 26 (4800 * b + 400 * f + i), fun i => ar 27 (4800 * b + 400 * f + i), fun i => ar 28 i) (Nat.le_refl _) (by unfold hm_fuel; omega)
    rw [ar3_self, Nat.sub_self] at c
    refine c.trans ?_
    have z : cl_ 0 (fun i => ar 26 (4800 * b + 400 * f + i), fun i => ar 27 (4800 * b + 400 * f + i), fun i => ar 28 i) = z3_ := by
      simp only [cl_, Nat.zero_le, if_true]; rfl
    rw [z, mo_on]
    have key := s_Mo_comeTo h m sc ar b f 0 hb hf (by omega) hs (0, 0) z3_
    rw [ec] at key
    rw [scq_self]
    exact bd_0 key
  rw [start]
  have key := s_verify_84 h m sc ar b f n hn hb hf ok hs (hm_ret ()) hm_fuel n n s1 (sc 27, sc 28) (Nat.le_refl _) i1 n1 rfl (by unfold hm_fuel; omega)
  rw [Nat.sub_self] at key
  unfold vf_
  rw [ec]
  exact key
end MOV
