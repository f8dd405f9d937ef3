/-! THE REFERENCE: give, cut, poke, turnOver, byteAt -/
section MOB
variable (h : hc_H) (m : Nat) (sc : Nat → Int32) (ar : Nat → Nat → Int32)
def bz_ (v : Int64) (k : Nat) : Int32 := Int64.toInt32 ((v >>> (Int32.toInt64 (8 * nI k) &&& 63)) &&& 255)
theorem s_Mo_give_35 (v : Int64) (kx : hM Int32) : ∀ (r fu : Nat) (sc : Nat → Int32) (ar : Nat → Nat → Int32) (c : Nat), sc 2 = nI c → c + r ≤ 4096 → r ≤ 8 → r < fu → p_Mo_give_35 (some m) v kx fu (nI r + (-1)) (mo_em h m sc ar) = kx (mo_em h m (va_up sc 2 (nI (c + r))) (va_up ar 10 (wb_ (ar 10) (bz_ v) r c))) := by
  intro r
  induction r with
  | zero =>
    intro fu sc ar c e2 _ _ hf
    obtain ⟨g, rfl⟩ : ∃ g, fu = g + 1 := ⟨fu - 1, by omega⟩
    rw [p_Mo_give_35, ev_ite, if_pos (show nI 0 + (-1) < 0 by decide)]
    have e1 : va_up sc 2 (nI (c + 0)) = sc := by
      funext k; simp only [va_up]; split
      · next q => rw [q, e2]; rfl
      · rfl
    have e3 : va_up ar 10 (wb_ (ar 10) (bz_ v) 0 c) = ar := by
      funext k; simp only [va_up]; split
      · next q => rw [q]; rfl
      · rfl
    rw [e1, e3]
  | succ r ih =>
    intro fu sc ar c e2 hr h8 hf
    obtain ⟨g, rfl⟩ : ∃ g, fu = g + 1 := ⟨fu - 1, by omega⟩
    have hin : ¬ (nI c < 0 ∨ 4096 ≤ (nI c).toNatClampNeg) := nI_in (by omega) (by omega)
    rw [pk_m1, p_Mo_give_35, ev_ite, if_neg (nI_pos (by omega)), mo_ref1, mo_get2, e2, mo_ist10, if_neg hin, nI_clamp (by omega), mo_get2, e2, nI_1, mo_put2, ih g _ _ (c + 1) (va_up_self _ _ _) (by omega) (by omega) (by omega)]
    rw [bx_uu, va_up_self, bx_uu, show c + 1 + r = c + (r + 1) by omega]
    rfl
theorem s_Mo_give {c : Nat} (e2 : sc 2 = nI c) (hc : c ≤ 4096) (v : Int64) (x : Int32) : p_Mo_give (some m) v x (mo_em h m sc ar) = if x < 1 ∨ 8 < x ∨ 4096 < c + x.toNatClampNeg then some (0, 0, 0, mo_em h m (va_up sc 0 0) ar) else some (1, 0, 0, mo_em h m (va_up (va_up sc 0 0) 2 (nI (c + x.toNatClampNeg))) (va_up ar 10 (wb_ (ar 10) (bz_ v) x.toNatClampNeg c))) := by
  rw [p_Mo_give, mo_put0, ev_ite]
  by_cases h0 : x < 1
  · rw [if_pos h0, if_pos (Or.inl h0), ev_z0]
  · rw [if_neg h0, ev_ite]
    by_cases h1 : 8 < x
    · rw [if_pos h1, if_pos (Or.inr (Or.inl h1)), ev_z0]
    · obtain ⟨n, hn, rfl⟩ : ∃ n, n ≤ 8 ∧ x = nI n := nI_of2 (M := 8) (n := 8) (by decide) (fun z => h0 (Int32.lt_trans z (by decide))) (Int32.not_lt.mp h1)
      have e2' : va_up sc 0 0 2 = nI c := by rw [va_up_ne _ _ (by decide)]; exact e2
      rw [if_neg h1, mo_get2, e2', nI_add, ev_ite, nI_clamp (by omega)]
      by_cases h2 : 4096 < c + n
      · rw [if_neg (show ¬ nI (c + n) ≤ 4096 from nI_ge (a := 4096) h2 (by omega)), if_pos (Or.inr (Or.inr h2)), ev_z0]
      · rw [if_pos (show nI (c + n) ≤ 4096 from nI_le (b := 4096) (by omega) (by omega)), if_neg (fun z => z.elim h0 (fun z => z.elim h1 h2)), show nI n - 1 = nI n + (-1) from Int32.sub_eq_add_neg _ _, s_Mo_give_35 h m v (hm_z 1) n hm_fuel _ _ c e2' (by omega) hn (by unfold hm_fuel; omega), ev_z1]
theorem s_Mo_cut {c : Nat} (e2 : sc 2 = nI c) (x : Int32) : p_Mo_cut (some m) x (mo_em h m sc ar) = if x < 0 ∨ nI c < x then some (0, 0, 0, mo_em h m (va_up sc 0 0) ar) else some (1, 0, 0, mo_em h m (va_up (va_up sc 0 0) 2 x) ar) := by
  have e2' : va_up sc 0 0 2 = nI c := by rw [va_up_ne _ _ (by decide)]; exact e2
  rw [p_Mo_cut, mo_put0, ev_ite]
  by_cases h0 : x < 0
  · rw [if_pos h0, if_pos (Or.inl h0), ev_z0]
  · rw [if_neg h0, mo_get2, e2', ev_ite]
    by_cases h1 : x ≤ nI c
    · rw [if_pos h1, if_neg (fun z => z.elim h0 (Int32.not_lt.mpr h1)), mo_put2, ev_z1]
    · rw [if_neg h1, if_pos (Or.inr (Int32.not_le.mp h1)), ev_z0]
theorem s_Mo_poke {c : Nat} (e2 : sc 2 = nI c) (hc : c ≤ 4096) (x y : Int32) : p_Mo_poke (some m) x y (mo_em h m sc ar) = if x < 0 ∨ nI c ≤ x then some (0, 0, 0, mo_em h m (va_up sc 0 0) ar) else some (1, 0, 0, mo_em h m (va_up sc 0 0) (va_up ar 10 (va_up (ar 10) x.toNatClampNeg (y &&& 255)))) := by
  have e2' : va_up sc 0 0 2 = nI c := by rw [va_up_ne _ _ (by decide)]; exact e2
  rw [p_Mo_poke, mo_put0, ev_ite]
  by_cases h0 : x < 0
  · rw [if_pos h0, if_pos (Or.inl h0), ev_z0]
  · rw [if_neg h0, mo_get2, e2', ev_ite]
    by_cases h1 : nI c ≤ x
    · rw [if_neg (Int32.not_lt.mpr h1), if_pos (Or.inr h1), ev_z0]
    · obtain ⟨k, hk, rfl⟩ := nI_ex h0 h1 (by omega)
      have hin : ¬ (nI k < 0 ∨ 4096 ≤ (nI k).toNatClampNeg) := nI_in (by omega) (by omega)
      rw [if_pos (Int32.not_le.mp h1), if_neg (fun z => z.elim h0 h1), mo_ref1, mo_ist10, if_neg hin, ev_z1]
theorem s_Mo_byteAt {c d : Nat} (e2 : sc 2 = nI c) (hc : c ≤ 4096) (e4 : sc 4 = nI d) (hd : d ≤ 26000) (x z : Int32) : p_Mo_byteAt (some m) x z (mo_em h m sc ar) = some (if z = 0 then (if x < 0 ∨ nI d ≤ x then -1 else ar 11 x.toNatClampNeg) else (if x < 0 ∨ nI c ≤ x then -1 else ar 10 x.toNatClampNeg), 0, 0, mo_em h m (va_up sc 0 0) ar) := by
  have e2' : va_up sc 0 0 2 = nI c := by rw [va_up_ne _ _ (by decide)]; exact e2
  have e4' : va_up sc 0 0 4 = nI d := by rw [va_up_ne _ _ (by decide)]; exact e4
  rw [p_Mo_byteAt, mo_put0, ev_ite]
  by_cases h0 : x < 0
  · rw [if_pos h0, if_pos (Or.inl h0), if_pos (Or.inl h0), ev_ret]
    split <;> rfl
  · rw [if_neg h0]
    simp only [hm_jn]
    by_cases hz : z = 0
    · simp only [if_pos hz]
      rw [mo_get4, e4', ev_ite]
      by_cases h1 : nI d ≤ x
      · rw [if_neg (Int32.not_lt.mpr h1), if_pos (Or.inr h1), ev_ret]
      · obtain ⟨k, hk, rfl⟩ := nI_ex h0 h1 (by omega)
        have hin : ¬ (nI k < 0 ∨ 26000 ≤ (nI k).toNatClampNeg) := nI_in (by omega) (by omega)
        rw [if_pos (Int32.not_le.mp h1), if_neg (fun z : nI k < 0 ∨ nI d ≤ nI k => z.elim h0 h1), mo_ref3, mo_ild11, if_neg hin, ev_ret]
    · simp only [if_neg hz]
      rw [mo_get2, e2', ev_ite]
      by_cases h1 : nI c ≤ x
      · rw [if_neg (Int32.not_lt.mpr h1), if_pos (Or.inr h1), ev_ret]
      · obtain ⟨k, hk, rfl⟩ := nI_ex h0 h1 (by omega)
        have hin : ¬ (nI k < 0 ∨ 4096 ≤ (nI k).toNatClampNeg) := nI_in (by omega) (by omega)
        rw [if_pos (Int32.not_le.mp h1), if_neg (fun z : nI k < 0 ∨ nI c ≤ nI k => z.elim h0 h1), mo_ref1, mo_ild10, if_neg hin, ev_ret]
theorem s_Mo_turn_27 (kx : hM Int32) : ∀ (r fu : Nat) (sc : Nat → Int32) (ar : Nat → Nat → Int32) (c : Nat), sc 2 = nI c → c ≤ 4096 → r ≤ c → r < fu → ∃ g, p_Mo_turnOver_27 (some m) kx fu (nI (c - r)) (mo_em h m sc ar) = kx (mo_em h m sc (va_up ar 10 g)) ∧ ∀ j, g j = if c - r ≤ j ∧ j < c then ar 11 j else ar 10 j := by
  intro r
  induction r with
  | zero =>
    intro fu sc ar c e2 hc _ hf
    obtain ⟨g, rfl⟩ : ∃ g, fu = g + 1 := ⟨fu - 1, by omega⟩
    refine ⟨ar 10, ?_, fun j => (if_neg (by omega)).symm⟩
    rw [p_Mo_turnOver_27, mo_get2, e2, ev_ite, if_pos (nI_le (by omega) (by omega))]
    have e3 : va_up ar 10 (ar 10) = ar := by
      funext k; simp only [va_up]; split
      · next q => rw [q]
      · rfl
    rw [e3]
  | succ r ih =>
    intro fu sc ar c e2 hc hr hf
    obtain ⟨g, rfl⟩ : ∃ g, fu = g + 1 := ⟨fu - 1, by omega⟩
    have hin : ¬ (nI (c - (r + 1)) < 0 ∨ 4096 ≤ (nI (c - (r + 1))).toNatClampNeg) := nI_in (by omega) (by omega)
    have hin2 : ¬ (nI (c - (r + 1)) < 0 ∨ 26000 ≤ (nI (c - (r + 1))).toNatClampNeg) := nI_in (by omega) (by omega)
    have hcl : (nI (c - (r + 1))).toNatClampNeg = c - (r + 1) := nI_clamp (by omega)
    obtain ⟨g', e1, e3⟩ := ih g sc (va_up ar 10 (va_up (ar 10) (c - (r + 1)) (ar 11 (c - (r + 1))))) c e2 hc (by omega) (by omega)
    refine ⟨g', ?_, fun j => ?_⟩
    · rw [p_Mo_turnOver_27, mo_get2, e2, ev_ite, if_neg (nI_ge (by omega) (by omega)), mo_ref1, mo_ref3, mo_ild11, if_neg hin2, hcl, mo_ist10, if_neg hin, hcl, nI_1, show c - (r + 1) + 1 = c - r by omega, e1, bx_uu]
    · rw [e3 j, va_up_self, va_up_ne _ _ (show (11 : Nat) ≠ 10 by decide)]
      by_cases c1 : c - r ≤ j ∧ j < c
      · rw [if_pos c1, if_pos (by omega)]
      · rw [if_neg c1]
        by_cases c2 : j = c - (r + 1)
        · rw [c2, va_up_self, if_pos (by omega)]
        · rw [va_up_ne _ _ c2, if_neg (by omega)]
theorem s_Mo_turnOver {d : Nat} (e4 : sc 4 = nI d) (hd : d ≤ 26000) : if 4096 < d then p_Mo_turnOver (some m) (mo_em h m sc ar) = some (0, 0, 0, mo_em h m (va_up sc 0 0) ar) else ∃ g, p_Mo_turnOver (some m) (mo_em h m sc ar) = some (1, 0, 0, mo_em h m (va_up (va_up sc 0 0) 2 (nI d)) (va_up ar 10 g)) ∧ ∀ j, j < d → g j = ar 11 j := by
  have e4' : va_up sc 0 0 4 = nI d := by rw [va_up_ne _ _ (by decide)]; exact e4
  rw [p_Mo_turnOver, mo_put0, mo_get4, e4', ev_ite]
  by_cases c : 4096 < d
  · rw [if_pos c, if_neg (show ¬ nI d ≤ 4096 from nI_ge (a := 4096) c (by omega)), ev_z0]
  · rw [if_neg c, if_pos (show nI d ≤ 4096 from nI_le (b := 4096) (by omega) (by omega)), mo_get4, e4', mo_put2]
    obtain ⟨g, e1, e2⟩ := s_Mo_turn_27 h m (hm_z 1) d hm_fuel (va_up (va_up sc 0 0) 2 (nI d)) ar d (va_up_self _ _ _) (by omega) (Nat.le_refl _) (by unfold hm_fuel; omega)
    rw [Nat.sub_self] at e1
    refine ⟨g, ?_, fun j hj => by rw [e2 j, if_pos (by omega)]⟩
    refine Eq.trans e1 ?_
    rw [ev_z1]
/-- the class's bytes and the reference's -/
def rb_ (c : Nat) (f g : Nat → Int32) : Prop := ∀ j, j < c → f j &&& 255 = g j
theorem rb_wb {v w : Nat → Int32} (hv : ∀ k, v k &&& 255 = w k) : ∀ (r : Nat) {c : Nat} {f g : Nat → Int32}, rb_ c f g → rb_ (c + r) (wb_ f v r c) (wb_ g w r c)
  | 0, _, _, _, h => h
  | r + 1, c, f, g, h => by
    rw [wb_, wb_, show c + (r + 1) = c + 1 + r by omega]
    refine rb_wb hv r (fun j hj => ?_)
    by_cases e : j = c
    · subst e; rw [va_up_self, va_up_self]; exact hv r
    · rw [va_up_ne _ _ e, va_up_ne _ _ e]; exact h j (by omega)
theorem by_bz (v : Int64) (k : Nat) : sx_ (by_ v k) &&& 255 = bz_ v k := by
  rw [sx_255, by_, l32_255]; rfl
end MOB
