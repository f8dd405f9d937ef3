/-! THE REFERENCE: wrong, takes, puts, takesInts, isRow, moves. -/
def scq_ (sc : Nat → Int32) (q : sq_) : Nat → Int32 := fun k => if k = 27 then q.1 else if k = 28 then q.2 else sc k
theorem scq_27 (sc : Nat → Int32) (q : sq_) : scq_ sc q 27 = q.1 := by simp [scq_]
theorem scq_28 (sc : Nat → Int32) (q : sq_) : scq_ sc q 28 = q.2 := by simp [scq_]
theorem scq_7 (sc : Nat → Int32) (q : sq_) : scq_ sc q 7 = sc 7 := by simp [scq_]
theorem scq_u27 (sc : Nat → Int32) (q : sq_) (x : Int32) : va_up (scq_ sc q) 27 x = scq_ sc (x, q.2) := by
  funext k
  simp only [va_up, scq_]
  split <;> rfl
theorem scq_u28 (sc : Nat → Int32) (q : sq_) (x : Int32) : va_up (scq_ sc q) 28 x = scq_ sc (q.1, x) := by
  funext k
  simp only [va_up, scq_]
  by_cases h1 : k = 28
  · subst h1; rfl
  · simp [h1]
theorem scq_self (sc : Nat → Int32) : scq_ sc (sc 27, sc 28) = sc := by
  funext k
  simp only [scq_]
  split
  · next e => rw [e]
  · split
    · next e => rw [e]
    · rfl
section MOS
variable (h : hc_H) (m : Nat) (sc : Nat → Int32) (ar : Nat → Nat → Int32) (q : sq_)
theorem s_Mo_wrong (k p : Int32) : p_Mo_wrong (some m) k p (mo_em h m sc ar) = some ((), 0, 0, mo_em h m (if sc 7 = 0 then va_up (va_up sc 7 k) 8 p else sc) ar) := by
  simp only [p_Mo_wrong, mo_get7, ev_ite]
  split
  · simp only [mo_put7, mo_put8, ev_ret]
  · simp only [ev_ret]
theorem s_Mo_puts (t : Int32) : p_Mo_puts (some m) t (mo_em h m (scq_ sc q) ar) = some ((), 0, 0, mo_em h m (scq_ sc (pt_ t q)) ar) := by
  simp only [p_Mo_puts, mo_get27, mo_get28, mo_put27, mo_put28, ev_ret, scq_27, scq_28, scq_u27, scq_u28, pt_]
theorem s_Mo_takes (t : Int32) : p_Mo_takes (some m) t (mo_em h m (scq_ sc q) ar) = if q.1 = 0 then some (0, 0, 0, mo_em h m (scq_ sc q) ar) else some (if t = 2 ∨ t = tp_ q then 1 else 0, 0, 0, mo_em h m (scq_ sc (dr_ q)) ar) := by
  rw [p_Mo_takes, mo_get27, ev_ite]
  by_cases e : q.1 = 0
  · rw [if_pos e, if_pos (show scq_ sc q 27 = 0 from e), ev_z0]
  · rw [if_neg e, if_neg (show ¬ scq_ sc q 27 = 0 from e)]
    simp only [mo_get27, mo_get28, mo_put27, mo_put28, scq_27, scq_28, scq_u27, scq_u28]
    rw [ev_ite]
    by_cases e1 : t = 2
    · rw [if_pos e1, if_pos (Or.inl e1), ev_z1]
      rfl
    · rw [if_neg e1, ev_ite]
      by_cases e2 : t = tp_ q
      · rw [if_pos (show t = (q.2 >>> ((q.1 - 1) &&& 31)) &&& 1 from e2), if_pos (Or.inr e2), ev_z1]
        rfl
      · rw [if_neg (show ¬ t = (q.2 >>> ((q.1 - 1) &&& 31)) &&& 1 from e2), if_neg (fun z => z.elim e1 e2), ev_z0]
        rfl
theorem s_Mo_isRow (x1 x2 : Int32) (hx : ¬ (x1 < 0 ∨ 24 ≤ x1.toNatClampNeg)) : p_Mo_isRow (some m) x1 x2 (mo_em h m sc ar) = some (((ar 15 x1.toNatClampNeg) >>> (x2 &&& 31)) &&& 1, 0, 0, mo_em h m sc ar) := by
  simp only [p_Mo_isRow, mo_ref12, mo_ild15, if_neg hx, ev_ret]
theorem tk_some {t : Int32} {q q' : sq_} (e : tk_ t q = some q') : ¬ q.1 = 0 ∧ (t = 2 ∨ t = tp_ q) ∧ q' = dr_ q := by
  unfold tk_ at e
  split at e
  · cases e
  · next h1 =>
    split at e
    · next h2 => cases e; exact ⟨h1, h2, rfl⟩
    · cases e
theorem tk_none {t : Int32} {q : sq_} (e : tk_ t q = none) : q.1 = 0 ∨ (¬ q.1 = 0 ∧ ¬ (t = 2 ∨ t = tp_ q)) := by
  unfold tk_ at e
  split at e
  · next h1 => exact Or.inl h1
  · next h1 =>
    split at e
    · cases e
    · next h2 => exact Or.inr ⟨h1, h2⟩
theorem s_takes_ok {t : Int32} {q' : sq_} (e : tk_ t q = some q') : p_Mo_takes (some m) t (mo_em h m (scq_ sc q) ar) = some (1, 0, 0, mo_em h m (scq_ sc q') ar) := by
  obtain ⟨h1, h2, rfl⟩ := tk_some e
  rw [s_Mo_takes, if_neg h1, if_pos h2]
theorem s_takes_no {t : Int32} (e : tk_ t q = none) : ∃ q', p_Mo_takes (some m) t (mo_em h m (scq_ sc q) ar) = some (0, 0, 0, mo_em h m (scq_ sc q') ar) := by
  rcases tk_none e with h1 | ⟨h1, h2⟩
  · exact ⟨q, by rw [s_Mo_takes, if_pos h1]⟩
  · exact ⟨dr_ q, by rw [s_Mo_takes, if_neg h1, if_neg h2]⟩
theorem s_takesInts_0 (n : Nat) (hn : n < 1000) (kx : Int32 → hM Int32) : ∀ (r fu : Nat), r ≤ n → r < fu → p_Mo_takesInts_4 (some m) (nI n) kx fu 0 (nI (n - r)) (mo_em h m (scq_ sc q) ar) = kx 0 (mo_em h m (scq_ sc q) ar) := by
  intro r
  induction r with
  | zero =>
    intro fu _ hf
    obtain ⟨g, rfl⟩ : ∃ g, fu = g + 1 := ⟨fu - 1, by omega⟩
    rw [p_Mo_takesInts_4, ev_ite, if_pos (by rw [Nat.sub_zero]; exact nI_le (Nat.le_refl n) (by omega))]
  | succ r ih =>
    intro fu hr hf
    obtain ⟨g, rfl⟩ : ∃ g, fu = g + 1 := ⟨fu - 1, by omega⟩
    rw [p_Mo_takesInts_4, ev_ite, if_neg (nI_ge (by omega) (by omega))]
    simp only [hm_jn, ev_ite, if_true]
    rw [nI_1, show n - (r + 1) + 1 = n - r by omega]
    exact ih g (by omega) (by omega)
theorem s_takesInts_4 (n : Nat) (hn : n < 1000) (kx : Int32 → hM Int32) : ∀ (r fu : Nat) (q : sq_), r ≤ n → r < fu → (∀ q', tki_ r q = some q' → p_Mo_takesInts_4 (some m) (nI n) kx fu 1 (nI (n - r)) (mo_em h m (scq_ sc q) ar) = kx 1 (mo_em h m (scq_ sc q') ar)) ∧ (tki_ r q = none → ∃ q', p_Mo_takesInts_4 (some m) (nI n) kx fu 1 (nI (n - r)) (mo_em h m (scq_ sc q) ar) = kx 0 (mo_em h m (scq_ sc q') ar)) := by
  intro r
  induction r with
  | zero =>
    intro fu q _ hf
    obtain ⟨g, rfl⟩ : ∃ g, fu = g + 1 := ⟨fu - 1, by omega⟩
    refine ⟨fun q' e => ?_, fun e => by cases e⟩
    cases e
    rw [p_Mo_takesInts_4, ev_ite, if_pos (by rw [Nat.sub_zero]; exact nI_le (Nat.le_refl n) (by omega))]
  | succ r ih =>
    intro fu q hr hf
    obtain ⟨g, rfl⟩ : ∃ g, fu = g + 1 := ⟨fu - 1, by omega⟩
    have one : (1 : Int32) ≠ 0 := by decide
    have step : p_Mo_takesInts_4 (some m) (nI n) kx (g + 1) 1 (nI (n - (r + 1))) (mo_em h m (scq_ sc q) ar) = hm_bind (p_Mo_takes (some m) 0) (fun a2 => if a2 = 0 then p_Mo_takesInts_4 (some m) (nI n) kx g 0 (nI (n - r)) else p_Mo_takesInts_4 (some m) (nI n) kx g 1 (nI (n - r))) (mo_em h m (scq_ sc q) ar) := by
      rw [p_Mo_takesInts_4, ev_ite, if_neg (nI_ge (by omega) (by omega))]
      simp only [hm_jn, ev_ite, if_neg one, mo_on]
      rw [nI_1, show n - (r + 1) + 1 = n - r by omega]
    rw [step]
    cases e : tk_ 0 q with
    | none =>
      obtain ⟨q1, e1⟩ := s_takes_no h m sc ar q e
      rw [bd_0 e1, ev_ite, if_pos rfl, s_takesInts_0 h m sc ar q1 n hn kx r g (by omega) (by omega)]
      exact ⟨fun q' e' => by simp [tki_, e] at e', fun _ => ⟨q1, rfl⟩⟩
    | some q1 =>
      rw [bd_0 (s_takes_ok h m sc ar q e), ev_ite, if_neg one]
      have := ih g q1 (by omega) (by omega)
      simpa [tki_, e] using this
theorem s_takesInts_ok (n : Nat) (hn : n < 1000) {q' : sq_} (e : tki_ n q = some q') : p_Mo_takesInts (some m) (nI n) (mo_em h m (scq_ sc q) ar) = some (1, 0, 0, mo_em h m (scq_ sc q') ar) := by
  have := (s_takesInts_4 h m sc ar n hn (fun v => hm_z v) n hm_fuel q (Nat.le_refl n) (by unfold hm_fuel; omega)).1 q' e
  rw [Nat.sub_self] at this
  rw [p_Mo_takesInts]
  exact this.trans (ev_z1 _)
theorem s_takesInts_no (n : Nat) (hn : n < 1000) (e : tki_ n q = none) : ∃ q', p_Mo_takesInts (some m) (nI n) (mo_em h m (scq_ sc q) ar) = some (0, 0, 0, mo_em h m (scq_ sc q') ar) := by
  obtain ⟨q', this⟩ := (s_takesInts_4 h m sc ar n hn (fun v => hm_z v) n hm_fuel q (Nat.le_refl n) (by unfold hm_fuel; omega)).2 e
  rw [Nat.sub_self] at this
  exact ⟨q', by rw [p_Mo_takesInts]; exact this.trans (ev_z0 _)⟩
end MOS
