/-! THE SPECIFICATION: no bit of the kinds lies at or above the height -/
def wf_ (d : Nat) (q : sq_) : Prop := q.1 = nI d ∧ ∀ j, d ≤ j → j < 32 → bt q.2 j = false
theorem bt_and1 (x : Int32) {j : Nat} (hj : j < 32) (h0 : j ≠ 0) : bt (x &&& 1) j = false := by
  rw [b_and, bt_1 j hj, decide_eq_false h0, Bool.and_false]
theorem dr_wf {d : Nat} {q : sq_} (h : wf_ (d + 1) q) (hd : d < 31) : wf_ d (dr_ q) := by
  have e1 : q.1 - 1 = nI d := by rw [h.1]; exact pk_sub (a := d + 1) (b := 1) (by omega)
  refine ⟨e1, fun j h1 h2 => ?_⟩
  show bt (q.2 &&& (((1 : Int32) <<< ((q.1 - 1) &&& 31)) - 1)) j = false
  rw [e1, b_and, bt_mask d hd j h2, decide_eq_false (by omega), Bool.and_false]
theorem pt_wf {d : Nat} {q : sq_} {t : Int32} (h : wf_ d q) (hd : d < 31) (ht : ∀ j, j < 32 → j ≠ 0 → bt t j = false) : wf_ (d + 1) (pt_ t q) := by
  refine ⟨pt_h h.1, fun j h1 h2 => ?_⟩
  show bt (q.2 ||| (t <<< (q.1 &&& 31))) j = false
  rw [h.1, b_or, h.2 j (by omega) h2, b_shl d (by omega) t h2, ht (j - d) (by omega) (by omega), Bool.and_false, Bool.or_false]
theorem tk_wf {d : Nat} {q q' : sq_} {t : Int32} (h : wf_ d q) (hd : d ≤ 31) (e : tk_ t q = some q') : ∃ d', d' + 1 = d ∧ wf_ d' q' := by
  obtain ⟨h0, -, rfl⟩ := tk_some e
  obtain ⟨k, hk, -⟩ := i_sub1 h.1 h0
  subst hk
  exact ⟨k, rfl, dr_wf h (by omega)⟩
theorem tki_wf : ∀ (n : Nat) {q q' : sq_} {d : Nat}, wf_ d q → d ≤ 31 → tki_ n q = some q' → ∃ d', d' + n = d ∧ wf_ d' q'
  | 0, q, q', d, hd, _, e => by cases e; exact ⟨d, rfl, hd⟩
  | n + 1, q, q', d, hd, h31, e => by
    rw [tki_] at e
    obtain ⟨q1, e1, e2⟩ := ob_some e
    obtain ⟨d1, h1, h2⟩ := tk_wf hd h31 e1
    obtain ⟨d2, h3, h4⟩ := tki_wf n h2 (by omega) e2
    exact ⟨d2, by omega, h4⟩
theorem tkc_wf (bits : Int32) : ∀ (n : Nat) {q q' : sq_} {d : Nat}, wf_ d q → d ≤ 31 → tkc_ bits n q = some q' → ∃ d', d' + n = d ∧ wf_ d' q'
  | 0, q, q', d, hd, _, e => by cases e; exact ⟨d, rfl, hd⟩
  | n + 1, q, q', d, hd, h31, e => by
    rw [tkc_] at e
    obtain ⟨q1, e1, e2⟩ := ob_some e
    obtain ⟨d1, h1, h2⟩ := tk_wf hd h31 e1
    obtain ⟨d2, h3, h4⟩ := tkc_wf bits n h2 (by omega) e2
    exact ⟨d2, by omega, h4⟩
theorem bt_0n : ∀ j, j < 32 → j ≠ 0 → bt 0 j = false := fun j _ _ => b_0 j
theorem bt_1n : ∀ j, j < 32 → j ≠ 0 → bt 1 j = false := fun j h1 h2 => by rw [bt_1 j h1, decide_eq_false h2]
theorem pti_wf : ∀ (n : Nat) {q : sq_} {d : Nat}, wf_ d q → d + n ≤ 31 → wf_ (d + n) (pti_ n q)
  | 0, _, _, hd, _ => hd
  | n + 1, q, d, hd, h31 => by
    rw [pti_]
    have := pti_wf n (pt_wf hd (by omega) bt_0n) (by omega)
    rw [show d + (n + 1) = d + 1 + n by omega]
    exact this
theorem mv_w {o v rb rs cp cb cr : Int32} {q q' : sq_} {d : Nat} (hd : wf_ d q) (h16 : d ≤ 16) (h26 : o = 26 ∨ o = 29 → (v - v / 4 * 4).toNatClampNeg < 4) (h25 : o = 25 → ∀ j, j < 32 → j ≠ 0 → bt (cr - 1) j = false) (e : mv_ o v rb rs cp cb cr q = some q') : ∃ d', d' ≤ 20 ∧ wf_ d' q' := by
  rw [mv_] at e
  by_cases k0 : o = 0
  · rw [if_pos k0] at e
    cases e; exact ⟨d + 1, by omega, pt_wf hd (by omega) bt_0n⟩
  rw [if_neg k0] at e
  by_cases k1 : o = 1
  · rw [if_pos k1] at e
    obtain ⟨d', h1, h2⟩ := tk_wf hd (by omega) e; exact ⟨d', by omega, h2⟩
  rw [if_neg k1] at e
  by_cases k2 : o = 2
  · rw [if_pos k2] at e
    by_cases z : q.1 ≤ 0
    · rw [if_pos z] at e; cases e
    · rw [if_neg z] at e; cases e; exact ⟨d + 1, by omega, pt_wf hd (by omega) (fun j h1 h2 => bt_and1 _ h1 h2)⟩
  rw [if_neg k2] at e
  by_cases k3 : o = 3
  · rw [if_pos k3] at e
    by_cases h1 : q.1 ≤ 1
    · rw [if_pos h1] at e; cases e
    · rw [if_neg h1] at e
      cases e
      have h2 : 2 ≤ d := by
        rw [hd.1] at h1
        rcases Nat.lt_or_ge d 2 with z | z
        · exact absurd (nI_le (a := d) (b := 1) (by omega) (by omega)) h1
        · exact z
      obtain ⟨k, rfl⟩ : ∃ k, d = k + 2 := ⟨d - 2, by omega⟩
      exact ⟨k + 1 + 1, by omega, pt_wf (pt_wf (dr_wf (dr_wf hd (by omega)) (by omega)) (by omega) (fun j h1 h2 => bt_and1 _ h1 h2)) (by omega) (fun j h1 h2 => bt_and1 _ h1 h2)⟩
  rw [if_neg k3] at e
  by_cases k4 : o = 4
  · rw [if_pos k4] at e
    cases e; exact ⟨d + 1, by omega, pt_wf hd (by omega) (fun j h1 h2 => bt_and1 _ h1 h2)⟩
  rw [if_neg k4] at e
  by_cases k5 : o = 5
  · rw [if_pos k5] at e
    obtain ⟨d', h1, h2⟩ := tk_wf hd (by omega) e; exact ⟨d', by omega, h2⟩
  rw [if_neg k5] at e
  by_cases k6 : o ≤ 17
  · rw [if_pos k6] at e
    obtain ⟨q1, e1, rfl⟩ := om_some e
    obtain ⟨d', h1, h2⟩ := tki_wf 2 hd (by omega) e1
    exact ⟨d' + 1, by omega, pt_wf h2 (by omega) bt_0n⟩
  rw [if_neg k6] at e
  by_cases k7 : o = 19 ∨ o = 20 ∨ o = 28
  · rw [if_pos k7] at e
    obtain ⟨d', h1, h2⟩ := tk_wf hd (by omega) e; exact ⟨d', by omega, h2⟩
  rw [if_neg k7] at e
  by_cases k8 : o = 21
  · rw [if_pos k8] at e
    obtain ⟨q1, e1, rfl⟩ := om_some e
    obtain ⟨d', h1, h2⟩ := tk_wf hd (by omega) e1
    exact ⟨d' + 1, by omega, pt_wf h2 (by omega) bt_1n⟩
  rw [if_neg k8] at e
  by_cases k9 : o = 22
  · rw [if_pos k9] at e
    obtain ⟨q1, e1, rfl⟩ := om_some e
    obtain ⟨q2, e2, e3⟩ := ob_some e1
    obtain ⟨d', h1, h2⟩ := tk_wf hd (by omega) e2
    obtain ⟨d2, h3, h4⟩ := tk_wf h2 (by omega) e3
    exact ⟨d2 + 1, by omega, pt_wf h4 (by omega) bt_0n⟩
  rw [if_neg k9] at e
  by_cases k10 : o = 23
  · rw [if_pos k10] at e
    obtain ⟨q2, e2, e3⟩ := ob_some e
    obtain ⟨d', h1, h2⟩ := tki_wf 2 hd (by omega) e2
    obtain ⟨d2, h3, h4⟩ := tk_wf h2 (by omega) e3
    exact ⟨d2, by omega, h4⟩
  rw [if_neg k10] at e
  by_cases k11 : o = 24
  · rw [if_pos k11] at e
    obtain ⟨q1, e1, rfl⟩ := om_some e
    obtain ⟨d', h1, h2⟩ := tk_wf hd (by omega) e1
    exact ⟨d' + 1, by omega, pt_wf h2 (by omega) bt_0n⟩
  rw [if_neg k11] at e
  by_cases k12 : o = 25
  · rw [if_pos k12] at e
    obtain ⟨q1, e1, rfl⟩ := om_some e
    obtain ⟨d', h1, h2⟩ := tkc_wf cb _ hd (by omega) e1
    by_cases z : cr ≤ 0
    · rw [if_pos z]; exact ⟨d', by omega, h2⟩
    · rw [if_neg z]; exact ⟨d' + 1, by omega, pt_wf h2 (by omega) (h25 k12)⟩
  rw [if_neg k12] at e
  by_cases k13 : o = 26
  · rw [if_pos k13] at e
    obtain ⟨q1, e1, rfl⟩ := om_some e
    obtain ⟨d', h1, h2⟩ := tki_wf _ hd (by omega) e1
    exact ⟨d' + 1, by omega, pt_wf h2 (by omega) bt_0n⟩
  rw [if_neg k13] at e
  by_cases k14 : o = 27
  · rw [if_pos k14] at e
    by_cases z : rs ≤ 0
    · rw [if_pos z] at e; cases e; exact ⟨d, by omega, hd⟩
    · rw [if_neg z] at e; obtain ⟨d', h1, h2⟩ := tk_wf hd (by omega) e; exact ⟨d', by omega, h2⟩
  rw [if_neg k14] at e
  by_cases k15 : o = 29
  · rw [if_pos k15] at e
    have hv := h26 (Or.inr k15)
    obtain ⟨q1, e1, rfl⟩ := om_some e
    obtain ⟨d', h1, h2⟩ := tki_wf _ hd (by omega) e1
    exact ⟨d' + _, by omega, pti_wf _ h2 (by omega)⟩
  rw [if_neg k15] at e
  cases e; exact ⟨d, by omega, hd⟩
/-- a stack comes back if its top is taken and put again -/
theorem pt_dr {d : Nat} {q : sq_} (h : wf_ (d + 1) q) (hd : d < 31) : pt_ (tp_ q) (dr_ q) = q := by
  have e1 : q.1 - 1 = nI d := by rw [h.1]; exact pk_sub (a := d + 1) (b := 1) (by omega)
  refine Prod.ext ?_ ?_
  · show q.1 - 1 + 1 = q.1
    rw [e1, nI_1, h.1]
  · show (q.2 &&& (((1 : Int32) <<< ((q.1 - 1) &&& 31)) - 1)) ||| (((q.2 >>> ((q.1 - 1) &&& 31)) &&& 1) <<< ((q.1 - 1) &&& 31)) = q.2
    rw [e1]
    apply b_ext
    intro j hj
    rw [b_or, b_and, bt_mask d hd j hj, b_shl d (by omega) _ hj]
    rcases Nat.lt_trichotomy j d with z | z | z
    · rw [decide_eq_true z, decide_eq_false (show ¬ d ≤ j by omega)]; simp
    · subst z
      rw [Nat.sub_self, b_and, bt_1 0 (by omega), b_sshr j (by omega) _ (by omega), if_pos (by omega)]
      simp
    · rw [b_and, bt_1 (j - d) (by omega), decide_eq_false (show ¬ j - d = 0 by omega), decide_eq_false (show ¬ j < d by omega), h.2 j (by omega) hj]
      simp
theorem tp_01 (q : sq_) : tp_ q = 0 ∨ tp_ q = 1 := by
  obtain ⟨j, hj, e⟩ := pk_andE (q.2 >>> ((q.1 - 1) &&& 31)) (m := 1) 1 (by decide)
  have : j = 0 ∨ j = 1 := by omega
  unfold tp_
  rw [e]
  rcases this with rfl | rfl
  · exact Or.inl rfl
  · exact Or.inr rfl
