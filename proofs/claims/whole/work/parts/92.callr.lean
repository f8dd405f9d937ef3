/-! CALLS: look, function, handler, code: both sides alike -/
theorem ag6 {F : fc_} {ar : Nat → Nat → Int32} {g n hn : Nat} (h : agf_ F ar 0 g n hn) {j : Nat} (hj : j < 6) : F.1 j = ar (13 + j) g := by
  have := h.1 j hj
  rw [Nat.mul_zero, Nat.zero_add] at this
  exact this
theorem agi {F : fc_} {ar : Nat → Nat → Int32} {g n hn : Nat} (h : agf_ F ar 0 g n hn) {i : Nat} (hi : i < n) : F.2.1 0 i = ar 19 (400 * g + i) ∧ F.2.1 1 i = ar 20 (400 * g + i) := by
  have := h.2.1 i hi
  rw [Nat.mul_zero, Nat.zero_add] at this
  exact this
theorem agh {F : fc_} {ar : Nat → Nat → Int32} {g n hn : Nat} (h : agf_ F ar 0 g n hn) {k : Nat} (hk : k < hn) {j : Nat} (hj : j < 5) : F.2.2 k j = ar (21 + j) (6 * g + k) := by
  have := h.2.2 k hk j hj
  rw [Nat.mul_zero, Nat.zero_add] at this
  exact this
theorem in24 {g : Nat} (hg : g < 12) : ¬ (nI g < 0 ∨ 24 ≤ (nI g).toNatClampNeg) := nI_in (by omega) (by omega)
theorem in9600 {g i : Nat} (hg : g < 12) (hi : i < 400) : ¬ (nI (400 * g + i) < 0 ∨ 9600 ≤ (nI (400 * g + i)).toNatClampNeg) := nI_in (by omega) (by omega)
theorem in144 {g i : Nat} (hg : g < 12) (hi : i < 6) : ¬ (nI (6 * g + i) < 0 ∨ 144 ≤ (nI (6 * g + i)).toNatClampNeg) := nI_in (by omega) (by omega)
theorem one_ne : ¬ (1 : Int32) = 0 := by decide
theorem so_ne (q : Nat) : ¬ (some q : Option Nat) = none := by intro z; cases z
theorem call_look (sb m : Nat) (x : Int32) : call_ sb m (p_SB_look (some sb) x) (p_Mo_look (some m) x) := by
  intro H Φ ⟨cb, f, cw, fw, ft, na, FA, sc, ar, hc, hm, hr⟩
  have hc' := hc
  obtain ⟨b, w, lt, vf, A, B, rb, len, rw', lw, fqa, fqb, cA, a5, cV, b1, b2, b3, ⟨D, h12, h1, hs, hB, hX⟩, c2⟩ := hc
  have key : ∀ r, (p_SB_look (some sb) x) H = some (r, 0, 0, H) → (p_Mo_look (some m) x) (mo_em H m sc ar) = some (r, 0, 0, mo_em H m (va_up sc 0 0) ar) → ∃ r C S H1 H2 Φ', (p_SB_look (some sb) x) H = some (r, C, S, H1) ∧ H1.2.2.2 8 m ≠ none ∧ (p_Mo_look (some m) x) H1 = some (r, 0, 0, H2) ∧ inv_ H2 sb m Φ' ∧ C + Φ' ≤ Φ + 3 ∧ S + Φ' ≤ Φ + 3 := fun r e1 e2 => fin_ hm (s8_rfl H) hc' e1 e2 (rel_0 hr) (C := 0) (S := 0) (Φ' := Φ) (by omega) (by omega)
  have e12 := hr.2.2.2.2.2.2.2.1
  by_cases z0 : x = 0
  · exact key (nI na) (by rw [p_SB_look, ev_ite, if_pos z0, sb_ref4 cA, pr_get1 D.1, ev_ret]) (by rw [p_Mo_look, mo_put0, ev_ite, if_pos z0, mo_ref9, mo_ild12, if_neg (show ¬ ((0 : Int32) < 0 ∨ 2 ≤ (0 : Int32).toNatClampNeg) by decide), show (0 : Int32).toNatClampNeg = 0 by decide, e12, ev_ret])
  by_cases z1 : x = 1
  · exact key (fo_ (fun v i => v + (FA i).1 4) na 0 0) (by rw [p_SB_look, ev_ite, if_neg z0, ev_ite, if_pos z1, sb_ref4 cA, pr_on D.1, bd_0 (s_insts D h12 hs), ev_ret]) (by rw [p_Mo_look, mo_put0, ev_ite, if_neg z0, ev_ite, if_pos z1, mo_on, bd_0 (s_Mo_codes _ _ _ _ e12 h12), ev_ret, (show fo_ (fun v i => v + ar 17 i) na 0 0 = fo_ (fun v i => v + (FA i).1 4) na 0 0 from fo_congr na 0 0 (fun v j _ hj => by
      obtain ⟨n, hn, q1, q2, qa, q3⟩ := hr.2.2.2.2.2.2.2.2 j (by omega)
      rw [ag6 q2 (j := 4) (by omega)]))])
  by_cases z2 : x = 2
  · exact key (nI cb) (by rw [p_SB_look, ev_ite, if_neg z0, ev_ite, if_neg z1, ev_ite, if_pos z2, sb_ref0 cA, br_get2 b1, ev_ret]) (by rw [p_Mo_look, mo_put0, ev_ite, if_neg z0, ev_ite, if_neg z1, ev_ite, if_pos z2, mo_get2, va_up_ne _ _ (by decide), hr.1, ev_ret])
  by_cases z3 : x = 3
  · exact key (nI cw) (by rw [p_SB_look, ev_ite, if_neg z0, ev_ite, if_neg z1, ev_ite, if_neg z2, ev_ite, if_pos z3, sb_ref1 cA, br_get2 b2, ev_ret]) (by rw [p_Mo_look, mo_put0, ev_ite, if_neg z0, ev_ite, if_neg z1, ev_ite, if_neg z2, ev_ite, if_pos z3, mo_get4, va_up_ne _ _ (by decide), hr.2.2.1, ev_ret])
  by_cases z4 : x = 4
  · exact key (ft.1) (by rw [p_SB_look, ev_ite, if_neg z0, ev_ite, if_neg z1, ev_ite, if_neg z2, ev_ite, if_neg z3, ev_ite, if_pos z4, sb_ref2 cA, bd_geti, ev_fld, a5]; rfl) (by rw [p_Mo_look, mo_put0, ev_ite, if_neg z0, ev_ite, if_neg z1, ev_ite, if_neg z2, ev_ite, if_neg z3, ev_ite, if_pos z4, mo_get5, va_up_ne _ _ (by decide), hr.2.2.2.2.2.1, ev_ret])
  by_cases z5 : x = 5
  · exact key (ft.2) (by rw [p_SB_look, ev_ite, if_neg z0, ev_ite, if_neg z1, ev_ite, if_neg z2, ev_ite, if_neg z3, ev_ite, if_neg z4, ev_ite, if_pos z5, sb_ref2 cA, bd_geti, ev_fld, a5]; rfl) (by rw [p_Mo_look, mo_put0, ev_ite, if_neg z0, ev_ite, if_neg z1, ev_ite, if_neg z2, ev_ite, if_neg z3, ev_ite, if_neg z4, ev_ite, if_pos z5, mo_get6, va_up_ne _ _ (by decide), hr.2.2.2.2.2.2.1, ev_ret])
  exact key (-1) (by rw [p_SB_look, ev_ite, if_neg z0, ev_ite, if_neg z1, ev_ite, if_neg z2, ev_ite, if_neg z3, ev_ite, if_neg z4, ev_ite, if_neg z5, ev_ret]) (by rw [p_Mo_look, mo_put0, ev_ite, if_neg z0, ev_ite, if_neg z1, ev_ite, if_neg z2, ev_ite, if_neg z3, ev_ite, if_neg z4, ev_ite, if_neg z5, ev_ret])
theorem call_function (sb m : Nat) (x y : Int32) : call_ sb m (p_SB_function (some sb) x y) (p_Mo_function (some m) x y) := by
  intro H Φ ⟨cb, f, cw, fw, ft, na, FA, sc, ar, hc, hm, hr⟩
  have hc' := hc
  obtain ⟨b, w, lt, vf, A, B, rb, len, rw', lw, fqa, fqb, cA, a5, cV, b1, b2, b3, ⟨D, h12, h1, hs, hB, hX⟩, c2⟩ := hc
  have key : ∀ r, (p_SB_function (some sb) x y) H = some (r, 0, 0, H) → (p_Mo_function (some m) x y) (mo_em H m sc ar) = some (r, 0, 0, mo_em H m (va_up sc 0 0) ar) → ∃ r C S H1 H2 Φ', (p_SB_function (some sb) x y) H = some (r, C, S, H1) ∧ H1.2.2.2 8 m ≠ none ∧ (p_Mo_function (some m) x y) H1 = some (r, 0, 0, H2) ∧ inv_ H2 sb m Φ' ∧ C + Φ' ≤ Φ + 3 ∧ S + Φ' ≤ Φ + 3 := fun r e1 e2 => fin_ hm (s8_rfl H) hc' e1 e2 (rel_0 hr) (C := 0) (S := 0) (Φ' := Φ) (by omega) (by omega)
  have e12 := hr.2.2.2.2.2.2.2.1
  have Hm := s_Mo_isF H m (va_up sc 0 0) ar e12 x
  have Hc := s_at D.1 h12 x
  by_cases c : x < 0 ∨ nI na ≤ x
  · rw [if_pos c] at Hm Hc
    exact key (-1) (by rw [p_SB_function, sb_ref4 cA, pr_on D.1, bd_0 Hc, ev_ite, if_pos rfl, ev_ret]) (by rw [p_Mo_function, mo_put0, mo_on, bd_0 Hm, ev_ite, if_pos rfl, ev_ret])
  rw [if_neg c] at Hm Hc
  obtain ⟨g, hg, rfl⟩ : ∃ g, g < na ∧ x = nI g := nI_ex (fun z => c (Or.inl z)) (fun z => c (Or.inr z)) (by omega)
  obtain ⟨q, hq⟩ := hs g hg
  have hg12 : g < 12 := by omega
  rw [nI_clamp (by omega), hq] at Hc
  have R := (D.2.2 g q hg12 hq).1
  obtain ⟨n, hn, q1, q2, qa, q3⟩ := hr.2.2.2.2.2.2.2.2 g hg
  have e4 := q1.1
  have h4 := q1.2.2.1
  have e5 := q1.2.2.2.1
  have h6 := q1.2.2.2.2.1
  have in1 := in24 hg12
  have cl1 : (nI g).toNatClampNeg = g := nI_clamp (by omega)
  have e17 : ar 17 g = nI n := by rw [← e4]; exact (ag6 q2 (j := 4) (by omega)).symm
  have e18 : ar 18 g = nI hn := by rw [← e5]; exact (ag6 q2 (j := 5) (by omega)).symm
  by_cases z0 : y = 0
  · exact key ((FA g).1 0) (by rw [p_SB_function, sb_ref4 cA, pr_on D.1, bd_0 Hc, ev_ite, if_neg (so_ne q), ev_ite, if_pos z0, fr_get0 R, ev_ret]) (by rw [p_Mo_function, mo_put0, mo_on, bd_0 Hm, ev_ite, if_neg one_ne, ev_ite, if_pos z0, mo_ref10, mo_ild13, if_neg in1, cl1, ev_ret, ag6 q2 (j := 0) (by omega)])
  by_cases z1 : y = 1
  · exact key ((FA g).1 1) (by rw [p_SB_function, sb_ref4 cA, pr_on D.1, bd_0 Hc, ev_ite, if_neg (so_ne q), ev_ite, if_neg z0, ev_ite, if_pos z1, fr_get1 R, ev_ret]) (by rw [p_Mo_function, mo_put0, mo_on, bd_0 Hm, ev_ite, if_neg one_ne, ev_ite, if_neg z0, ev_ite, if_pos z1, mo_ref11, mo_ild14, if_neg in1, cl1, ev_ret, ag6 q2 (j := 1) (by omega)])
  by_cases z2 : y = 2
  · exact key ((FA g).1 2) (by rw [p_SB_function, sb_ref4 cA, pr_on D.1, bd_0 Hc, ev_ite, if_neg (so_ne q), ev_ite, if_neg z0, ev_ite, if_neg z1, ev_ite, if_pos z2, fr_get2 R, ev_ret]) (by rw [p_Mo_function, mo_put0, mo_on, bd_0 Hm, ev_ite, if_neg one_ne, ev_ite, if_neg z0, ev_ite, if_neg z1, ev_ite, if_pos z2, mo_ref12, mo_ild15, if_neg in1, cl1, ev_ret, ag6 q2 (j := 2) (by omega)])
  by_cases z3 : y = 3
  · exact key ((FA g).1 3) (by rw [p_SB_function, sb_ref4 cA, pr_on D.1, bd_0 Hc, ev_ite, if_neg (so_ne q), ev_ite, if_neg z0, ev_ite, if_neg z1, ev_ite, if_neg z2, ev_ite, if_pos z3, fr_get3 R, ev_ret]) (by rw [p_Mo_function, mo_put0, mo_on, bd_0 Hm, ev_ite, if_neg one_ne, ev_ite, if_neg z0, ev_ite, if_neg z1, ev_ite, if_neg z2, ev_ite, if_pos z3, mo_ref13, mo_ild16, if_neg in1, cl1, ev_ret, ag6 q2 (j := 3) (by omega)])
  by_cases z4 : y = 4
  · exact key ((FA g).1 4) (by rw [p_SB_function, sb_ref4 cA, pr_on D.1, bd_0 Hc, ev_ite, if_neg (so_ne q), ev_ite, if_neg z0, ev_ite, if_neg z1, ev_ite, if_neg z2, ev_ite, if_neg z3, ev_ite, if_pos z4, fr_get4 R, ev_ret]) (by rw [p_Mo_function, mo_put0, mo_on, bd_0 Hm, ev_ite, if_neg one_ne, ev_ite, if_neg z0, ev_ite, if_neg z1, ev_ite, if_neg z2, ev_ite, if_neg z3, ev_ite, if_pos z4, mo_ref14, mo_ild17, if_neg in1, cl1, ev_ret, ag6 q2 (j := 4) (by omega)])
  by_cases z5 : y = 5
  · exact key ((FA g).1 5) (by rw [p_SB_function, sb_ref4 cA, pr_on D.1, bd_0 Hc, ev_ite, if_neg (so_ne q), ev_ite, if_neg z0, ev_ite, if_neg z1, ev_ite, if_neg z2, ev_ite, if_neg z3, ev_ite, if_neg z4, ev_ite, if_pos z5, fr_get5 R, ev_ret]) (by rw [p_Mo_function, mo_put0, mo_on, bd_0 Hm, ev_ite, if_neg one_ne, ev_ite, if_neg z0, ev_ite, if_neg z1, ev_ite, if_neg z2, ev_ite, if_neg z3, ev_ite, if_neg z4, ev_ite, if_pos z5, mo_ref15, mo_ild18, if_neg in1, cl1, ev_ret, ag6 q2 (j := 5) (by omega)])
  by_cases z6 : y = 6
  · refine key (fo_ (fun v i => if (FA g).2.1 2 i = -1 then v else v + 1) n 0 0) (by rw [p_SB_function, sb_ref4 cA, pr_on D.1, bd_0 Hc, ev_ite, if_neg (so_ne q), ev_ite, if_neg z0, ev_ite, if_neg z1, ev_ite, if_neg z2, ev_ite, if_neg z3, ev_ite, if_neg z4, ev_ite, if_neg z5, ev_ite, if_pos z6, fr_on R, bd_0 (s_come R e4 h4), ev_ret]) ?_
    rw [p_Mo_function, mo_put0, mo_on, bd_0 Hm, ev_ite, if_neg one_ne, ev_ite, if_neg z0, ev_ite, if_neg z1, ev_ite, if_neg z2, ev_ite, if_neg z3, ev_ite, if_neg z4, ev_ite, if_neg z5, ev_ite, if_pos (Or.inl z6)]
    simp only [hm_jn]
    rw [ev_ite, if_neg (show ¬ y = 7 by rw [z6]; decide), mo_on, bd_0 (s_Mo_known _ _ _ _ hg12 h4 e17 0), if_pos rfl, ev_ret]
    rw [fo_congr n 0 0 (t := fun v i => if (FA g).2.1 2 i = -1 then v else v + 1) (fun v j _ hj => ?_)]
    obtain ⟨t1, t2, t3⟩ := q3 j (by omega)
    rw [← t1]
    rcases t3 with t | ⟨d, d1, d2⟩
    · rw [if_pos t, t, if_pos (by decide), show v + 0 = v from Int32.add_zero v]
    · rw [d2, if_neg (nI_pos (by omega)), if_neg (fun z : nI d = -1 => nI_pos (n := d) (by omega) (by rw [z]; decide))]
  by_cases z7 : y = 7
  · refine key (fo_ (fun v i => if v < (FA g).2.1 2 i then (FA g).2.1 2 i else v) n 0 0) (by rw [p_SB_function, sb_ref4 cA, pr_on D.1, bd_0 Hc, ev_ite, if_neg (so_ne q), ev_ite, if_neg z0, ev_ite, if_neg z1, ev_ite, if_neg z2, ev_ite, if_neg z3, ev_ite, if_neg z4, ev_ite, if_neg z5, ev_ite, if_neg z6, ev_ite, if_pos z7, fr_on R, bd_0 (s_deep R e4 h4), ev_ret]) ?_
    rw [p_Mo_function, mo_put0, mo_on, bd_0 Hm, ev_ite, if_neg one_ne, ev_ite, if_neg z0, ev_ite, if_neg z1, ev_ite, if_neg z2, ev_ite, if_neg z3, ev_ite, if_neg z4, ev_ite, if_neg z5, ev_ite, if_pos (Or.inr z7)]
    simp only [hm_jn]
    rw [ev_ite, if_pos z7, mo_on, bd_0 (s_Mo_known _ _ _ _ hg12 h4 e17 1), if_neg one_ne, ev_ret]
    rw [fo_congr n 0 0 (t := fun v i => if v < (FA g).2.1 2 i then (FA g).2.1 2 i else v) (fun v j _ hj => ?_)]
    obtain ⟨t1, t2, t3⟩ := q3 j (by omega)
    rw [← t1]
    by_cases u : v < (FA g).2.1 2 j
    · rw [if_pos u, if_neg (Int32.not_le.mpr u)]
    · rw [if_neg u, if_pos (Int32.not_lt.mp u)]
  exact key (-1) (by rw [p_SB_function, sb_ref4 cA, pr_on D.1, bd_0 Hc, ev_ite, if_neg (so_ne q), ev_ite, if_neg z0, ev_ite, if_neg z1, ev_ite, if_neg z2, ev_ite, if_neg z3, ev_ite, if_neg z4, ev_ite, if_neg z5, ev_ite, if_neg z6, ev_ite, if_neg z7, ev_ret]) (by rw [p_Mo_function, mo_put0, mo_on, bd_0 Hm, ev_ite, if_neg one_ne, ev_ite, if_neg z0, ev_ite, if_neg z1, ev_ite, if_neg z2, ev_ite, if_neg z3, ev_ite, if_neg z4, ev_ite, if_neg z5, ev_ite, if_neg (fun z : y = 6 ∨ y = 7 => z.elim z6 z7), ev_ret])
theorem call_handler (sb m : Nat) (x y z : Int32) : call_ sb m (p_SB_handler (some sb) x y z) (p_Mo_handler (some m) x y z) := by
  intro H Φ ⟨cb, f, cw, fw, ft, na, FA, sc, ar, hc, hm, hr⟩
  have hc' := hc
  obtain ⟨b, w, lt, vf, A, B, rb, len, rw', lw, fqa, fqb, cA, a5, cV, b1, b2, b3, ⟨D, h12, h1, hs, hB, hX⟩, c2⟩ := hc
  have key : ∀ r, (p_SB_handler (some sb) x y z) H = some (r, 0, 0, H) → (p_Mo_handler (some m) x y z) (mo_em H m sc ar) = some (r, 0, 0, mo_em H m (va_up sc 0 0) ar) → ∃ r C S H1 H2 Φ', (p_SB_handler (some sb) x y z) H = some (r, C, S, H1) ∧ H1.2.2.2 8 m ≠ none ∧ (p_Mo_handler (some m) x y z) H1 = some (r, 0, 0, H2) ∧ inv_ H2 sb m Φ' ∧ C + Φ' ≤ Φ + 3 ∧ S + Φ' ≤ Φ + 3 := fun r e1 e2 => fin_ hm (s8_rfl H) hc' e1 e2 (rel_0 hr) (C := 0) (S := 0) (Φ' := Φ) (by omega) (by omega)
  have e12 := hr.2.2.2.2.2.2.2.1
  have Hm := s_Mo_isF H m (va_up sc 0 0) ar e12 x
  have Hc := s_at D.1 h12 x
  by_cases c : x < 0 ∨ nI na ≤ x
  · rw [if_pos c] at Hm Hc
    exact key 0 (by rw [p_SB_handler, sb_ref4 cA, pr_on D.1, bd_0 Hc, ev_ite, if_pos rfl, ev_ret]) (by rw [p_Mo_handler, mo_put0, mo_on, bd_0 Hm, ev_ite, if_pos rfl, ev_ret])
  rw [if_neg c] at Hm Hc
  obtain ⟨g, hg, rfl⟩ : ∃ g, g < na ∧ x = nI g := nI_ex (fun z => c (Or.inl z)) (fun z => c (Or.inr z)) (by omega)
  obtain ⟨q, hq⟩ := hs g hg
  have hg12 : g < 12 := by omega
  rw [nI_clamp (by omega), hq] at Hc
  have R := (D.2.2 g q hg12 hq).1
  obtain ⟨n, hn, q1, q2, qa, q3⟩ := hr.2.2.2.2.2.2.2.2 g hg
  have e4 := q1.1
  have h4 := q1.2.2.1
  have e5 := q1.2.2.2.1
  have h6 := q1.2.2.2.2.1
  have in1 := in24 hg12
  have cl1 : (nI g).toNatClampNeg = g := nI_clamp (by omega)
  have e17 : ar 17 g = nI n := by rw [← e4]; exact (ag6 q2 (j := 4) (by omega)).symm
  have e18 : ar 18 g = nI hn := by rw [← e5]; exact (ag6 q2 (j := 5) (by omega)).symm
  by_cases y0 : y < 0
  · exact key 0 (by rw [p_SB_handler, sb_ref4 cA, pr_on D.1, bd_0 Hc, ev_ite, if_neg (so_ne q), ev_ite, if_pos y0, ev_ret]) (by rw [p_Mo_handler, mo_put0, mo_on, bd_0 Hm, ev_ite, if_neg one_ne, ev_ite, if_pos y0, ev_ret])
  have hd : ∀ {β : Prop}, True := trivial
  by_cases y1 : nI hn ≤ y
  · refine key 0 (by rw [p_SB_handler, sb_ref4 cA, pr_on D.1, bd_0 Hc, ev_ite, if_neg (so_ne q), ev_ite, if_neg y0, fr_get5 R, e5, ev_ite, if_neg (Int32.not_lt.mpr y1), ev_ret]) ?_
    rw [p_Mo_handler, mo_put0, mo_on, bd_0 Hm, ev_ite, if_neg one_ne, ev_ite, if_neg y0, mo_ref15, mo_on, bd_0 Hm]
    simp only [hm_jn]
    rw [ev_ite, if_neg one_ne, mo_ild18, if_neg in1, cl1, e18, ev_ite, if_neg (Int32.not_lt.mpr y1), ev_ret]
  obtain ⟨k, hk, rfl⟩ : ∃ k, k < hn ∧ y = nI k := nI_ex y0 y1 (by omega)
  have in2 := in144 (i := k) hg12 (by omega)
  have cl2 : (nI (6 * g + k)).toNatClampNeg = 6 * g + k := nI_clamp (by omega)
  by_cases z0 : z = 0
  · refine key ((FA g).2.2 k 0) (by rw [p_SB_handler, sb_ref4 cA, pr_on D.1, bd_0 Hc, ev_ite, if_neg (so_ne q), ev_ite, if_neg y0, fr_get5 R, e5, ev_ite, if_pos (Int32.not_le.mp y1), fr_ref10 R, fr_qld R k (by omega), ev_ite, if_pos z0, fr_h0 R k (by omega), ev_ret]) ?_
    rw [p_Mo_handler, mo_put0, mo_on, bd_0 Hm, ev_ite, if_neg one_ne, ev_ite, if_neg y0, mo_ref15, mo_on, bd_0 Hm]
    simp only [hm_jn]
    rw [ev_ite, if_neg one_ne, mo_ild18, if_neg in1, cl1, e18, ev_ite, if_pos (Int32.not_le.mp y1), ev_ite, if_pos z0, ix6, mo_ref18, mo_ild21, if_neg in2, cl2, ev_ret, agh q2 hk (j := 0) (by omega)]
  by_cases z1 : z = 1
  · refine key ((FA g).2.2 k 1) (by rw [p_SB_handler, sb_ref4 cA, pr_on D.1, bd_0 Hc, ev_ite, if_neg (so_ne q), ev_ite, if_neg y0, fr_get5 R, e5, ev_ite, if_pos (Int32.not_le.mp y1), fr_ref10 R, fr_qld R k (by omega), ev_ite, if_neg z0, ev_ite, if_pos z1, fr_h1 R k (by omega), ev_ret]) ?_
    rw [p_Mo_handler, mo_put0, mo_on, bd_0 Hm, ev_ite, if_neg one_ne, ev_ite, if_neg y0, mo_ref15, mo_on, bd_0 Hm]
    simp only [hm_jn]
    rw [ev_ite, if_neg one_ne, mo_ild18, if_neg in1, cl1, e18, ev_ite, if_pos (Int32.not_le.mp y1), ev_ite, if_neg z0, ev_ite, if_pos z1, ix6, mo_ref19, mo_ild22, if_neg in2, cl2, ev_ret, agh q2 hk (j := 1) (by omega)]
  by_cases z2 : z = 2
  · refine key ((FA g).2.2 k 2) (by rw [p_SB_handler, sb_ref4 cA, pr_on D.1, bd_0 Hc, ev_ite, if_neg (so_ne q), ev_ite, if_neg y0, fr_get5 R, e5, ev_ite, if_pos (Int32.not_le.mp y1), fr_ref10 R, fr_qld R k (by omega), ev_ite, if_neg z0, ev_ite, if_neg z1, ev_ite, if_pos z2, fr_h2 R k (by omega), ev_ret]) ?_
    rw [p_Mo_handler, mo_put0, mo_on, bd_0 Hm, ev_ite, if_neg one_ne, ev_ite, if_neg y0, mo_ref15, mo_on, bd_0 Hm]
    simp only [hm_jn]
    rw [ev_ite, if_neg one_ne, mo_ild18, if_neg in1, cl1, e18, ev_ite, if_pos (Int32.not_le.mp y1), ev_ite, if_neg z0, ev_ite, if_neg z1, ev_ite, if_pos z2, ix6, mo_ref20, mo_ild23, if_neg in2, cl2, ev_ret, agh q2 hk (j := 2) (by omega)]
  by_cases z3 : z = 3
  · refine key (if (FA g).2.2 k 3 = 0 then 0 else 1) (by
      rw [p_SB_handler, sb_ref4 cA, pr_on D.1, bd_0 Hc, ev_ite, if_neg (so_ne q), ev_ite, if_neg y0, fr_get5 R, e5, ev_ite, if_pos (Int32.not_le.mp y1), fr_ref10 R, fr_qld R k (by omega), ev_ite, if_neg z0, ev_ite, if_neg z1, ev_ite, if_neg z2, ev_ite, if_pos z3, fr_h3 R k (by omega), ev_ite]
      split <;> rw [ev_ret]) ?_
    rw [p_Mo_handler, mo_put0, mo_on, bd_0 Hm, ev_ite, if_neg one_ne, ev_ite, if_neg y0, mo_ref15, mo_on, bd_0 Hm]
    simp only [hm_jn]
    rw [ev_ite, if_neg one_ne, mo_ild18, if_neg in1, cl1, e18, ev_ite, if_pos (Int32.not_le.mp y1), ev_ite, if_neg z0, ev_ite, if_neg z1, ev_ite, if_neg z2, ev_ite, if_pos z3, ix6, mo_ref21, mo_ild24, if_neg in2, cl2, ev_ite, agh q2 hk (j := 3) (by omega)]
    split <;> rw [ev_ret]
  by_cases z4 : z = 4
  · refine key ((FA g).2.2 k 4) (by rw [p_SB_handler, sb_ref4 cA, pr_on D.1, bd_0 Hc, ev_ite, if_neg (so_ne q), ev_ite, if_neg y0, fr_get5 R, e5, ev_ite, if_pos (Int32.not_le.mp y1), fr_ref10 R, fr_qld R k (by omega), ev_ite, if_neg z0, ev_ite, if_neg z1, ev_ite, if_neg z2, ev_ite, if_neg z3, ev_ite, if_pos z4, fr_h4 R k (by omega), ev_ret]) ?_
    rw [p_Mo_handler, mo_put0, mo_on, bd_0 Hm, ev_ite, if_neg one_ne, ev_ite, if_neg y0, mo_ref15, mo_on, bd_0 Hm]
    simp only [hm_jn]
    rw [ev_ite, if_neg one_ne, mo_ild18, if_neg in1, cl1, e18, ev_ite, if_pos (Int32.not_le.mp y1), ev_ite, if_neg z0, ev_ite, if_neg z1, ev_ite, if_neg z2, ev_ite, if_neg z3, ev_ite, if_pos z4, ix6, mo_ref22, mo_ild25, if_neg in2, cl2, ev_ret, agh q2 hk (j := 4) (by omega)]
  refine key 0 (by rw [p_SB_handler, sb_ref4 cA, pr_on D.1, bd_0 Hc, ev_ite, if_neg (so_ne q), ev_ite, if_neg y0, fr_get5 R, e5, ev_ite, if_pos (Int32.not_le.mp y1), fr_ref10 R, fr_qld R k (by omega), ev_ite, if_neg z0, ev_ite, if_neg z1, ev_ite, if_neg z2, ev_ite, if_neg z3, ev_ite, if_neg z4, ev_ret]) ?_
  rw [p_Mo_handler, mo_put0, mo_on, bd_0 Hm, ev_ite, if_neg one_ne, ev_ite, if_neg y0, mo_ref15, mo_on, bd_0 Hm]
  simp only [hm_jn]
  rw [ev_ite, if_neg one_ne, mo_ild18, if_neg in1, cl1, e18, ev_ite, if_pos (Int32.not_le.mp y1), ev_ite, if_neg z0, ev_ite, if_neg z1, ev_ite, if_neg z2, ev_ite, if_neg z3, ev_ite, if_neg z4, ev_ret]
theorem call_code (sb m : Nat) (x y z : Int32) : call_ sb m (p_SB_code (some sb) x y z) (p_Mo_code (some m) x y z) := by
  intro H Φ ⟨cb, f, cw, fw, ft, na, FA, sc, ar, hc, hm, hr⟩
  have hc' := hc
  obtain ⟨b, w, lt, vf, A, B, rb, len, rw', lw, fqa, fqb, cA, a5, cV, b1, b2, b3, ⟨D, h12, h1, hs, hB, hX⟩, c2⟩ := hc
  have key : ∀ r, (p_SB_code (some sb) x y z) H = some (r, 0, 0, H) → (p_Mo_code (some m) x y z) (mo_em H m sc ar) = some (r, 0, 0, mo_em H m (va_up sc 0 0) ar) → ∃ r C S H1 H2 Φ', (p_SB_code (some sb) x y z) H = some (r, C, S, H1) ∧ H1.2.2.2 8 m ≠ none ∧ (p_Mo_code (some m) x y z) H1 = some (r, 0, 0, H2) ∧ inv_ H2 sb m Φ' ∧ C + Φ' ≤ Φ + 3 ∧ S + Φ' ≤ Φ + 3 := fun r e1 e2 => fin_ hm (s8_rfl H) hc' e1 e2 (rel_0 hr) (C := 0) (S := 0) (Φ' := Φ) (by omega) (by omega)
  have e12 := hr.2.2.2.2.2.2.2.1
  have Hm := s_Mo_isF H m (va_up sc 0 0) ar e12 x
  have Hc := s_at D.1 h12 x
  by_cases c : x < 0 ∨ nI na ≤ x
  · rw [if_pos c] at Hm Hc
    exact key 0 (by rw [p_SB_code, sb_ref4 cA, pr_on D.1, bd_0 Hc, ev_ite, if_pos rfl, ev_ret]) (by rw [p_Mo_code, mo_put0, mo_on, bd_0 Hm, ev_ite, if_pos rfl, ev_ret])
  rw [if_neg c] at Hm Hc
  obtain ⟨g, hg, rfl⟩ : ∃ g, g < na ∧ x = nI g := nI_ex (fun z => c (Or.inl z)) (fun z => c (Or.inr z)) (by omega)
  obtain ⟨q, hq⟩ := hs g hg
  have hg12 : g < 12 := by omega
  rw [nI_clamp (by omega), hq] at Hc
  have R := (D.2.2 g q hg12 hq).1
  obtain ⟨n, hn, q1, q2, qa, q3⟩ := hr.2.2.2.2.2.2.2.2 g hg
  have e4 := q1.1
  have h4 := q1.2.2.1
  have e5 := q1.2.2.2.1
  have h6 := q1.2.2.2.2.1
  have in1 := in24 hg12
  have cl1 : (nI g).toNatClampNeg = g := nI_clamp (by omega)
  have e17 : ar 17 g = nI n := by rw [← e4]; exact (ag6 q2 (j := 4) (by omega)).symm
  have e18 : ar 18 g = nI hn := by rw [← e5]; exact (ag6 q2 (j := 5) (by omega)).symm
  have Hh := s_has R h4 e4 y
  by_cases y0 : y < 0
  · rw [if_pos (Or.inl y0)] at Hh
    exact key 0 (by rw [p_SB_code, sb_ref4 cA, pr_on D.1, bd_0 Hc, ev_ite, if_neg (so_ne q), fr_on R, bd_0 Hh, ev_ite, if_pos rfl, ev_ret]) (by rw [p_Mo_code, mo_put0, mo_on, bd_0 Hm, ev_ite, if_neg one_ne, ev_ite, if_pos y0, ev_ret])
  by_cases y1 : nI n ≤ y
  · rw [if_pos (Or.inr y1)] at Hh
    refine key 0 (by rw [p_SB_code, sb_ref4 cA, pr_on D.1, bd_0 Hc, ev_ite, if_neg (so_ne q), fr_on R, bd_0 Hh, ev_ite, if_pos rfl, ev_ret]) ?_
    rw [p_Mo_code, mo_put0, mo_on, bd_0 Hm, ev_ite, if_neg one_ne, ev_ite, if_neg y0, mo_ref14, mo_on, bd_0 Hm]
    simp only [hm_jn]
    rw [ev_ite, if_neg one_ne, mo_ild17, if_neg in1, cl1, e17, ev_ite, if_neg (Int32.not_lt.mpr y1), ev_ret]
  rw [if_neg (fun z => z.elim y0 y1)] at Hh
  obtain ⟨i, hi, rfl⟩ : ∃ i, i < n ∧ y = nI i := nI_ex y0 y1 (by omega)
  have in2 := in9600 (i := i) hg12 (by omega)
  have cl2 : (nI (400 * g + i)).toNatClampNeg = 400 * g + i := nI_clamp (by omega)
  have in3 : ¬ (nI i < 0 ∨ 400 ≤ (nI i).toNatClampNeg) := nI_in (by omega) (by omega)
  have cl3 : (nI i).toNatClampNeg = i := nI_clamp (by omega)
  obtain ⟨t1, t2, t3⟩ := q3 i hi
  obtain ⟨t4, t5⟩ := agi q2 hi
  by_cases z0 : z = 0
  · refine key ((FA g).2.1 0 i) (by rw [p_SB_code, sb_ref4 cA, pr_on D.1, bd_0 Hc, ev_ite, if_neg (so_ne q), fr_on R, bd_0 Hh, ev_ite, if_neg one_ne, ev_ite, if_pos z0, fr_ref6 R, fr_ild0 R, if_neg in3, cl3, ev_ret]) ?_
    rw [p_Mo_code, mo_put0, mo_on, bd_0 Hm, ev_ite, if_neg one_ne, ev_ite, if_neg y0, mo_ref14, mo_on, bd_0 Hm]
    simp only [hm_jn]
    rw [ev_ite, if_neg one_ne, mo_ild17, if_neg in1, cl1, e17, ev_ite, if_pos (Int32.not_le.mp y1), ev_ite, if_pos z0, ix400, mo_ref16, mo_ild19, if_neg in2, cl2, ev_ret, t4]
  by_cases z1 : z = 1
  · refine key ((FA g).2.1 1 i) (by rw [p_SB_code, sb_ref4 cA, pr_on D.1, bd_0 Hc, ev_ite, if_neg (so_ne q), fr_on R, bd_0 Hh, ev_ite, if_neg one_ne, ev_ite, if_neg z0, ev_ite, if_pos z1, fr_ref7 R, fr_ild1 R, if_neg in3, cl3, ev_ret]) ?_
    rw [p_Mo_code, mo_put0, mo_on, bd_0 Hm, ev_ite, if_neg one_ne, ev_ite, if_neg y0, mo_ref14, mo_on, bd_0 Hm]
    simp only [hm_jn]
    rw [ev_ite, if_neg one_ne, mo_ild17, if_neg in1, cl1, e17, ev_ite, if_pos (Int32.not_le.mp y1), ev_ite, if_neg z0, ev_ite, if_pos z1, ix400, mo_ref17, mo_ild20, if_neg in2, cl2, ev_ret, t5]
  by_cases z2 : z = 2
  · refine key ((FA g).2.1 2 i) (by rw [p_SB_code, sb_ref4 cA, pr_on D.1, bd_0 Hc, ev_ite, if_neg (so_ne q), fr_on R, bd_0 Hh, ev_ite, if_neg one_ne, ev_ite, if_neg z0, ev_ite, if_neg z1, ev_ite, if_pos z2, fr_ref8 R, fr_ild2 R, if_neg in3, cl3, ev_ret]) ?_
    rw [p_Mo_code, mo_put0, mo_on, bd_0 Hm, ev_ite, if_neg one_ne, ev_ite, if_neg y0, mo_ref14, mo_on, bd_0 Hm]
    simp only [hm_jn]
    rw [ev_ite, if_neg one_ne, mo_ild17, if_neg in1, cl1, e17, ev_ite, if_pos (Int32.not_le.mp y1), ev_ite, if_neg z0, ev_ite, if_neg z1, ev_ite, if_pos z2, ix400, mo_ref23, mo_ild26, if_neg in2, cl2, ev_ret, t1]
  by_cases z3 : z = 3
  · refine key ((FA g).2.1 3 i) (by rw [p_SB_code, sb_ref4 cA, pr_on D.1, bd_0 Hc, ev_ite, if_neg (so_ne q), fr_on R, bd_0 Hh, ev_ite, if_neg one_ne, ev_ite, if_neg z0, ev_ite, if_neg z1, ev_ite, if_neg z2, ev_ite, if_pos z3, fr_ref9 R, fr_ild3 R, if_neg in3, cl3, ev_ret]) ?_
    rw [p_Mo_code, mo_put0, mo_on, bd_0 Hm, ev_ite, if_neg one_ne, ev_ite, if_neg y0, mo_ref14, mo_on, bd_0 Hm]
    simp only [hm_jn]
    rw [ev_ite, if_neg one_ne, mo_ild17, if_neg in1, cl1, e17, ev_ite, if_pos (Int32.not_le.mp y1), ev_ite, if_neg z0, ev_ite, if_neg z1, ev_ite, if_neg z2, ev_ite, if_pos z3, ix400, mo_ref24, mo_ild27, if_neg in2, cl2, ev_ret, t2]
  by_cases z4 : z = 4
  · refine key (if gone_ (FA g) n hn (nI i) = true then 1 else 0) (by
      rw [p_SB_code, sb_ref4 cA, pr_on D.1, bd_0 Hc, ev_ite, if_neg (so_ne q), fr_on R, bd_0 Hh, ev_ite, if_neg one_ne, ev_ite, if_neg z0, ev_ite, if_neg z1, ev_ite, if_neg z2, ev_ite, if_neg z3, ev_ite, if_pos z4, fr_on R, bd_0 (s_gone R e4 h4 e5 h6 (nI i)), ev_ite]
      cases gone_ (FA g) n hn (nI i) with
      | true => rw [if_pos rfl, if_neg one_ne, ev_ret]
      | false => rw [if_neg (show ¬ false = true by decide), if_pos rfl, ev_ret]) ?_
    have eg : gone_ (FA g) n hn (nI i) = (ex_ (fun j => decide (17 < ar 19 (400 * g + j) ∧ ar 19 (400 * g + j) < 21) && decide (ar 20 (400 * g + j) = nI i)) n 0 || ex_ (fun j => decide (ar 23 (6 * g + j) = nI i)) hn 0) := by
      rw [gone_, ex_congr n 0 (Q := fun j => decide (17 < ar 19 (400 * g + j) ∧ ar 19 (400 * g + j) < 21) && decide (ar 20 (400 * g + j) = nI i)) (fun j _ hj => ?_), ex_congr hn 0 (Q := fun j => decide (ar 23 (6 * g + j) = nI i)) (fun j _ hj => ?_)]
      · rw [agh q2 (k := j) (by omega) (j := 2) (by omega)]
      · obtain ⟨w1, w2⟩ := agi q2 (i := j) (by omega)
        have hd : decide ((FA g).2.1 0 j = 18 ∨ (FA g).2.1 0 j = 19 ∨ (FA g).2.1 0 j = 20) = decide (17 < (FA g).2.1 0 j ∧ (FA g).2.1 0 j < 21) := decide_eq_decide.mpr (gtp_iff (q1.2.2.2.2.2.2.2.2.2 j (by omega)).1)
        rw [hd]
        simp only [w1, w2]
    rw [p_Mo_code, mo_put0, mo_on, bd_0 Hm, ev_ite, if_neg one_ne, ev_ite, if_neg y0, mo_ref14, mo_on, bd_0 Hm]
    simp only [hm_jn]
    rw [ev_ite, if_neg one_ne, mo_ild17, if_neg in1, cl1, e17, ev_ite, if_pos (Int32.not_le.mp y1), ev_ite, if_neg z0, ev_ite, if_neg z1, ev_ite, if_neg z2, ev_ite, if_neg z3, ev_ite, if_pos z4, mo_on, bd_0 (s_Mo_goal _ _ _ _ hg12 h4 e17 h6 e18 _), ev_ret, eg]
  refine key 0 (by rw [p_SB_code, sb_ref4 cA, pr_on D.1, bd_0 Hc, ev_ite, if_neg (so_ne q), fr_on R, bd_0 Hh, ev_ite, if_neg one_ne, ev_ite, if_neg z0, ev_ite, if_neg z1, ev_ite, if_neg z2, ev_ite, if_neg z3, ev_ite, if_neg z4, ev_ret]) ?_
  rw [p_Mo_code, mo_put0, mo_on, bd_0 Hm, ev_ite, if_neg one_ne, ev_ite, if_neg y0, mo_ref14, mo_on, bd_0 Hm]
  simp only [hm_jn]
  rw [ev_ite, if_neg one_ne, mo_ild17, if_neg in1, cl1, e17, ev_ite, if_pos (Int32.not_le.mp y1), ev_ite, if_neg z0, ev_ite, if_neg z1, ev_ite, if_neg z2, ev_ite, if_neg z3, ev_ite, if_neg z4, ev_ret]
