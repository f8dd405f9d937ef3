/-! CALLS: give, cut, poke, byteAt, turnOver -/
theorem fin_ {H H1 : hc_H} {sb m Φ Φ' C S : Nat} {p1 p2 : hM Int32} {r : Int32} {cb : Nat} {f : Nat → Int32} {cw : Nat} {fw : Nat → Int32} {ft : Int32 × Int32} {na : Nat} {FA : Nat → fc_} {sc sc' : Nat → Int32} {ar ar' : Nat → Nat → Int32} (hm : moI_ H m sc ar) (h8 : s8_ H H1) (hc : clI_ H1 sb Φ' cb f cw fw ft na FA) (e1 : p1 H = some (r, C, S, H1)) (e2 : p2 (mo_em H1 m sc ar) = some (r, 0, 0, mo_em H1 m sc' ar')) (hr : rel_ cb f cw fw ft na FA sc' ar') (h1 : C + Φ' ≤ Φ + 3) (h2 : S + Φ' ≤ Φ + 3) : ∃ r C S H1 H2 Φ', p1 H = some (r, C, S, H1) ∧ H1.2.2.2 8 m ≠ none ∧ p2 H1 = some (r, 0, 0, H2) ∧ inv_ H2 sb m Φ' ∧ C + Φ' ≤ Φ + 3 ∧ S + Φ' ≤ Φ + 3 := by
  have hm1 := mo_s8 hm h8
  refine ⟨r, C, S, H1, mo_em H1 m sc' ar', Φ', e1, mo_isO hm1, ?_, ⟨cb, f, cw, fw, ft, na, FA, sc', ar', clI_s10 hc (s10_mo _ _ _ _), mo_emI _ _ _ _, hr⟩, h1, h2⟩
  rw [mo_self hm1] at e2
  exact e2
theorem rel_sc {cb : Nat} {f : Nat → Int32} {cw : Nat} {fw : Nat → Int32} {ft : Int32 × Int32} {na : Nat} {FA : Nat → fc_} {sc sc' : Nat → Int32} {ar : Nat → Nat → Int32} (h : rel_ cb f cw fw ft na FA sc ar) (h2 : sc' 2 = sc 2) (h4 : sc' 4 = sc 4) (h5 : sc' 5 = sc 5) (h6 : sc' 6 = sc 6) : rel_ cb f cw fw ft na FA sc' ar := by
  obtain ⟨r1, r2, r3, r4, r5, r6, r7, r8, r9⟩ := h
  exact ⟨h2.trans r1, r2, h4.trans r3, r4, r5, h5.trans r6, h6.trans r7, r8, r9⟩
theorem rel_0 {cb : Nat} {f : Nat → Int32} {cw : Nat} {fw : Nat → Int32} {ft : Int32 × Int32} {na : Nat} {FA : Nat → fc_} {sc : Nat → Int32} {ar : Nat → Nat → Int32} (h : rel_ cb f cw fw ft na FA sc ar) : rel_ cb f cw fw ft na FA (va_up sc 0 0) ar :=
  rel_sc h (va_up_ne _ _ (by decide)) (va_up_ne _ _ (by decide)) (va_up_ne _ _ (by decide)) (va_up_ne _ _ (by decide))
/-- the bytes have changed, on both sides -/
theorem rel_b {cb : Nat} {f : Nat → Int32} {cw : Nat} {fw : Nat → Int32} {ft : Int32 × Int32} {na : Nat} {FA : Nat → fc_} {sc sc' : Nat → Int32} {ar : Nat → Nat → Int32} (h : rel_ cb f cw fw ft na FA sc ar) {cb' : Nat} {f' g : Nat → Int32} (h2 : sc' 2 = nI cb') (h4 : sc' 4 = sc 4) (h5 : sc' 5 = sc 5) (h6 : sc' 6 = sc 6) (hb : rb_ cb' f' g) : rel_ cb' f' cw fw ft na FA sc' (va_up ar 10 g) := by
  obtain ⟨r1, r2, r3, r4, r5, r6, r7, r8, r9⟩ := h
  have k : ∀ k, 11 ≤ k → va_up ar 10 g k = ar k := fun k hk => va_up_ne _ _ (by omega)
  refine ⟨h2, by rw [va_up_self]; exact hb, h4.trans r3, r4, by rw [k 11 (by omega)]; exact r5, h5.trans r6, h6.trans r7, by rw [k 12 (by omega)]; exact r8, fun i hi => ?_⟩
  obtain ⟨n, hn, q1, q2, qa, q3⟩ := r9 i hi
  refine ⟨n, hn, q1, ⟨fun j hj => by rw [k _ (by omega)]; exact q2.1 j hj, fun j hj => by rw [k _ (by omega), k _ (by omega)]; exact q2.2.1 j hj, fun j hj l hl => by rw [k _ (by omega)]; exact q2.2.2 j hj l hl⟩, qa, fun j hj => by rw [k _ (by omega), k _ (by omega)]; exact q3 j hj⟩
theorem call_cut (sb m : Nat) (x : Int32) : call_ sb m (p_SB_cut (some sb) x) (p_Mo_cut (some m) x) := by
  intro H Φ ⟨cb, f, cw, fw, ft, na, FA, sc, ar, hc, hm, hr⟩
  have hc' := hc
  obtain ⟨b, w, lt, vf, A, B, rb, len, rw', lw, fqa, fqb, cA, a5, cV, b1, b2, b3, c1, c2⟩ := hc
  have e1 : p_SB_cut (some sb) x H = hm_bind (p_ByteRow_keepFirst (some b) x) (fun a2 => hm_z a2) H := by
    rw [p_SB_cut, sb_ref0 cA, br_on b1]
  have k1 := s_br_keep b1 x
  have k2 := s_Mo_cut H m sc ar hr.1 x
  by_cases c : x < 0 ∨ nI cb < x
  · rw [if_pos c] at k1 k2
    exact fin_ hm (s8_rfl H) hc' (by rw [e1, bd_0 k1, ev_z0]) k2 (rel_0 hr) (by omega) (by omega)
  · rw [if_neg c] at k1
    obtain ⟨j, hj, rfl⟩ : ∃ j, j ≤ cb ∧ x = nI j := nI_of2 (n := cb) (M := nI cb) (nI_toInt (by have := b1.2.2.1; have := b1.2.2.2.1; omega)) (fun z => c (Or.inl z)) (Int32.not_lt.mp (fun z => c (Or.inr z)))
    have fr := fb_o b rb H [vi_ (nI 4096), vr_ (some rb), vi_ (nI j)]
    obtain ⟨g1, g2, g3, g4, g5⟩ := clI_fb fr cA a5 cV c1
    have k2 := s_Mo_cut (hc_up H b (.inr (.inr (1, [vi_ (nI 4096), vr_ (some rb), vi_ (nI j)])))) m sc ar hr.1 (nI j)
    rw [if_neg c] at k2
    refine fin_ hm g5 (Φ' := Φ) (cb := j) (f := f) ⟨b, w, lt, vf, A, B, rb, len, rw', lw, fqa, fqb, g1, g2, g3, br_cnt b1 (by have := b1.2.2.1; omega), brR_fb fr b2 (Ne.symm cA.2.1) (Ne.symm b3), b3, g4, c2⟩ (by rw [e1, bd_0 k1, ev_z1]) k2 ?_ (by omega) (by omega)
    have := rel_b hr (sc' := va_up (va_up sc 0 0) 2 (nI j)) (cb' := j) (f' := f) (g := ar 10) (va_up_self _ _ _) (by rw [va_up_ne _ _ (by decide), va_up_ne _ _ (by decide)]) (by rw [va_up_ne _ _ (by decide), va_up_ne _ _ (by decide)]) (by rw [va_up_ne _ _ (by decide), va_up_ne _ _ (by decide)]) (fun i hi => hr.2.1 i (by omega))
    rw [up_same] at this
    exact this
theorem call_poke (sb m : Nat) (x y : Int32) : call_ sb m (p_SB_poke (some sb) x y) (p_Mo_poke (some m) x y) := by
  intro H Φ ⟨cb, f, cw, fw, ft, na, FA, sc, ar, hc, hm, hr⟩
  have hc' := hc
  obtain ⟨b, w, lt, vf, A, B, rb, len, rw', lw, fqa, fqb, cA, a5, cV, b1, b2, b3, c1, c2⟩ := hc
  have hcb : cb ≤ 4096 := Nat.le_trans b1.2.2.1 b1.2.2.2.1
  have e1 : p_SB_poke (some sb) x y H = hm_bind (p_ByteRow_set (some b) x y) (fun a2 => hm_z a2) H := by
    rw [p_SB_poke, sb_ref0 cA, br_on b1]
  have k1 := s_br_set b1 x y
  by_cases c : x < 0 ∨ nI cb ≤ x
  · have k2 := s_Mo_poke H m sc ar hr.1 hcb x y
    rw [if_pos c] at k1 k2
    exact fin_ hm (s8_rfl H) hc' (by rw [e1, bd_0 k1, ev_z0]) k2 (rel_0 hr) (by omega) (by omega)
  · rw [if_neg c] at k1
    obtain ⟨j, hj, rfl⟩ : ∃ j, j < cb ∧ x = nI j := nI_ex (fun z => c (Or.inl z)) (fun z => c (Or.inr z)) (by omega)
    rw [nI_clamp (by omega)] at k1
    have fr := fb_i b rb H len (va_up f j (sx_ y))
    obtain ⟨g1, g2, g3, g4, g5⟩ := clI_fb fr cA a5 cV c1
    have k2 := s_Mo_poke (hc_up H rb (.inl (7, len, va_up f j (sx_ y)))) m sc ar hr.1 hcb (nI j) y
    rw [if_neg c, nI_clamp (by omega)] at k2
    refine fin_ hm g5 (Φ' := Φ) (cb := cb) (f := va_up f j (sx_ y)) ⟨b, w, lt, vf, A, B, rb, len, rw', lw, fqa, fqb, g1, g2, g3, br_row b1 _, brR_fb fr b2 (Ne.symm cA.2.1) (Ne.symm b3), b3, g4, c2⟩ (by rw [e1, bd_0 k1, ev_z1]) k2 ?_ (by omega) (by omega)
    refine rel_b hr (by rw [va_up_ne _ _ (by decide)]; exact hr.1) (va_up_ne _ _ (by decide)) (va_up_ne _ _ (by decide)) (va_up_ne _ _ (by decide)) (fun i hi => ?_)
    by_cases d : i = j
    · subst d; rw [va_up_self, va_up_self, sx_255]
    · rw [va_up_ne _ _ d, va_up_ne _ _ d]; exact hr.2.1 i hi
theorem call_byteAt (sb m : Nat) (x z : Int32) : call_ sb m (p_SB_byteAt (some sb) x z) (p_Mo_byteAt (some m) x z) := by
  intro H Φ ⟨cb, f, cw, fw, ft, na, FA, sc, ar, hc, hm, hr⟩
  have hc' := hc
  obtain ⟨b, w, lt, vf, A, B, rb, len, rw', lw, fqa, fqb, cA, a5, cV, b1, b2, b3, c1, c2⟩ := hc
  have hcb : cb ≤ 4096 := Nat.le_trans b1.2.2.1 b1.2.2.2.1
  have hcw : cw ≤ 26000 := Nat.le_trans hr.2.2.2.1 (by omega)
  have k2 := s_Mo_byteAt H m sc ar hr.1 hcb hr.2.2.1 hcw x z
  refine fin_ hm (s8_rfl H) hc' ?_ k2 (rel_0 hr) (C := 0) (S := 0) (Φ' := Φ) (by omega) (by omega)
  rw [p_SB_byteAt, ev_ite]
  by_cases c : z = 0
  · rw [if_pos c, if_pos c, sb_ref1 cA, br_on b2, bd_0 (s_br_at b2 x), ev_ret]
    by_cases d : x < 0 ∨ nI cw ≤ x
    · rw [if_pos d, if_pos d]
    · obtain ⟨j, hj, rfl⟩ : ∃ j, j < cw ∧ x = nI j := nI_ex (fun z => d (Or.inl z)) (fun z => d (Or.inr z)) (by omega)
      rw [if_neg d, if_neg d, nI_clamp (by omega), hr.2.2.2.2.1 j hj]
  · rw [if_neg c, if_neg c, sb_ref0 cA, br_on b1, bd_0 (s_br_at b1 x), ev_ret]
    by_cases d : x < 0 ∨ nI cb ≤ x
    · rw [if_pos d, if_pos d]
    · obtain ⟨j, hj, rfl⟩ : ∃ j, j < cb ∧ x = nI j := nI_ex (fun z => d (Or.inl z)) (fun z => d (Or.inr z)) (by omega)
      rw [if_neg d, if_neg d, nI_clamp (by omega), hr.2.1 j hj]
theorem call_give (sb m : Nat) (v : Int64) (x : Int32) : call_ sb m (p_SB_give (some sb) v x) (p_Mo_give (some m) v x) := by
  intro H Φ ⟨cb, f, cw, fw, ft, na, FA, sc, ar, hc, hm, hr⟩
  have hc' := hc
  obtain ⟨b, w, lt, vf, A, B, rb, len, rw', lw, fqa, fqb, cA, a5, cV, b1, b2, b3, c1, c2⟩ := hc
  have hcb : cb ≤ 4096 := Nat.le_trans b1.2.2.1 b1.2.2.2.1
  have k2 := s_Mo_give H m sc ar hr.1 hcb v x
  by_cases c0 : x < 1
  · rw [if_pos (Or.inl c0)] at k2
    exact fin_ hm (s8_rfl H) hc' (by rw [p_SB_give, ev_ite, if_pos c0, ev_z0]) k2 (rel_0 hr) (by omega) (by omega)
  by_cases c8 : 8 < x
  · rw [if_pos (Or.inr (Or.inl c8))] at k2
    exact fin_ hm (s8_rfl H) hc' (by rw [p_SB_give, ev_ite, if_neg c0, ev_ite, if_pos c8, ev_z0]) k2 (rel_0 hr) (by omega) (by omega)
  obtain ⟨n, hn, rfl⟩ : ∃ n, n ≤ 8 ∧ x = nI n := nI_of2 (M := 8) (n := 8) (by decide) (fun z => c0 (Int32.lt_trans z (by decide))) (Int32.not_lt.mp c8)
  have e1 : p_SB_give (some sb) v (nI n) H = hm_bind (p_ByteRow_add (some b) v (nI n)) (fun a2 => if a2 = 0 then hm_z 0 else hm_z 1) H := by
    rw [p_SB_give, ev_ite, if_neg c0, ev_ite, if_neg c8, sb_ref0 cA, br_on b1]
  have k1 := s_br_add b1 v hn
  by_cases c : 4096 < cb + n
  · rw [if_pos c] at k1
    rw [nI_clamp (by omega), if_pos (Or.inr (Or.inr c))] at k2
    exact fin_ hm (s8_rfl H) hc' (by rw [e1, bd_0 k1, ev_ite, if_pos rfl, ev_z0]) k2 (rel_0 hr) (by omega) (by omega)
  · rw [if_neg c] at k1
    obtain ⟨C, S, H', rb', len', f', d1, d2, d3, d4, d5, d6, d7⟩ := k1
    obtain ⟨g1, g2, g3, g4, g5⟩ := clI_fb d4 cA a5 cV c1
    have k2 := s_Mo_give H' m sc ar hr.1 hcb v (nI n)
    rw [nI_clamp (by omega), if_neg (fun z => z.elim c0 (fun z => z.elim c8 c))] at k2
    have hrw := b2.2.2.2.2.2.2
    have fin := fin_ hm g5 (Φ' := Φ - (pot_ 4096 len - pot_ 4096 len')) (p1 := p_SB_give (some sb) v (nI n)) (p2 := p_Mo_give (some m) v (nI n)) (Φ := Φ) (cb := cb + n) (f := wb_ f' (fun k => sx_ (by_ v k)) n cb) (sb := sb) (C := C) (S := S) ⟨b, w, lt, vf, A, B, rb', len', rw', lw, fqa, fqb, g1, g2, g3, d2, brR_fb d4 b2 (Ne.symm cA.2.1) (Ne.symm b3), by omega, g4, by omega⟩ (by rw [e1, bd_ok d1, ev_ite, if_neg (by decide), ev_z1, hm_tk_some, Nat.add_zero, Nat.add_zero]) k2 ?_ (by omega) (by omega)
    · exact fin
    · refine rel_b hr (va_up_self _ _ _) (by rw [va_up_ne _ _ (by decide), va_up_ne _ _ (by decide)]) (by rw [va_up_ne _ _ (by decide), va_up_ne _ _ (by decide)]) (by rw [va_up_ne _ _ (by decide), va_up_ne _ _ (by decide)]) ?_
      exact rb_wb (fun k => by_bz v k) n (fun j hj => by rw [d3 j hj]; exact hr.2.1 j hj)
theorem call_turnOver (sb m : Nat) : call_ sb m (p_SB_turnOver (some sb)) (p_Mo_turnOver (some m)) := by
  intro H Φ ⟨cb, f, cw, fw, ft, na, FA, sc, ar, hc, hm, hr⟩
  have hc' := hc
  obtain ⟨b, w, lt, vf, A, B, rb, len, rw', lw, fqa, fqb, cA, a5, cV, b1, b2, b3, c1, c2⟩ := hc
  have hcw : cw ≤ 26000 := Nat.le_trans hr.2.2.2.1 (by omega)
  have e1 : p_SB_turnOver (some sb) H = hm_bind (p_ByteRow_become (some b) (some w)) (fun a2 => hm_z a2) H := by
    rw [p_SB_turnOver, sb_ref0 cA, sb_ref1 cA, br_on b1]
  by_cases c : 4096 < cw
  · have k2 := s_Mo_turnOver H m sc ar hr.2.2.1 hcw
    rw [if_pos c] at k2
    refine fin_ hm (s8_rfl H) hc' ?_ k2 (rel_0 hr) (C := 0) (S := 0) (Φ' := Φ) (by omega) (by omega)
    have k1 : p_ByteRow_become (some b) (some w) H = some (0, 0, 0, H) := by
      rw [p_ByteRow_become, br_get2 b2, br_get0 b1, ev_ite, if_neg (nI_ge c (by omega)), ev_z0]
    rw [e1, bd_0 k1, ev_z0]
  · obtain ⟨C, S, H1, rb', len', f', d1, d2, d3, d4, d5, d6, d7, d8⟩ := s_br_room b1 (need := cw) (by omega)
    have w1 := brR_fb d5 b2 (Ne.symm cA.2.1) (Ne.symm b3)
    have hrw := b2.2.2.2.2.2.2
    have hlw : cw ≤ lw := b2.2.2.1
    have hl1 : lw ≤ 24892 := b2.2.2.2.1
    have hl2 : len' ≤ 4096 := d2.2.2.2.1
    have R2 := br_row d2 (va_cpy fw f' 0 0 cw)
    have R3 := br_cnt R2 (c := cw) d3
    have w2 : brR (hc_up H1 rb' (.inl (7, len', va_cpy fw f' 0 0 cw))) w 24892 rw' lw cw fw := brR_fb (fb_i b rb' H1 len' _) w1 (Ne.symm cA.2.1) (by omega)
    have w3 := brR_fb (fb_o b rb' (hc_up H1 rb' (.inl (7, len', va_cpy fw f' 0 0 cw))) [vi_ (nI 4096), vr_ (some rb'), vi_ (nI cw)]) w2 (Ne.symm cA.2.1) (by omega)
    have k1 : p_ByteRow_become (some b) (some w) H = some (1, C, S, hc_up (hc_up H1 rb' (.inl (7, len', va_cpy fw f' 0 0 cw))) b (.inr (.inr (1, [vi_ (nI 4096), vr_ (some rb'), vi_ (nI cw)])))) := by
      rw [p_ByteRow_become, br_get2 b2, br_get0 b1, ev_ite, if_pos (nI_le (by omega) (by omega)), br_get2 b2, br_on b1, bd_ok d1, br_ref1 w1, br_ref1 d2, br_get2 w1]
      have cp := bd_copy (s := 0) (d := 0) (n := cw) w1.2.1 d2.2.1 (by omega) (by omega) (by omega) (by omega) (fun _ => hm_bind (hm_geti 1 2 (some w)) fun a7 => hm_bind (hm_puti 1 2 (some b) a7) fun _ => hm_z 1)
      have cp : hm_bind (hm_copy 7 7 (some rw') 0 (some rb') 0 (nI cw)) (fun _ => hm_bind (hm_geti 1 2 (some w)) fun a7 => hm_bind (hm_puti 1 2 (some b) a7) fun _ => hm_z 1) H1 = _ := cp
      rw [cp, br_get2 w2, br_put2 R2, ev_z1, hm_tk_some, Nat.add_zero, Nat.add_zero]
    have fr : fb_ b rb H (hc_up (hc_up H1 rb' (.inl (7, len', va_cpy fw f' 0 0 cw))) b (.inr (.inr (1, [vi_ (nI 4096), vr_ (some rb'), vi_ (nI cw)])))) := fb_tr d5 (fb_tr (fb_i b rb' H1 len' _) (fb_o b rb' _ _) (Or.inl rfl)) d6
    obtain ⟨g1, g2, g3, g4, g5⟩ := clI_fb fr cA a5 cV c1
    have k2 := s_Mo_turnOver (hc_up (hc_up H1 rb' (.inl (7, len', va_cpy fw f' 0 0 cw))) b (.inr (.inr (1, [vi_ (nI 4096), vr_ (some rb'), vi_ (nI cw)])))) m sc ar hr.2.2.1 hcw
    rw [if_neg c] at k2
    obtain ⟨gg, k2, k3⟩ := k2
    refine fin_ hm g5 (Φ' := Φ - (pot_ 4096 len - pot_ 4096 len')) (cb := cw) (f := va_cpy fw f' 0 0 cw) ⟨b, w, lt, vf, A, B, rb', len', rw', lw, fqa, fqb, g1, g2, g3, R3, w3, by omega, g4, by omega⟩ (by rw [e1, bd_ok k1, ev_z1, hm_tk_some, Nat.add_zero, Nat.add_zero]) k2 ?_ (by omega) (by omega)
    refine rel_b hr (va_up_self _ _ _) (by rw [va_up_ne _ _ (by decide), va_up_ne _ _ (by decide)]) (by rw [va_up_ne _ _ (by decide), va_up_ne _ _ (by decide)]) (by rw [va_up_ne _ _ (by decide), va_up_ne _ _ (by decide)]) (fun j hj => ?_)
    rw [pk_cpy_in (by omega) (by omega), k3 j hj]
    simp only [Nat.zero_add, Nat.sub_zero]
    exact hr.2.2.2.2.1 j hj
