/-! THE LAW's loop -/
theorem bd_sld {β : Type} {L i : Nat} {xs : Nat → Int32} (hi : i < L) (hL : L ≤ 2560) (k : Int32 → hM β) (H : hc_H) : hm_bind (hm_sld L xs (nI i)) k H = k (xs i) H := by
  refine bd_0 ?_
  unfold hm_sld
  rw [if_neg (nI_in hi (by omega)), nI_clamp (by omega)]
def lo_ (o : Option (Int32 × Nat × Nat × hc_H)) (Φ : Nat) : Prop := ∃ C S h2, o = some (1, C, S, h2) ∧ C ≤ Φ ∧ S ≤ Φ
theorem lw_step {sb m Φ r : Nat} {H : hc_H} {p1 p2 : hM Int32} (hc : call_ sb m p1 p2) (hi : inv_ H sb m Φ) {K : hM Int32} (hK : ∀ H' Φ', inv_ H' sb m Φ' → lo_ (K H') (Φ' + 3 * r)) (rest : Int32 → hM Int32) (hr : ∀ a H', rest a H' = hm_bind (hm_on 8 (some m) p2) (fun b => if a = b then K else hm_z 0) H') : lo_ (hm_bind (hm_on 0 (some sb) p1) rest H) (Φ + 3 * (r + 1)) := by
  obtain ⟨x, C, S, H1, H2, Φ', e1, hne, e2, hi2, b1, b2⟩ := hc H Φ hi
  obtain ⟨C2, S2, h2, k1, k2, k3⟩ := hK H2 Φ' hi2
  obtain ⟨cb, f, cw, fw, ft, na, FA, sc, ar, ⟨b, w, lt, vf, A, B, rb, len, rw', lw, fqa, fqb, cA, -⟩, -, -⟩ := hi
  refine ⟨C + C2, S + S2, h2, ?_, by omega, by omega⟩
  rw [sb_on cA, bd_ok e1, hr]
  have on8 : hm_bind (hm_on 8 (some m) p2) (fun b => if x = b then K else hm_z 0) H1 = hm_bind p2 (fun b => if x = b then K else hm_z 0) H1 := by
    rw [bd_on]
    refine if_pos ?_
    cases e : H1.2.2.2 8 m with
    | none => exact absurd e hne
    | some x => rfl
  rw [on8, bd_0 e2, if_pos rfl, k1, hm_tk_some]
theorem lex {L v : Nat} (hL : L ≤ 2560) (hv : v ≤ 3000) : (Int32.ofNat L - 5 < nI v) ↔ L < v + 5 := by
  have e : (Int32.ofNat L - 5).toInt = (L : Int) - 5 := by
    rcases Nat.lt_or_ge L 5 with z | z
    · have : L = 0 ∨ L = 1 ∨ L = 2 ∨ L = 3 ∨ L = 4 := by omega
      rcases this with rfl | rfl | rfl | rfl | rfl <;> decide
    · have e1 : nI L - nI 5 = nI (L - 5) := pk_sub (b := 5) z
      have e2 : Int32.ofNat L - 5 = nI (L - 5) := e1
      rw [e2, nI_toInt (by omega)]
      omega
  rw [Int32.lt_iff_toInt_lt, e, nI_toInt (by omega)]
  omega
theorem lw_loop {sb m L : Nat} {xs : Nat → Int32} (hL : L ≤ 2560) : ∀ (r fu v : Nat) (H : hc_H) (Φ : Nat), L ≤ v + r → r < fu → v ≤ 2565 → inv_ H sb m Φ → lo_ (p_La_law_18 L xs (some sb) (some m) (hm_z 1) fu (nI v) H) (Φ + 3 * r) := by
  intro r
  induction r with
  | zero =>
    intro fu v H Φ h1 h2 h3 hi
    obtain ⟨u, rfl⟩ : ∃ u, fu = u + 1 := ⟨fu - 1, by omega⟩
    refine ⟨0, 0, H, ?_, by omega, by omega⟩
    rw [p_La_law_18, ev_ite, if_pos ((lex hL (by omega)).mpr (by omega)), ev_z1]
  | succ r ih =>
    intro fu v H Φ h1 h2 h3 hi
    obtain ⟨u, rfl⟩ : ∃ u, fu = u + 1 := ⟨fu - 1, by omega⟩
    by_cases c : L < v + 5
    · refine ⟨0, 0, H, ?_, by omega, by omega⟩
      rw [p_La_law_18, ev_ite, if_pos ((lex hL (by omega)).mpr c), ev_z1]
    have hK : ∀ H' Φ', inv_ H' sb m Φ' → lo_ (p_La_law_18 L xs (some sb) (some m) (hm_z 1) u (nI (v + 5)) H') (Φ' + 3 * r) := fun H' Φ' hi' => ih u (v + 5) H' Φ' (by omega) (by omega) (by omega) hi'
    have e5 : nI v + 5 = nI (v + 5) := nI_add v 5
    have e1 : nI v + 1 = nI (v + 1) := nI_add v 1
    have e2 : nI v + 2 = nI (v + 2) := nI_add v 2
    have e3 : nI v + 3 = nI (v + 3) := nI_add v 3
    have e4 : nI v + 4 = nI (v + 4) := nI_add v 4
    have s0 : ∀ (k : Int32 → hM Int32) (H : hc_H), hm_bind (hm_sld L xs (nI v)) k H = k (xs v) H := bd_sld (by omega) hL
    have s1 : ∀ (k : Int32 → hM Int32) (H : hc_H), hm_bind (hm_sld L xs (nI (v + 1))) k H = k (xs (v + 1)) H := bd_sld (by omega) hL
    have s2 : ∀ (k : Int32 → hM Int32) (H : hc_H), hm_bind (hm_sld L xs (nI (v + 2))) k H = k (xs (v + 2)) H := bd_sld (by omega) hL
    have s3 : ∀ (k : Int32 → hM Int32) (H : hc_H), hm_bind (hm_sld L xs (nI (v + 3))) k H = k (xs (v + 3)) H := bd_sld (by omega) hL
    have s4 : ∀ (k : Int32 → hM Int32) (H : hc_H), hm_bind (hm_sld L xs (nI (v + 4))) k H = k (xs (v + 4)) H := bd_sld (by omega) hL
    rw [p_La_law_18, ev_ite, if_neg (fun z => c ((lex hL (by omega)).mp z)), s0]
    simp only [hm_jn]
    rw [e5, e1, e2, e3, e4]
    by_cases c0 : xs v &&& 15 = 0
    · rw [ev_ite, if_pos c0, s1, s2, s3]
      exact lw_step (call_give sb m _ _) hi hK _ (fun a H' => by rw [s1, s2, s3])
    by_cases c1 : xs v &&& 15 = 1
    · rw [ev_ite, if_neg c0, ev_ite, if_pos c1, s1]
      exact lw_step (call_cut sb m _) hi hK _ (fun a H' => by rw [s1])
    by_cases c2 : xs v &&& 15 = 2
    · rw [ev_ite, if_neg c0, ev_ite, if_neg c1, ev_ite, if_pos c2, s1, s2]
      exact lw_step (call_poke sb m _ _) hi hK _ (fun a H' => by rw [s1, s2])
    by_cases c3 : xs v &&& 15 = 3
    · rw [ev_ite, if_neg c0, ev_ite, if_neg c1, ev_ite, if_neg c2, ev_ite, if_pos c3]
      exact lw_step (call_read sb m) hi hK _ (fun a H' => rfl)
    by_cases c4 : xs v &&& 15 = 4
    · rw [ev_ite, if_neg c0, ev_ite, if_neg c1, ev_ite, if_neg c2, ev_ite, if_neg c3, ev_ite, if_pos c4]
      exact lw_step (call_write sb m) hi hK _ (fun a H' => rfl)
    by_cases c5 : xs v &&& 15 = 5
    · rw [ev_ite, if_neg c0, ev_ite, if_neg c1, ev_ite, if_neg c2, ev_ite, if_neg c3, ev_ite, if_neg c4, ev_ite, if_pos c5]
      exact lw_step (call_turnOver sb m) hi hK _ (fun a H' => rfl)
    by_cases c6 : xs v &&& 15 = 6
    · rw [ev_ite, if_neg c0, ev_ite, if_neg c1, ev_ite, if_neg c2, ev_ite, if_neg c3, ev_ite, if_neg c4, ev_ite, if_neg c5, ev_ite, if_pos c6, s1, s2, s3, s4]
      exact lw_step (call_change sb m _ _ _ _) hi hK _ (fun a H' => by rw [s1, s2, s3, s4])
    by_cases c7 : xs v &&& 15 = 7
    · rw [ev_ite, if_neg c0, ev_ite, if_neg c1, ev_ite, if_neg c2, ev_ite, if_neg c3, ev_ite, if_neg c4, ev_ite, if_neg c5, ev_ite, if_neg c6, ev_ite, if_pos c7, s1, s2, s3]
      exact lw_step (call_code sb m _ _ _) hi hK _ (fun a H' => by rw [s1, s2, s3])
    by_cases c8 : xs v &&& 15 = 8
    · rw [ev_ite, if_neg c0, ev_ite, if_neg c1, ev_ite, if_neg c2, ev_ite, if_neg c3, ev_ite, if_neg c4, ev_ite, if_neg c5, ev_ite, if_neg c6, ev_ite, if_neg c7, ev_ite, if_pos c8, s1, s2]
      exact lw_step (call_function sb m _ _) hi hK _ (fun a H' => by rw [s1, s2])
    by_cases c9 : xs v &&& 15 = 9
    · rw [ev_ite, if_neg c0, ev_ite, if_neg c1, ev_ite, if_neg c2, ev_ite, if_neg c3, ev_ite, if_neg c4, ev_ite, if_neg c5, ev_ite, if_neg c6, ev_ite, if_neg c7, ev_ite, if_neg c8, ev_ite, if_pos c9, s1, s2, s3]
      exact lw_step (call_handler sb m _ _ _) hi hK _ (fun a H' => by rw [s1, s2, s3])
    by_cases c10 : xs v &&& 15 = 10
    · rw [ev_ite, if_neg c0, ev_ite, if_neg c1, ev_ite, if_neg c2, ev_ite, if_neg c3, ev_ite, if_neg c4, ev_ite, if_neg c5, ev_ite, if_neg c6, ev_ite, if_neg c7, ev_ite, if_neg c8, ev_ite, if_neg c9, ev_ite, if_pos c10, s1, s2, ev_ite]
      by_cases d : xs (v + 2) = 0
      · rw [if_pos d]
        exact lw_step (call_byteAt sb m _ _) hi hK _ (fun a H' => by rw [s1, s2, ev_ite, if_pos d])
      · rw [if_neg d]
        exact lw_step (call_byteAt sb m _ _) hi hK _ (fun a H' => by rw [s1, s2, ev_ite, if_neg d])
    by_cases c11 : xs v &&& 15 = 11
    · rw [ev_ite, if_neg c0, ev_ite, if_neg c1, ev_ite, if_neg c2, ev_ite, if_neg c3, ev_ite, if_neg c4, ev_ite, if_neg c5, ev_ite, if_neg c6, ev_ite, if_neg c7, ev_ite, if_neg c8, ev_ite, if_neg c9, ev_ite, if_neg c10, ev_ite, if_pos c11, s1]
      exact lw_step (call_look sb m _) hi hK _ (fun a H' => by rw [s1])
    rw [ev_ite, if_neg c0, ev_ite, if_neg c1, ev_ite, if_neg c2, ev_ite, if_neg c3, ev_ite, if_neg c4, ev_ite, if_neg c5, ev_ite, if_neg c6, ev_ite, if_neg c7, ev_ite, if_neg c8, ev_ite, if_neg c9, ev_ite, if_neg c10, ev_ite, if_neg c11]
    obtain ⟨C, S, h2, k1, k2, k3⟩ := hK H Φ hi
    exact ⟨C, S, h2, k1, by omega, by omega⟩
