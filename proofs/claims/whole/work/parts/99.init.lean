/-! THE BEGINNING: new StackBytes, new reference; and the law -/
def gw_ (H H' : hc_H) : Prop := H.1 ≤ H'.1 ∧ (∀ k a, a < H.1 → H'.2.1 k a = H.2.1 k a) ∧ (∀ k a, a < H.1 → H'.2.2.1 k a = H.2.2.1 k a) ∧ ∀ k a, a < H.1 → k ≠ 0 → H'.2.2.2 k a = H.2.2.2 k a
theorem gw_tr {H H1 H2 : hc_H} (h1 : gw_ H H1) (h2 : gw_ H1 H2) : gw_ H H2 := ⟨Nat.le_trans h1.1 h2.1, fun k a h => (h2.2.1 k a (Nat.lt_of_lt_of_le h h1.1)).trans (h1.2.1 k a h), fun k a h => (h2.2.2.1 k a (Nat.lt_of_lt_of_le h h1.1)).trans (h1.2.2.1 k a h), fun k a h h0 => (h2.2.2.2 k a (Nat.lt_of_lt_of_le h h1.1) h0).trans (h1.2.2.2 k a h h0)⟩
theorem gw_put (H : hc_H) (sb : Nat) (fs : List lc_V) : gw_ H (hc_up H sb (.inr (.inr (0, fs)))) := ⟨Nat.le_refl _, fun _ _ _ => rfl, fun _ _ _ => rfl, fun k a _ h0 => by rw [up_o4, if_neg (fun z => h0 z.1)]⟩
theorem gw_oE {H G : hc_H} {c : Nat} {fs : List lc_V} (h : gw_ H G) : gw_ H (oE_ G c H.1 fs) := ⟨h.1, h.2.1, h.2.2.1, fun k a ha h0 => by
  simp only [oE_]
  rw [if_neg (by omega)]
  exact h.2.2.2 k a ha h0⟩
theorem gw_s (H : hc_H) : gw_ H (H.1 + 1, H.2) := ⟨Nat.le_succ _, fun _ _ _ => rfl, fun _ _ _ => rfl, fun _ _ _ _ => rfl⟩
theorem gw_nwi (H : hc_H) (e : Nat × Nat × (Nat → Int32)) : gw_ H (hc_nw H (.inl e)) := ⟨by rw [nw_i1]; omega, fun k a h => by rw [nw_i2, if_neg (by omega)], fun k a _ => by rw [nw_i3], fun k a _ _ => by rw [nw_i3]⟩
theorem gw_nwq (H : hc_H) (e : Nat × Nat × (Nat → Option Nat)) : gw_ H (hc_nw H (.inr (.inl e))) := ⟨by rw [nw_q1]; omega, fun _ _ _ => rfl, fun k a h => by rw [nw_q3, if_neg (by omega)], fun _ _ _ _ => rfl⟩
def sbo_ (x : Nat → Option Nat) : List lc_V := [vr_ (x 0), vr_ (x 1), vr_ (x 2), vr_ (x 3), vr_ (x 4), vr_ (x 5)]
section INI
variable {H : hc_H} {sb : Nat} {x : Nat → Option Nat}
theorem sbo_len : (sbo_ x).length = 6 := rfl
theorem sbo_put (o : H.2.2.2 0 sb = some (sbo_ x)) {j : Nat} (hj : j < 6) (v : Option Nat) (K : Unit → hM Unit) : hm_bind (hm_putr 0 j (some sb) v) K H = K () (hc_up H sb (.inr (.inr (0, sbo_ (va_up x j v))))) := by
  rw [bd_putr, o]
  dsimp only
  rw [if_pos (by rw [sbo_len]; exact hj)]
  have : (sbo_ x).set j (vr_ v) = sbo_ (va_up x j v) := by
    have : j = 0 ∨ j = 1 ∨ j = 2 ∨ j = 3 ∨ j = 4 ∨ j = 5 := by omega
    rcases this with rfl | rfl | rfl | rfl | rfl | rfl <;> simp [sbo_, va_up]
  rw [this]
theorem oE_0 {G : hc_H} {c q : Nat} {fs : List lc_V} (hc : c ≠ 0) (a : Nat) : (oE_ G c q fs).2.2.2 0 a = G.2.2.2 0 a := by
  simp only [oE_]
  rw [if_neg (fun z => hc z.1.symm)]
theorem up_sb {G : hc_H} {fs : List lc_V} : (hc_up G sb (.inr (.inr (0, fs)))).2.2.2 0 sb = some fs := by
  rw [up_o4, if_pos ⟨rfl, rfl⟩]
theorem up_sk {G : hc_H} {fs : List lc_V} {k : Nat} (hk : k ≠ 0) (a : Nat) : (hc_up G sb (.inr (.inr (0, fs)))).2.2.2 k a = G.2.2.2 k a := by
  rw [up_o4, if_neg (fun z => hk z.1)]
theorem i_br (o : H.2.2.2 0 sb = some (sbo_ x)) {j most : Nat} (hj : j < 6) (h1 : 64 ≤ most) (h2 : most ≤ 30000) (K : hM Unit) : ∃ H', (hm_bind (hm_new 1 3 [vi_ 0, vr_ none, vi_ 0]) fun q1 => hm_bind (p_ByteRow_init (some q1) (nI most)) fun _ => hm_bind (hm_putr 0 j (some sb) (some q1)) fun _ => K) H = hm_tk 2 67 (K H') ∧ H'.1 = H.1 + 2 ∧ gw_ H H' ∧ H'.2.2.2 0 sb = some (sbo_ (va_up x j (some H.1))) ∧ brR H' H.1 most (H.1 + 1) 64 0 (fun _ => 0) := by
  have init : p_ByteRow_init (some H.1) (nI most) (hc_nw H (.inr (.inr (1, [vi_ 0, vr_ none, vi_ 0])))) = some ((), 1, 64, oE_ (hc_nw (H.1 + 1, H.2) (.inl (7, 64, fun _ => 0))) 1 H.1 [vi_ (nI most), vr_ (some (H.1 + 1)), vi_ 0]) := by
    rw [oE_nw, p_ByteRow_init, show (64 : Int32) = nI 64 from rfl]
    unfold hm_putr hm_puti
    rw [oE_put _ _ _ _ _ _ (Nat.le_of_ble_eq_true rfl), oE_newi _ _ _ _ _ _ (by omega), oE_put _ _ _ _ _ _ (Nat.le_of_ble_eq_true rfl), oE_put _ _ _ _ _ _ (Nat.le_of_ble_eq_true rfl), ev_ret, hm_tk_some]
    rfl
  have o1 : (oE_ (hc_nw (H.1 + 1, H.2) (.inl (7, 64, fun _ => 0))) 1 H.1 [vi_ (nI most), vr_ (some (H.1 + 1)), vi_ 0]).2.2.2 0 sb = some (sbo_ x) := by
    rw [oE_0 (by decide)]; exact o
  refine ⟨hc_up (oE_ (hc_nw (H.1 + 1, H.2) (.inl (7, 64, fun _ => 0))) 1 H.1 [vi_ (nI most), vr_ (some (H.1 + 1)), vi_ 0]) sb (.inr (.inr (0, sbo_ (va_up x j (some H.1))))), ?_, rfl, gw_tr (gw_oE (gw_tr (gw_s H) (gw_nwi _ _))) (gw_put _ _ _), up_sb, ?_, ?_, by omega, h1, by omega, h2, ?_⟩
  · rw [bd_new, bd_ok init, hm_tk_tk, sbo_put o1 hj]
  · rw [up_sk (by decide), oE_o]; rfl
  · show (hc_nw (H.1 + 1, H.2) (.inl (7, 64, fun _ => 0))).2.1 7 (H.1 + 1) = _
    rw [nw_i2, if_pos ⟨rfl, rfl⟩]
  · show H.1 + 1 < H.1 + 1 + 1
    omega
theorem i_ft (o : H.2.2.2 0 sb = some (sbo_ x)) {j : Nat} (hj : j < 6) (K : hM Unit) : ∃ H', (hm_bind (hm_new 2 2 [vi_ 0, vi_ 0]) fun q3 => hm_bind (p_Fault_init (some q3)) fun _ => hm_bind (hm_putr 0 j (some sb) (some q3)) fun _ => K) H = hm_tk 1 2 (K H') ∧ H'.1 = H.1 + 1 ∧ gw_ H H' ∧ H'.2.2.2 0 sb = some (sbo_ (va_up x j (some H.1))) ∧ H'.2.2.2 2 H.1 = some [vi_ 0, vi_ (-1)] := by
  have init : p_Fault_init (some H.1) (hc_nw H (.inr (.inr (2, [vi_ 0, vi_ 0])))) = some ((), 0, 0, oE_ (H.1 + 1, H.2) 2 H.1 [vi_ 0, vi_ (-1)]) := by
    rw [oE_nw, p_Fault_init]
    unfold hm_puti
    rw [oE_put _ _ _ _ _ _ (Nat.le_of_ble_eq_true rfl), oE_put _ _ _ _ _ _ (Nat.le_of_ble_eq_true rfl), ev_ret]
    rfl
  have o1 : (oE_ (H.1 + 1, H.2) 2 H.1 [vi_ 0, vi_ (-1)]).2.2.2 0 sb = some (sbo_ x) := by
    rw [oE_0 (by decide)]; exact o
  refine ⟨hc_up (oE_ (H.1 + 1, H.2) 2 H.1 [vi_ 0, vi_ (-1)]) sb (.inr (.inr (0, sbo_ (va_up x j (some H.1))))), ?_, rfl, gw_tr (gw_oE (gw_s H)) (gw_put _ _ _), up_sb, ?_⟩
  · rw [bd_new, bd_0 init, sbo_put o1 hj]
  · rw [up_sk (by decide), oE_o]
theorem i_ve (o : H.2.2.2 0 sb = some (sbo_ x)) {j : Nat} (hj : j < 6) (K : hM Unit) : ∃ H', (hm_bind (hm_new 7 11 [vr_ none, vr_ none, vr_ none, vi_ 0, vr_ none, vr_ none, vr_ none, vi_ 0, vi_ 0, vi_ 0, vi_ 0]) fun q7 => hm_bind (p_Verifier_init (some q7)) fun _ => hm_bind (hm_putr 0 j (some sb) (some q7)) fun _ => K) H = hm_tk 4 1211 (K H') ∧ H'.1 = H.1 + 4 ∧ gw_ H H' ∧ H'.2.2.2 0 sb = some (sbo_ (va_up x j (some H.1))) ∧ clV_ H' H.1 := by
  have init : p_Verifier_init (some H.1) (oE_ (H.1 + 1, H.2) 7 H.1 [vr_ none, vr_ none, vr_ none, vi_ 0, vr_ none, vr_ none, vr_ none, vi_ 0, vi_ 0, vi_ 0, vi_ 0]) = some ((), 3, 1200, oE_ (hc_nw (hc_nw (hc_nw (H.1 + 1, H.2) (.inl (4, 400, fun _ => 0))) (.inl (5, 400, fun _ => 0))) (.inl (6, 400, fun _ => 0))) 7 H.1 (vq_fs H.1 none none none (fun _ => 0))) := by
    rw [p_Verifier_init, show (400 : Int32) = nI 400 from rfl]
    unfold hm_putr
    rw [oE_newi _ _ _ _ _ _ (by omega), oE_put _ _ _ _ _ _ (Nat.le_of_ble_eq_true rfl), oE_newi _ _ _ _ _ _ (by omega), oE_put _ _ _ _ _ _ (Nat.le_of_ble_eq_true rfl), oE_newi _ _ _ _ _ _ (by omega), oE_put _ _ _ _ _ _ (Nat.le_of_ble_eq_true rfl), ev_ret, hm_tk_some, hm_tk_some, hm_tk_some]
    rfl
  have o1 : (oE_ (hc_nw (hc_nw (hc_nw (H.1 + 1, H.2) (.inl (4, 400, fun _ => 0))) (.inl (5, 400, fun _ => 0))) (.inl (6, 400, fun _ => 0))) 7 H.1 (vq_fs H.1 none none none (fun _ => 0))).2.2.2 0 sb = some (sbo_ x) := by
    rw [oE_0 (by decide)]; exact o
  refine ⟨hc_up (oE_ (hc_nw (hc_nw (hc_nw (H.1 + 1, H.2) (.inl (4, 400, fun _ => 0))) (.inl (5, 400, fun _ => 0))) (.inl (6, 400, fun _ => 0))) 7 H.1 (vq_fs H.1 none none none (fun _ => 0))) sb (.inr (.inr (0, sbo_ (va_up x j (some H.1))))), ?_, rfl, gw_tr (gw_oE (gw_tr (gw_tr (gw_tr (gw_s H) (gw_nwi _ _)) (gw_nwi _ _)) (gw_nwi _ _))) (gw_put _ _ _), up_sb, ⟨none, none, none, fun _ => 0, fun _ _ => 0, ?_, fun k h1 h2 => ?_⟩⟩
  · rw [bd_new, oE_nw, bd_ok init, hm_tk_tk, sbo_put o1 hj]
  · rw [up_sk (by decide), oE_o]
  · show (hc_nw (hc_nw (hc_nw (H.1 + 1, H.2) (.inl (4, 400, fun _ => 0))) (.inl (5, 400, fun _ => 0))) (.inl (6, 400, fun _ => 0))).2.1 k (H.1 + (k - 3)) = _
    have : k = 4 ∨ k = 5 ∨ k = 6 := by omega
    rcases this with rfl | rfl | rfl
    · rw [nw_i2, if_neg (fun z => by cases z.1), nw_i2, if_neg (fun z => by cases z.1), nw_i2, if_pos ⟨rfl, rfl⟩]
    · rw [nw_i2, if_neg (fun z => by cases z.1), nw_i2, if_pos ⟨rfl, rfl⟩]
    · rw [nw_i2, if_pos ⟨rfl, rfl⟩]
theorem i_pr (o : H.2.2.2 0 sb = some (sbo_ x)) {j : Nat} (hj : j < 6) (K : hM Unit) : ∃ H' FA, (hm_bind (hm_new 5 2 [vr_ none, vi_ 0]) fun q9 => hm_bind (p_Program_init (some q9)) fun _ => hm_bind (hm_putr 0 j (some sb) (some q9)) fun _ => K) H = hm_tk 14 1661 (K H') ∧ H'.1 = H.1 + 14 ∧ gw_ H H' ∧ H'.2.2.2 0 sb = some (sbo_ (va_up x j (some H.1))) ∧ dsR H' H.1 1 (va_up (fun _ => none) 0 (some (H.1 + 2))) FA ∧ FA 0 = F0_ := by
  have D0 : dsR (oE_ (hc_nw (H.1 + 1, H.2) (.inr (.inl (8, 12, fun _ => none)))) 5 H.1 [vr_ (some (H.1 + 1)), vi_ 0]) H.1 0 (fun _ => none) (fun _ => F0_) := by
    refine ⟨⟨?_, ?_⟩, ?_, ?_⟩
    · rw [oE_o]; rfl
    · show (hc_nw (H.1 + 1, H.2) (.inr (.inl (8, 12, fun _ => none)))).2.2.1 8 (H.1 + 1) = _
      rw [nw_q3, if_pos ⟨rfl, rfl⟩]
    · intro f f' q q' _ _ _ e _; cases e
    · intro f q _ e; cases e
  obtain ⟨N1, N2⟩ := ds_new D0 (f := 0) (by omega)
  have hH1 : (oE_ (hc_nw (H.1 + 1, H.2) (.inr (.inl (8, 12, fun _ => none)))) 5 H.1 [vr_ (some (H.1 + 1)), vi_ 0]).1 = H.1 + 2 := rfl
  have n0 : (oE_ (hc_nw (H.1 + 1, H.2) (.inr (.inl (8, 12, fun _ => none)))) 5 H.1 [vr_ (some (H.1 + 1)), vi_ 0]).2.2.2 0 sb = some (sbo_ x) := by
    rw [oE_0 (by decide)]; exact o
  have gH : gw_ H (oE_ (hc_nw (H.1 + 1, H.2) (.inr (.inl (8, 12, fun _ => none)))) 5 H.1 [vr_ (some (H.1 + 1)), vi_ 0]) := gw_oE (gw_tr (gw_s H) (gw_nwq _ _))
  have g8 : (fn_em ((oE_ (hc_nw (H.1 + 1, H.2) (.inr (.inl (8, 12, fun _ => none)))) 5 H.1 [vr_ (some (H.1 + 1)), vi_ 0]).1 + 12, (oE_ (hc_nw (H.1 + 1, H.2) (.inr (.inl (8, 12, fun _ => none)))) 5 H.1 [vr_ (some (H.1 + 1)), vi_ 0]).2) (oE_ (hc_nw (H.1 + 1, H.2) (.inr (.inl (8, 12, fun _ => none)))) 5 H.1 [vr_ (some (H.1 + 1)), vi_ 0]).1 F0_).2.2.1 8 (H.1 + 1) = some (12, fun _ => none) := by
    simp only [fn_em]
    rw [if_neg (by omega)]; exact D0.1.2
  have init : p_Program_init (some H.1) (hc_nw H (.inr (.inr (5, [vr_ none, vi_ 0])))) = hm_tk 13 1659 ((hm_bind (hm_puti 5 1 (some H.1) 1) fun _ => hm_ret ()) (hc_up (fn_em ((oE_ (hc_nw (H.1 + 1, H.2) (.inr (.inl (8, 12, fun _ => none)))) 5 H.1 [vr_ (some (H.1 + 1)), vi_ 0]).1 + 12, (oE_ (hc_nw (H.1 + 1, H.2) (.inr (.inl (8, 12, fun _ => none)))) 5 H.1 [vr_ (some (H.1 + 1)), vi_ 0]).2) (oE_ (hc_nw (H.1 + 1, H.2) (.inr (.inl (8, 12, fun _ => none)))) 5 H.1 [vr_ (some (H.1 + 1)), vi_ 0]).1 F0_) (H.1 + 1) (.inr (.inl (8, 12, va_up (fun _ => none) 0 (some (oE_ (hc_nw (H.1 + 1, H.2) (.inr (.inl (8, 12, fun _ => none)))) 5 H.1 [vr_ (some (H.1 + 1)), vi_ 0]).1)))))) := by
    rw [oE_nw, p_Program_init, show (12 : Int32) = nI 12 from rfl]
    have e0 : ∀ K : Unit → hM Unit, hm_bind (hm_putr 5 0 (some H.1) (some (H.1 + 1))) K (oE_ (hc_nw (H.1 + 1, H.2) (.inr (.inl (8, 12, fun _ => none)))) 5 H.1 [vr_ none, vi_ 0]) = K () (oE_ (hc_nw (H.1 + 1, H.2) (.inr (.inl (8, 12, fun _ => none)))) 5 H.1 [vr_ (some (H.1 + 1)), vi_ 0]) := fun K => oE_put _ _ _ _ _ _ (Nat.le_of_ble_eq_true rfl) _
    have e1 : ∀ K : Option Nat → hM Unit, hm_bind (hm_getr 5 0 (some H.1)) K (oE_ (hc_nw (H.1 + 1, H.2) (.inr (.inl (8, 12, fun _ => none)))) 5 H.1 [vr_ (some (H.1 + 1)), vi_ 0]) = K (some (H.1 + 1)) (oE_ (hc_nw (H.1 + 1, H.2) (.inr (.inl (8, 12, fun _ => none)))) 5 H.1 [vr_ (some (H.1 + 1)), vi_ 0]) := fun K => by
      rw [bd_getr, ev_fld, oE_o]; rfl
    have e2 := fun K : Unit → hM Unit => bd_qst (kd := 8) (ci := 3) (i := 0) g8 (by omega) (by omega) (fn_em_R _ _ _).1 K
    rw [oE_newq _ _ _ _ _ _ (by omega)]
    refine Eq.trans (congrArg (hm_tk 1 12) ((e0 _).trans ((e1 _).trans ((s_newF _ _).trans (congrArg (hm_tk 12 1647) (e2 _)))))) ?_
    rw [hm_tk_tk]
  have e3 : (hm_bind (hm_puti 5 1 (some H.1) 1) fun _ => hm_ret ()) (hc_up (fn_em ((oE_ (hc_nw (H.1 + 1, H.2) (.inr (.inl (8, 12, fun _ => none)))) 5 H.1 [vr_ (some (H.1 + 1)), vi_ 0]).1 + 12, (oE_ (hc_nw (H.1 + 1, H.2) (.inr (.inl (8, 12, fun _ => none)))) 5 H.1 [vr_ (some (H.1 + 1)), vi_ 0]).2) (oE_ (hc_nw (H.1 + 1, H.2) (.inr (.inl (8, 12, fun _ => none)))) 5 H.1 [vr_ (some (H.1 + 1)), vi_ 0]).1 F0_) (H.1 + 1) (.inr (.inl (8, 12, va_up (fun _ => none) 0 (some (oE_ (hc_nw (H.1 + 1, H.2) (.inr (.inl (8, 12, fun _ => none)))) 5 H.1 [vr_ (some (H.1 + 1)), vi_ 0]).1))))) = some ((), 0, 0, hc_up (hc_up (fn_em ((oE_ (hc_nw (H.1 + 1, H.2) (.inr (.inl (8, 12, fun _ => none)))) 5 H.1 [vr_ (some (H.1 + 1)), vi_ 0]).1 + 12, (oE_ (hc_nw (H.1 + 1, H.2) (.inr (.inl (8, 12, fun _ => none)))) 5 H.1 [vr_ (some (H.1 + 1)), vi_ 0]).2) (oE_ (hc_nw (H.1 + 1, H.2) (.inr (.inl (8, 12, fun _ => none)))) 5 H.1 [vr_ (some (H.1 + 1)), vi_ 0]).1 F0_) (H.1 + 1) (.inr (.inl (8, 12, va_up (fun _ => none) 0 (some (oE_ (hc_nw (H.1 + 1, H.2) (.inr (.inl (8, 12, fun _ => none)))) 5 H.1 [vr_ (some (H.1 + 1)), vi_ 0]).1))))) H.1 (.inr (.inr (5, [vr_ (some (H.1 + 1)), vi_ (nI 1)])))) := by
    rw [bd_puti, N1.1.1]
    dsimp only
    rw [if_pos (show 1 < [vr_ (some (H.1 + 1)), vi_ (nI 0)].length from Nat.le_of_ble_eq_true rfl), ev_ret]
    rfl
  rw [e3] at init
  rw [hm_tk_some] at init
  have hN1 : (hc_up (fn_em ((oE_ (hc_nw (H.1 + 1, H.2) (.inr (.inl (8, 12, fun _ => none)))) 5 H.1 [vr_ (some (H.1 + 1)), vi_ 0]).1 + 12, (oE_ (hc_nw (H.1 + 1, H.2) (.inr (.inl (8, 12, fun _ => none)))) 5 H.1 [vr_ (some (H.1 + 1)), vi_ 0]).2) (oE_ (hc_nw (H.1 + 1, H.2) (.inr (.inl (8, 12, fun _ => none)))) 5 H.1 [vr_ (some (H.1 + 1)), vi_ 0]).1 F0_) (H.1 + 1) (.inr (.inl (8, 12, va_up (fun _ => none) 0 (some (oE_ (hc_nw (H.1 + 1, H.2) (.inr (.inl (8, 12, fun _ => none)))) 5 H.1 [vr_ (some (H.1 + 1)), vi_ 0]).1))))).1 = H.1 + 14 := rfl
  generalize hc_up (fn_em ((oE_ (hc_nw (H.1 + 1, H.2) (.inr (.inl (8, 12, fun _ => none)))) 5 H.1 [vr_ (some (H.1 + 1)), vi_ 0]).1 + 12, (oE_ (hc_nw (H.1 + 1, H.2) (.inr (.inl (8, 12, fun _ => none)))) 5 H.1 [vr_ (some (H.1 + 1)), vi_ 0]).2) (oE_ (hc_nw (H.1 + 1, H.2) (.inr (.inl (8, 12, fun _ => none)))) 5 H.1 [vr_ (some (H.1 + 1)), vi_ 0]).1 F0_) (H.1 + 1) (.inr (.inl (8, 12, va_up (fun _ => none) 0 (some (oE_ (hc_nw (H.1 + 1, H.2) (.inr (.inl (8, 12, fun _ => none)))) 5 H.1 [vr_ (some (H.1 + 1)), vi_ 0]).1)))) = N at N1 N2 init hN1
  generalize oE_ (hc_nw (H.1 + 1, H.2) (.inr (.inl (8, 12, fun _ => none)))) 5 H.1 [vr_ (some (H.1 + 1)), vi_ 0] = H1 at N1 N2 hH1 n0 gH
  rw [hH1] at N1
  have gN : gw_ H1 (H1.1, H1.2) := ⟨Nat.le_refl _, fun _ _ _ => rfl, fun _ _ _ => rfl, fun _ _ _ _ => rfl⟩
  have gg2 : gw_ H N := by
    refine ⟨by omega, fun k a h => ?_, fun k a h => ?_, fun k a h h0 => ?_⟩
    · rw [N2.2.1 k a (Or.inr (by omega))]; exact gH.2.1 k a h
    · rw [N2.2.2.1 k a (by omega)]; exact gH.2.2.1 k a h
    · rw [N2.2.2.2 k a (by omega)]; exact gH.2.2.2 k a h h0
  have nN : N.2.2.2 0 sb = some (sbo_ x) := by rw [N2.2.2.2 0 sb (by omega)]; exact n0
  have nM : (hc_up N H.1 (.inr (.inr (5, [vr_ (some (H.1 + 1)), vi_ (nI 1)])))).2.2.2 0 sb = some (sbo_ x) := by
    rw [up_o4, if_neg (fun z => by cases z.1)]; exact nN
  refine ⟨hc_up (hc_up N H.1 (.inr (.inr (5, [vr_ (some (H.1 + 1)), vi_ (nI 1)])))) sb (.inr (.inr (0, sbo_ (va_up x j (some H.1))))), va_up (fun _ => F0_) 0 F0_, ?_, hN1, ?_, up_sb, ⟨⟨?_, ?_⟩, N1.2.1, fun f q hf e => ?_⟩, va_up_self _ _ _⟩
  · rw [bd_new, bd_ok init, hm_tk_tk, sbo_put nM hj]
  · refine gw_tr (H1 := hc_up N H.1 (.inr (.inr (5, [vr_ (some (H.1 + 1)), vi_ (nI 1)])))) ⟨gg2.1, gg2.2.1, gg2.2.2.1, fun k a h h0 => ?_⟩ (gw_put _ _ _)
    rw [up_o4, if_neg (fun z => by have := z.2; omega)]
    exact gg2.2.2.2 k a h h0
  · rw [up_sk (by decide), up_o4, if_pos ⟨rfl, rfl⟩]
  · exact N1.1.2
  · obtain ⟨r1, r2⟩ := N1.2.2 f q hf e
    exact ⟨fnR_upo (fnR_upo r1 H.1 5 (by decide) _) sb 0 (by decide) _, r2⟩
end INI
/-- the reference, new -/
theorem mo_new (H : hc_H) : oE_ (hc_nw (hc_nw (hc_nw (hc_nw (hc_nw (hc_nw (hc_nw (hc_nw (hc_nw (hc_nw (hc_nw (hc_nw (hc_nw (hc_nw (hc_nw (hc_nw (hc_nw (hc_nw (hc_nw (H.1 + 1, H.2) (.inl (10, 4096, fun _ => 0))) (.inl (11, 26000, fun _ => 0))) (.inl (12, 2, fun _ => 0))) (.inl (13, 24, fun _ => 0))) (.inl (14, 24, fun _ => 0))) (.inl (15, 24, fun _ => 0))) (.inl (16, 24, fun _ => 0))) (.inl (17, 24, fun _ => 0))) (.inl (18, 24, fun _ => 0))) (.inl (19, 9600, fun _ => 0))) (.inl (20, 9600, fun _ => 0))) (.inl (21, 144, fun _ => 0))) (.inl (22, 144, fun _ => 0))) (.inl (23, 144, fun _ => 0))) (.inl (24, 144, fun _ => 0))) (.inl (25, 144, fun _ => 0))) (.inl (26, 9600, fun _ => 0))) (.inl (27, 9600, fun _ => 0))) (.inl (28, 400, fun _ => 0))) 8 H.1 [vi_ 0, vr_ (some (H.1 + 1)), vi_ 0, vr_ (some (H.1 + 2)), vi_ 0, vi_ 0, vi_ (-1), vi_ 0, vi_ 0, vr_ (some (H.1 + 3)), vr_ (some (H.1 + 4)), vr_ (some (H.1 + 5)), vr_ (some (H.1 + 6)), vr_ (some (H.1 + 7)), vr_ (some (H.1 + 8)), vr_ (some (H.1 + 9)), vr_ (some (H.1 + 10)), vr_ (some (H.1 + 11)), vr_ (some (H.1 + 12)), vr_ (some (H.1 + 13)), vr_ (some (H.1 + 14)), vr_ (some (H.1 + 15)), vr_ (some (H.1 + 16)), vr_ (some (H.1 + 17)), vr_ (some (H.1 + 18)), vr_ (some (H.1 + 19)), vi_ 0, vi_ 0, vi_ 0] = mo_em (H.1 + 20, H.2) H.1 (va_up (fun _ => 0) 6 (-1)) (fun _ _ => 0) := by
  refine hc_ext rfl (fun k a => ?_) (fun _ _ => rfl) (fun k a => ?_)
  · show (if k = 28 ∧ a = H.1 + 19 then some (400, fun _ => (0 : Int32)) else if k = 27 ∧ a = H.1 + 18 then some (9600, fun _ => (0 : Int32)) else if k = 26 ∧ a = H.1 + 17 then some (9600, fun _ => (0 : Int32)) else if k = 25 ∧ a = H.1 + 16 then some (144, fun _ => (0 : Int32)) else if k = 24 ∧ a = H.1 + 15 then some (144, fun _ => (0 : Int32)) else if k = 23 ∧ a = H.1 + 14 then some (144, fun _ => (0 : Int32)) else if k = 22 ∧ a = H.1 + 13 then some (144, fun _ => (0 : Int32)) else if k = 21 ∧ a = H.1 + 12 then some (144, fun _ => (0 : Int32)) else if k = 20 ∧ a = H.1 + 11 then some (9600, fun _ => (0 : Int32)) else if k = 19 ∧ a = H.1 + 10 then some (9600, fun _ => (0 : Int32)) else if k = 18 ∧ a = H.1 + 9 then some (24, fun _ => (0 : Int32)) else if k = 17 ∧ a = H.1 + 8 then some (24, fun _ => (0 : Int32)) else if k = 16 ∧ a = H.1 + 7 then some (24, fun _ => (0 : Int32)) else if k = 15 ∧ a = H.1 + 6 then some (24, fun _ => (0 : Int32)) else if k = 14 ∧ a = H.1 + 5 then some (24, fun _ => (0 : Int32)) else if k = 13 ∧ a = H.1 + 4 then some (24, fun _ => (0 : Int32)) else if k = 12 ∧ a = H.1 + 3 then some (2, fun _ => (0 : Int32)) else if k = 11 ∧ a = H.1 + 2 then some (26000, fun _ => (0 : Int32)) else if k = 10 ∧ a = H.1 + 1 then some (4096, fun _ => (0 : Int32)) else H.2.1 k a) = if (10 ≤ k ∧ k ≤ 28) ∧ a = H.1 + (k - 9) then some (mo_len k, fun _ => 0) else H.2.1 k a
    by_cases c28 : k = 28 ∧ a = H.1 + 19
    · rw [if_pos c28, if_pos (by omega), c28.1]; rfl
    rw [if_neg c28]
    by_cases c27 : k = 27 ∧ a = H.1 + 18
    · rw [if_pos c27, if_pos (by omega), c27.1]; rfl
    rw [if_neg c27]
    by_cases c26 : k = 26 ∧ a = H.1 + 17
    · rw [if_pos c26, if_pos (by omega), c26.1]; rfl
    rw [if_neg c26]
    by_cases c25 : k = 25 ∧ a = H.1 + 16
    · rw [if_pos c25, if_pos (by omega), c25.1]; rfl
    rw [if_neg c25]
    by_cases c24 : k = 24 ∧ a = H.1 + 15
    · rw [if_pos c24, if_pos (by omega), c24.1]; rfl
    rw [if_neg c24]
    by_cases c23 : k = 23 ∧ a = H.1 + 14
    · rw [if_pos c23, if_pos (by omega), c23.1]; rfl
    rw [if_neg c23]
    by_cases c22 : k = 22 ∧ a = H.1 + 13
    · rw [if_pos c22, if_pos (by omega), c22.1]; rfl
    rw [if_neg c22]
    by_cases c21 : k = 21 ∧ a = H.1 + 12
    · rw [if_pos c21, if_pos (by omega), c21.1]; rfl
    rw [if_neg c21]
    by_cases c20 : k = 20 ∧ a = H.1 + 11
    · rw [if_pos c20, if_pos (by omega), c20.1]; rfl
    rw [if_neg c20]
    by_cases c19 : k = 19 ∧ a = H.1 + 10
    · rw [if_pos c19, if_pos (by omega), c19.1]; rfl
    rw [if_neg c19]
    by_cases c18 : k = 18 ∧ a = H.1 + 9
    · rw [if_pos c18, if_pos (by omega), c18.1]; rfl
    rw [if_neg c18]
    by_cases c17 : k = 17 ∧ a = H.1 + 8
    · rw [if_pos c17, if_pos (by omega), c17.1]; rfl
    rw [if_neg c17]
    by_cases c16 : k = 16 ∧ a = H.1 + 7
    · rw [if_pos c16, if_pos (by omega), c16.1]; rfl
    rw [if_neg c16]
    by_cases c15 : k = 15 ∧ a = H.1 + 6
    · rw [if_pos c15, if_pos (by omega), c15.1]; rfl
    rw [if_neg c15]
    by_cases c14 : k = 14 ∧ a = H.1 + 5
    · rw [if_pos c14, if_pos (by omega), c14.1]; rfl
    rw [if_neg c14]
    by_cases c13 : k = 13 ∧ a = H.1 + 4
    · rw [if_pos c13, if_pos (by omega), c13.1]; rfl
    rw [if_neg c13]
    by_cases c12 : k = 12 ∧ a = H.1 + 3
    · rw [if_pos c12, if_pos (by omega), c12.1]; rfl
    rw [if_neg c12]
    by_cases c11 : k = 11 ∧ a = H.1 + 2
    · rw [if_pos c11, if_pos (by omega), c11.1]; rfl
    rw [if_neg c11]
    by_cases c10 : k = 10 ∧ a = H.1 + 1
    · rw [if_pos c10, if_pos (by omega), c10.1]; rfl
    rw [if_neg c10]
    rw [if_neg]
    rintro ⟨⟨h1, h2⟩, h3⟩
    have : k = 10 ∨ k = 11 ∨ k = 12 ∨ k = 13 ∨ k = 14 ∨ k = 15 ∨ k = 16 ∨ k = 17 ∨ k = 18 ∨ k = 19 ∨ k = 20 ∨ k = 21 ∨ k = 22 ∨ k = 23 ∨ k = 24 ∨ k = 25 ∨ k = 26 ∨ k = 27 ∨ k = 28 := by omega
    rcases this with rfl | rfl | rfl | rfl | rfl | rfl | rfl | rfl | rfl | rfl | rfl | rfl | rfl | rfl | rfl | rfl | rfl | rfl | rfl
    · exact c10 ⟨rfl, h3⟩
    · exact c11 ⟨rfl, h3⟩
    · exact c12 ⟨rfl, h3⟩
    · exact c13 ⟨rfl, h3⟩
    · exact c14 ⟨rfl, h3⟩
    · exact c15 ⟨rfl, h3⟩
    · exact c16 ⟨rfl, h3⟩
    · exact c17 ⟨rfl, h3⟩
    · exact c18 ⟨rfl, h3⟩
    · exact c19 ⟨rfl, h3⟩
    · exact c20 ⟨rfl, h3⟩
    · exact c21 ⟨rfl, h3⟩
    · exact c22 ⟨rfl, h3⟩
    · exact c23 ⟨rfl, h3⟩
    · exact c24 ⟨rfl, h3⟩
    · exact c25 ⟨rfl, h3⟩
    · exact c26 ⟨rfl, h3⟩
    · exact c27 ⟨rfl, h3⟩
    · exact c28 ⟨rfl, h3⟩
  · simp only [oE_, mo_em]
    rfl
def ar1_ : Nat → Nat → Int32 := u2_ (u2_ (u2_ (fun _ _ => 0) 12 0 1) 17 0 1) 19 0 27
theorem f0_ok : fok_ 1 F0_ 1 0 := by
  refine ⟨rfl, by omega, by omega, rfl, by omega, ⟨0, by omega, rfl⟩, ⟨0, by omega, rfl⟩, Or.inl rfl, fun k hk => by omega, fun i hi => ?_⟩
  obtain rfl : i = 0 := by omega
  refine ⟨⟨27, by omega, rfl⟩, fun z => ?_, fun z => ?_, fun z => ?_⟩
  · exact absurd z (by decide)
  · exact absurd z (by decide)
  · exact absurd z (by decide)
theorem f0_ag : agf_ F0_ ar1_ 0 0 1 0 := by
  refine ⟨fun j hj => ?_, fun i hi => ?_, fun k hk => by omega⟩
  · have : j = 0 ∨ j = 1 ∨ j = 2 ∨ j = 3 ∨ j = 4 ∨ j = 5 := by omega
    rcases this with rfl | rfl | rfl | rfl | rfl | rfl <;> rfl
  · obtain rfl : i = 0 := by omega
    exact ⟨rfl, rfl⟩
theorem v0_ : ∃ s, vf_ (lkr_ ar1_ 0 0 1 0) 0 1 = .inr s ∧ s.1 0 = 0 ∧ s.2.1 0 = 0 := ⟨_, rfl, rfl, rfl⟩
def mfo_ (y : Nat → lc_V) : List lc_V := [y 0, y 1, y 2, y 3, y 4, y 5, y 6, y 7, y 8, y 9, y 10, y 11, y 12, y 13, y 14, y 15, y 16, y 17, y 18, y 19, y 20, y 21, y 22, y 23, y 24, y 25, y 26, y 27, y 28]
theorem mfo_set (y : Nat → lc_V) {j : Nat} (hj : j < 29) (v : lc_V) : (mfo_ y).set j v = mfo_ (va_up y j v) := by
  have : j = 0 ∨ j = 1 ∨ j = 2 ∨ j = 3 ∨ j = 4 ∨ j = 5 ∨ j = 6 ∨ j = 7 ∨ j = 8 ∨ j = 9 ∨ j = 10 ∨ j = 11 ∨ j = 12 ∨ j = 13 ∨ j = 14 ∨ j = 15 ∨ j = 16 ∨ j = 17 ∨ j = 18 ∨ j = 19 ∨ j = 20 ∨ j = 21 ∨ j = 22 ∨ j = 23 ∨ j = 24 ∨ j = 25 ∨ j = 26 ∨ j = 27 ∨ j = 28 := by omega
  rcases this with rfl | rfl | rfl | rfl | rfl | rfl | rfl | rfl | rfl | rfl | rfl | rfl | rfl | rfl | rfl | rfl | rfl | rfl | rfl | rfl | rfl | rfl | rfl | rfl | rfl | rfl | rfl | rfl | rfl <;> rfl
theorem mfo_put {β : Type} (G : hc_H) (q : Nat) (y : Nat → lc_V) {j : Nat} (hj : j < 29) (v : lc_V) (K : Unit → hM β) : hm_bind (hm_put 8 j (some q) v) K (oE_ G 8 q (mfo_ y)) = K () (oE_ G 8 q (mfo_ (va_up y j v))) := by
  rw [oE_put _ _ _ _ _ _ (show j < (mfo_ y).length from hj), mfo_set y hj]
theorem mfo_puti {β : Type} (G : hc_H) (q : Nat) (y : Nat → lc_V) {j : Nat} (hj : j < 29) (v : Int32) (K : Unit → hM β) : hm_bind (hm_puti 8 j (some q) v) K (oE_ G 8 q (mfo_ y)) = K () (oE_ G 8 q (mfo_ (va_up y j (vi_ v)))) := mfo_put G q y hj (vi_ v) K
theorem mfo_st {β : Type} (G : hc_H) (Q : Nat) (y : Nat → lc_V) (kd n : Nat) (hn : n ≤ 134217728) {j : Nat} (hj : j < 29) (K : hM β) : (hm_bind (hm_newi kd (nI n)) fun q1 => hm_bind (hm_putr 8 j (some Q) (some q1)) fun _ => K) (oE_ G 8 Q (mfo_ y)) = hm_tk 1 n (K (oE_ (hc_nw G (.inl (kd, n, fun _ => 0))) 8 Q (mfo_ (va_up y j (vr_ (some G.1)))))) := by
  rw [oE_newi _ _ _ _ _ _ hn]
  exact congrArg (hm_tk 1 n) (mfo_put _ _ _ hj _ _)
def y0_ : Nat → lc_V := fun k => if k = 0 ∨ k = 2 ∨ k = 4 ∨ k = 5 ∨ k = 6 ∨ k = 7 ∨ k = 8 ∨ k = 26 ∨ k = 27 ∨ k = 28 then vi_ 0 else vr_ none
theorem i_mo (H : hc_H) (K : Nat → hM Int32) : ∃ sc ar, (hm_bind (hm_new 8 29 [vi_ 0, vr_ none, vi_ 0, vr_ none, vi_ 0, vi_ 0, vi_ 0, vi_ 0, vi_ 0, vr_ none, vr_ none, vr_ none, vr_ none, vr_ none, vr_ none, vr_ none, vr_ none, vr_ none, vr_ none, vr_ none, vr_ none, vr_ none, vr_ none, vr_ none, vr_ none, vr_ none, vi_ 0, vi_ 0, vi_ 0]) fun q2 => hm_bind (p_Mo_init (some q2)) fun _ => K q2) H = hm_tk 20 69791 (K H.1 (mo_em (H.1 + 20, H.2) H.1 sc ar)) ∧ sc 2 = 0 ∧ sc 4 = 0 ∧ sc 5 = 0 ∧ sc 6 = -1 ∧ ar 12 0 = 1 ∧ agf_ F0_ ar 0 0 1 0 ∧ ar 26 0 = 0 ∧ ar 27 0 = 0 := by
  have ok := okr_of (np := 1) (b := 0) (FF := fun _ => F0_) (NN := fun _ => 1) (HN := fun _ => 0) (ar := ar1_) (by omega) (fun g hg => f0_ok) (fun g hg => by
    obtain rfl : g = 0 := by omega
    exact f0_ag) (f := 0) (by omega)
  have V := s_Mo_verify (H.1 + 20, H.2) H.1 (va_up (fun _ => 0) 6 (-1)) ar1_ 0 0 1 0 (by omega) (by omega) ok rfl
  obtain ⟨s, s1, s2, s3⟩ := v0_
  rw [s1] at V
  obtain ⟨q, V⟩ := V
  have V : p_Mo_verify (some H.1) 0 0 (mo_em (H.1 + 20, H.2) H.1 (va_up (fun _ => 0) 6 (-1)) ar1_) = some ((), 0, 0, mo_em (H.1 + 20, H.2) H.1 (scq_ (va_up (fun _ => 0) 6 (-1)) q) (ar3_ ar1_ (4800 * 0 + 400 * 0) s)) := V
  have in0 : ∀ n, 1 ≤ n → ¬ ((0 : Int32) < 0 ∨ n ≤ (0 : Int32).toNatClampNeg) := by
    intro n hn z
    rcases z with z | z
    · exact absurd z (by decide)
    · have : (0 : Int32).toNatClampNeg = 0 := by decide
      omega
  have cl0 : (0 : Int32).toNatClampNeg = 0 := by decide
  have tail : (hm_bind (hm_getr 8 9 (some H.1)) fun a20 => hm_bind (hm_ist 12 a20 0 1) fun _ => hm_bind (hm_getr 8 14 (some H.1)) fun a21 => hm_bind (hm_ist 17 a21 0 1) fun _ => hm_bind (hm_getr 8 16 (some H.1)) fun a22 => hm_bind (hm_ist 19 a22 0 27) fun _ => hm_bind (hm_on 8 (some H.1) (p_Mo_verify (some H.1) 0 0)) fun _ => hm_ret ()) (mo_em (H.1 + 20, H.2) H.1 (va_up (fun _ => 0) 6 (-1)) (fun _ _ => 0)) = some ((), 0, 0, mo_em (H.1 + 20, H.2) H.1 (scq_ (va_up (fun _ => 0) 6 (-1)) q) (ar3_ ar1_ (4800 * 0 + 400 * 0) s)) := by
    rw [mo_ref9, mo_ist12, if_neg (in0 _ (by omega)), cl0, mo_ref14, mo_ist17, if_neg (in0 _ (by omega)), cl0, mo_ref16, mo_ist19, if_neg (in0 _ (by omega)), cl0, mo_on]
    exact (bd_0 V).trans (ev_ret _ _)
  rw [← mo_new] at tail
  have init : p_Mo_init (some H.1) (hc_nw H (.inr (.inr (8, [vi_ 0, vr_ none, vi_ 0, vr_ none, vi_ 0, vi_ 0, vi_ 0, vi_ 0, vi_ 0, vr_ none, vr_ none, vr_ none, vr_ none, vr_ none, vr_ none, vr_ none, vr_ none, vr_ none, vr_ none, vr_ none, vr_ none, vr_ none, vr_ none, vr_ none, vr_ none, vr_ none, vi_ 0, vi_ 0, vi_ 0])))) = some ((), 19, 69762, mo_em (H.1 + 20, H.2) H.1 (scq_ (va_up (fun _ => 0) 6 (-1)) q) (ar3_ ar1_ (4800 * 0 + 400 * 0) s)) := by
    have el : [vi_ 0, vr_ none, vi_ 0, vr_ none, vi_ 0, vi_ 0, vi_ 0, vi_ 0, vi_ 0, vr_ none, vr_ none, vr_ none, vr_ none, vr_ none, vr_ none, vr_ none, vr_ none, vr_ none, vr_ none, vr_ none, vr_ none, vr_ none, vr_ none, vr_ none, vr_ none, vr_ none, vi_ 0, vi_ 0, vi_ 0] = mfo_ y0_ := rfl
    rw [oE_nw, p_Mo_init, el, show (4096 : Int32) = nI 4096 from rfl, show (26000 : Int32) = nI 26000 from rfl, show (2 : Int32) = nI 2 from rfl, show (24 : Int32) = nI 24 from rfl, show (9600 : Int32) = nI 9600 from rfl, show (144 : Int32) = nI 144 from rfl, show (400 : Int32) = nI 400 from rfl]
    rw [mfo_st _ _ _ 10 4096 (by omega) (j := 1) (by omega)]
    rw [mfo_st _ _ _ 11 26000 (by omega) (j := 3) (by omega)]
    rw [mfo_puti _ _ _ (j := 6) (by omega)]
    rw [mfo_st _ _ _ 12 2 (by omega) (j := 9) (by omega)]
    rw [mfo_st _ _ _ 13 24 (by omega) (j := 10) (by omega)]
    rw [mfo_st _ _ _ 14 24 (by omega) (j := 11) (by omega)]
    rw [mfo_st _ _ _ 15 24 (by omega) (j := 12) (by omega)]
    rw [mfo_st _ _ _ 16 24 (by omega) (j := 13) (by omega)]
    rw [mfo_st _ _ _ 17 24 (by omega) (j := 14) (by omega)]
    rw [mfo_st _ _ _ 18 24 (by omega) (j := 15) (by omega)]
    rw [mfo_st _ _ _ 19 9600 (by omega) (j := 16) (by omega)]
    rw [mfo_st _ _ _ 20 9600 (by omega) (j := 17) (by omega)]
    rw [mfo_st _ _ _ 21 144 (by omega) (j := 18) (by omega)]
    rw [mfo_st _ _ _ 22 144 (by omega) (j := 19) (by omega)]
    rw [mfo_st _ _ _ 23 144 (by omega) (j := 20) (by omega)]
    rw [mfo_st _ _ _ 24 144 (by omega) (j := 21) (by omega)]
    rw [mfo_st _ _ _ 25 144 (by omega) (j := 22) (by omega)]
    rw [mfo_st _ _ _ 26 9600 (by omega) (j := 23) (by omega)]
    rw [mfo_st _ _ _ 27 9600 (by omega) (j := 24) (by omega)]
    rw [mfo_st _ _ _ 28 400 (by omega) (j := 25) (by omega)]
    refine Eq.trans (congrArg (hm_tk 1 4096) (congrArg (hm_tk 1 26000) (congrArg (hm_tk 1 2) (congrArg (hm_tk 1 24) (congrArg (hm_tk 1 24) (congrArg (hm_tk 1 24) (congrArg (hm_tk 1 24) (congrArg (hm_tk 1 24) (congrArg (hm_tk 1 24) (congrArg (hm_tk 1 9600) (congrArg (hm_tk 1 9600) (congrArg (hm_tk 1 144) (congrArg (hm_tk 1 144) (congrArg (hm_tk 1 144) (congrArg (hm_tk 1 144) (congrArg (hm_tk 1 144) (congrArg (hm_tk 1 9600) (congrArg (hm_tk 1 9600) (congrArg (hm_tk 1 400) (tail)))))))))))))))))))) ?_
    simp only [hm_tk_some]
  refine ⟨scq_ (va_up (fun _ => 0) 6 (-1)) q, ar3_ ar1_ (4800 * 0 + 400 * 0) s, ?_, ?_, ?_, ?_, ?_, ?_, ?_, ?_, ?_⟩
  · rw [bd_new, bd_ok init, hm_tk_tk]
  · rw [scq_k _ _ (by omega)]; rfl
  · rw [scq_k _ _ (by omega)]; rfl
  · rw [scq_k _ _ (by omega)]; rfl
  · rw [scq_k _ _ (by omega)]; rfl
  · rw [ar3_o _ _ _ (by omega)]; rfl
  · exact sm_agf (sm_rfl _) (fun k hk => ar3_o _ _ _ hk) f0_ag
  · exact (ar3_26 ar1_ (4800 * 0 + 400 * 0) s (i := 0) (by omega)).trans s2
  · exact (ar3_27 ar1_ (4800 * 0 + 400 * 0) s (i := 0) (by omega)).trans s3
theorem brR_gw {H H' : hc_H} {b most rb len cnt : Nat} {f : Nat → Int32} (R : brR H b most rb len cnt f) (hb : b < H.1) (z : gw_ H H') : brR H' b most rb len cnt f := by
  have := R.2.2.2.2.2.2
  refine ⟨?_, ?_, R.2.2.1, R.2.2.2.1, R.2.2.2.2.1, R.2.2.2.2.2.1, Nat.lt_of_lt_of_le this z.1⟩
  · rw [z.2.2.2 1 b hb (by decide)]; exact R.1
  · rw [z.2.1 7 rb this]; exact R.2.1
theorem dsR_gw {H H' : hc_H} {a n : Nat} {fq : Nat → Option Nat} {FA : Nat → fc_} (D : dsR H a n fq FA) (ha : a + 1 < H.1) (z : gw_ H H') : dsR H' a n fq FA := by
  refine ⟨⟨?_, ?_⟩, D.2.1, fun f q hf e => ?_⟩
  · rw [z.2.2.2 5 a (by omega) (by decide)]; exact D.1.1
  · rw [z.2.2.1 8 _ ha]; exact D.1.2
  · obtain ⟨R, r2⟩ := D.2.2 f q hf e
    refine ⟨⟨?_, fun k hk => ?_, ?_, fun k hk => ?_⟩, Nat.le_trans r2 z.1⟩
    · rw [z.2.2.2 3 q (by omega) (by decide)]; exact R.1
    · rw [z.2.1 k _ (by omega)]; exact R.2.1 k hk
    · rw [z.2.2.1 9 _ (by omega)]; exact R.2.2.1
    · rw [z.2.2.2 4 _ (by omega) (by decide)]; exact R.2.2.2 k hk
theorem cn_1 (q : Nat) : cn_ (va_up (fun _ => none) 0 (some q)) = 11 := by
  unfold cn_
  have : (fun f => decide (va_up (fun _ => none) 0 (some q) f = none)) = fun f => decide (f ≠ 0) := by
    funext f
    by_cases c : f = 0
    · subst c; rw [va_up_self]; simp
    · rw [va_up_ne _ _ c]; simp [c]
  rw [this]
  decide
theorem start_inv (z : Nat) (K : Nat → Nat → hM Int32) : ∃ C S sb m H, (hm_bind (hm_new 0 6 [vr_ none, vr_ none, vr_ none, vr_ none, vr_ none, vr_ none]) fun q1 => hm_bind (p_SB_init (some q1)) fun _ => hm_bind (hm_new 8 29 [vi_ 0, vr_ none, vi_ 0, vr_ none, vi_ 0, vi_ 0, vi_ 0, vi_ 0, vi_ 0, vr_ none, vr_ none, vr_ none, vr_ none, vr_ none, vr_ none, vr_ none, vr_ none, vr_ none, vr_ none, vr_ none, vr_ none, vr_ none, vr_ none, vr_ none, vr_ none, vr_ none, vi_ 0, vi_ 0, vi_ 0]) fun q2 => hm_bind (p_Mo_init (some q2)) fun _ => K q1 q2) (z, fun _ _ => none, fun _ _ => none, fun _ _ => none) = hm_tk C S (K sb m H) ∧ inv_ H sb m 130000 ∧ C + 140000 ≤ 600000 ∧ S + 140000 ≤ 7302250 := by
  obtain ⟨H0, e0, o0, n0⟩ : ∃ H0 : hc_H, hc_nw (z, fun _ _ => none, fun _ _ => none, fun _ _ => none) (.inr (.inr (0, [vr_ none, vr_ none, vr_ none, vr_ none, vr_ none, vr_ none]))) = H0 ∧ H0.2.2.2 0 z = some (sbo_ (fun _ => none)) ∧ H0.1 = z + 1 := ⟨_, rfl, by rw [nw_o4, if_pos ⟨rfl, rfl⟩]; rfl, rfl⟩
  obtain ⟨Ha, ea, na, ga, oa, ba⟩ := i_br o0 (j := 0) (most := 4096) (by omega) (by omega) (by omega) _
  obtain ⟨Hb, eb, nb, gb, ob, bb⟩ := i_br oa (j := 1) (most := 24892) (by omega) (by omega) (by omega) _
  obtain ⟨Hc, ec, nc, gc, oc, fc⟩ := i_ft ob (j := 2) (by omega) _
  obtain ⟨He, ee, ne, ge, oe, ve⟩ := i_ve oc (j := 3) (by omega) _
  obtain ⟨Hf, Fa, ef, nf, gf, of', da, fa0⟩ := i_pr oe (j := 4) (by omega) _
  obtain ⟨Hg, Fb, eg, ng, gg', og, db, fb0⟩ := i_pr of' (j := 5) (by omega) (hm_ret ())
  have init : p_SB_init (some z) H0 = some ((), 37, 4669, Hg) := by
    refine Eq.trans (ea.trans (congrArg (hm_tk 2 67) (eb.trans (congrArg (hm_tk 2 67) (ec.trans (congrArg (hm_tk 1 2) (ee.trans (congrArg (hm_tk 4 1211) (ef.trans (congrArg (hm_tk 14 1661) eg)))))))))) ?_
    simp only [ev_ret, hm_tk_some]
  obtain ⟨sc, ar, em, m2, m4, m5, m6, m12, mag, m26, m27⟩ := i_mo Hg (K z)
  have GG := gg'
  have gfg := gw_tr gf GG
  have geg := gw_tr ge gfg
  have gcg := gw_tr gc geg
  have gbg := gw_tr gb gcg
  refine ⟨1 + 37 + 20, 6 + 4669 + 69791, z, Hg.1, mo_em (Hg.1 + 20, Hg.2) Hg.1 sc ar, ?_, ⟨0, fun _ => 0, 0, fun _ => 0, (0, -1), 1, Fa, sc, ar, ?_, mo_emI _ _ _ _, ?_⟩, by omega, by omega⟩
  · rw [bd_new, e0, bd_ok init, em, hm_tk_tk, hm_tk_tk]
  · refine clI_s10 (H := (Hg.1 + 20, Hg.2)) ?_ (s10_mo _ _ _ _)
    have gx : gw_ Hg (Hg.1 + 20, Hg.2) := ⟨Nat.le_add_right _ _, fun _ _ _ => rfl, fun _ _ _ => rfl, fun _ _ _ _ => rfl⟩
    refine ⟨H0.1, Ha.1, Hb.1, Hc.1, He.1, Hf.1, H0.1 + 1, 64, Ha.1 + 1, 64, va_up (fun _ => none) 0 (some (He.1 + 2)), va_up (fun _ => none) 0 (some (Hf.1 + 2)), ⟨?_, by omega, by omega⟩, ?_, ?_, ?_, ?_, by omega, ⟨?_, by omega, by omega, ?_, ⟨1, Fb, ?_⟩, ?_⟩, ?_⟩
    · exact og
    · show Hg.2.2.2 2 Hb.1 = _
      rw [geg.2.2.2 2 Hb.1 (by omega) (by decide)]; exact fc
    · obtain ⟨p0, p1, p2, p3, p4, p5, p6⟩ := ve
      refine ⟨p0, p1, p2, p3, p4, ?_, fun k h1 h2 => ?_⟩
      · show Hg.2.2.2 7 Hc.1 = _
        rw [gfg.2.2.2 7 Hc.1 (by omega) (by decide)]; exact p5
      · show Hg.2.1 k (Hc.1 + (k - 3)) = _
        rw [gfg.2.1 k _ (by omega)]; exact p6 k h1 h2
    · exact brR_gw (brR_gw ba (by omega) gbg) (by omega) gx
    · exact brR_gw (brR_gw bb (by omega) gcg) (by omega) gx
    · exact dsR_gw (dsR_gw da (by omega) GG) (by omega) gx
    · intro i hi
      obtain rfl : i = 0 := by omega
      exact ⟨_, va_up_self _ _ _⟩
    · exact dsR_gw db (by omega) gx
    · intro i j q q' hi hj e e'
      have h1 : q = He.1 + 2 := by
        by_cases c : i = 0
        · subst c; rw [va_up_self] at e; cases e; rfl
        · rw [va_up_ne _ _ c] at e; cases e
      have h2 : q' = Hf.1 + 2 := by
        by_cases c : j = 0
        · subst c; rw [va_up_self] at e'; cases e'; rfl
        · rw [va_up_ne _ _ c] at e'; cases e'
      omega
    · rw [cn_1, cn_1]
      decide
  · refine ⟨m2, fun j hj => by omega, m4, by omega, fun j hj => by omega, m5, m6, m12, fun g hg => ?_⟩
    obtain rfl : g = 0 := by omega
    rw [fa0]
    refine ⟨1, 0, f0_ok, mag, fun k hk => by omega, fun i hi => ?_⟩
    obtain rfl : i = 0 := by omega
    exact ⟨m26.symm, m27.symm, Or.inr ⟨0, by omega, rfl⟩⟩
/-- the law answers 1, within the room -/
theorem law_holds : law_pure := by
  intro L xs z hL
  obtain ⟨C, S, sb, m, H, e1, hi, b1, b2⟩ := start_inv z (fun q1 q2 => p_La_law_18 L xs (some q1) (some q2) (hm_z 1) hm_fuel 0)
  obtain ⟨C2, S2, h2, k1, k2, k3⟩ := lw_loop (sb := sb) (m := m) (xs := xs) hL L hm_fuel 0 H 130000 (by omega) (by unfold hm_fuel; omega) (by omega) hi
  refine ⟨C + C2, S + S2, h2, ?_, by omega, by omega⟩
  unfold p_La_law
  refine Eq.trans e1 ?_
  refine Eq.trans (congrArg (hm_tk C S) k1) ?_
  rw [hm_tk_some]

