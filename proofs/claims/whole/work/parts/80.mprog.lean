/-! THE REFERENCE: readProgram -/
def sfs_ (B : Nat → Int32) (N : Nat) (all : Int32) : Nat → Nat → rs_ (List fd_)
  | 0, _ => sre_ []
  | r + 1, f => sbd_ (sf_ B N f all) fun d => sbd_ (sfs_ B N all r (f + 1)) fun l => sre_ (d :: l)
def sen_ (N : Nat) : rs_ Unit := fun p => if p < N then .inl (4, nI p) else .inr ((), p)
def spg_ (B : Nat → Int32) (N : Nat) : rs_ (Int32 × List fd_) := sbd_ (sst_ B N 71) fun _ => sbd_ (sst_ B N 70) fun _ => sbd_ (sst_ B N 1) fun _ => sbd_ (nn_ B N 1 1 12) fun np => sbd_ (sfs_ B N np np.toNatClampNeg 0) fun l => sbd_ (sen_ N) fun _ => sre_ (np, l)
section MPG
variable (h : hc_H) (m : Nat) {sc : Nat → Int32} (B : Nat → Int32) {N : Nat}
def t2_ (m : Nat) : hM Unit := hm_bind (hm_geti 8 7 (some m)) fun a11 => if a11 = 0 then hm_bind (hm_geti 8 26 (some m)) fun a12 => hm_bind (hm_geti 8 2 (some m)) fun a13 => if a13 ≤ a12 then hm_ret () else hm_bind (hm_geti 8 26 (some m)) fun a14 => hm_bind (hm_on 8 (some m) (p_Mo_wrong (some m) 4 a14)) fun _ => hm_ret () else hm_ret ()
def t1_ (m : Nat) : hM Unit := hm_bind (hm_getr 8 9 (some m)) fun a4 => hm_bind (hm_on 8 (some m) (p_Mo_numberNext (some m) 1 1 12)) fun a5 => hm_bind (hm_ist 12 a4 1 a5) fun _ => p_Mo_readProgram_86 (some m) (t2_ m) hm_fuel 0
theorem t2_t : RT_ h m sc B (t2_ m) := fun ar p ft hB hft => ⟨(), ar, p, trivial, hB, sb0_rfl _, by rw [t2_, mo_get7, sp_7, ev_ite, if_neg (lt_ne hft), ev_ret]⟩
theorem t2_o (e2 : sc 2 = nI N) (hN : N ≤ 4096) (ar : Nat → Nat → Int32) (hB : ar 10 = B) {δ : Type} {d : δ} {upd : δ → Nat → Nat → Int32} (hu : upd d = ar) : ro_ (Em_ h m sc) N (IB_ B) sb0_ (t2_ m) ar (sbd_ (sen_ N) fun _ => sre_ d) (fun _ => ()) upd (fun _ => True) := by
  intro p ft hp hft
  unfold sbd_ sen_
  rw [t2_, mo_get7, sp_7, ev_ite, if_pos hft, mo_get26, sp_26, mo_get2, sp_2, e2, ev_ite]
  by_cases c : p < N
  · rw [if_pos c, if_neg (nI_ge c (by omega)), mo_get26, sp_26, mo_on, bd_0 (s_Mo_wrong_o h m sc ar _ ft hft _ _), ev_ret]
    exact ⟨(by decide : (0 : Int32) < 4), (), ar, _, trivial, hB, sb0_rfl _, rfl⟩
  · rw [if_neg c, if_pos (nI_le (by omega) (by omega)), ev_ret]
    refine ⟨hp, hu.symm ▸ hB, hu.symm ▸ sb0_rfl _, ?_⟩
    rw [hu]
theorem t86_t (x : Int32) {kx : hM Unit} (hk : RT_ h m sc B kx) (fu : Nat) : RT_ h m sc B (p_Mo_readProgram_86 (some m) kx (fu + 1) x) := by
  refine rt_pre2 sb0_tr (ι := Unit) (m' := fun _ => kx) (fun ar p ft hB hft => ⟨(), ar, hB, sb0_rfl _, ?_⟩) (fun _ => hk)
  rw [p_Mo_readProgram_86, mo_ref9, mo_ild12, if_neg (show ¬ ((1 : Int32) < 0 ∨ 2 ≤ (1 : Int32).toNatClampNeg) by decide), ev_ite]
  split
  · rfl
  · rw [mo_get7, sp_7, ev_ite, if_neg (lt_ne hft)]
def mfus_ : (Nat → Nat → Int32) → Nat → List fd_ → (Nat → Nat → Int32)
  | ar, _, [] => ar
  | ar, f, d :: l => mfus_ (mfu_ ar f d) (f + 1) l
theorem mhd_k (ar : Nat → Nat → Int32) (f : Nat) (d : hd5_) {j : Nat} (hj : j < 13) : mhd_ ar f d j = ar j := by
  unfold mhd_
  rw [u2_k _ _ _ (by omega), u2_k _ _ _ (by omega), u2_k _ _ _ (by omega), u2_k _ _ _ (by omega), u2_k _ _ _ (by omega)]
theorem mfu_k (ar : Nat → Nat → Int32) (f : Nat) (d : fd_) {j : Nat} (hj : j < 13) : mfu_ ar f d j = ar j := by
  unfold mfu_
  rw [mhs_k f (by omega), u2_k _ _ _ (by omega), mws_k f (by omega), mhd_k _ _ _ hj]
theorem t86_o (e2 : sc 2 = nI N) (hN : N ≤ 4096) (n : Nat) (hn : n ≤ 12) {kx : hM Unit} (hk : RT_ h m sc B kx) {δ : Type} {T : List fd_ → rs_ δ} {upd : δ → Nat → Nat → Int32} : ∀ (r fu : Nat) (ar : Nat → Nat → Int32), r ≤ n → r < fu → ar 10 = B → ar 12 1 = nI n → (∀ l, l.length = r → mfus_ ar (n - r) l 10 = B → ro_ (Em_ h m sc) N (IB_ B) sb0_ kx (mfus_ ar (n - r) l) (T l) (fun _ => ()) upd (fun _ => True)) → ro_ (Em_ h m sc) N (IB_ B) sb0_ (p_Mo_readProgram_86 (some m) kx fu (nI (n - r))) ar (sbd_ (sfs_ B N (nI n) r (n - r)) T) (fun _ => ()) upd (fun _ => True) := by
  have h1 : ¬ ((1 : Int32) < 0 ∨ 2 ≤ (1 : Int32).toNatClampNeg) := by decide
  intro r
  induction r generalizing T with
  | zero =>
    intro fu ar _ hfu hB e12 hT
    obtain ⟨u, rfl⟩ : ∃ u, fu = u + 1 := ⟨fu - 1, by omega⟩
    refine ro_pre0 sb0_tr (c' := ar) (m' := kx) (sb0_rfl _) (fun p ft _ => ?_) (hT [] rfl hB)
    rw [p_Mo_readProgram_86, mo_ref9, mo_ild12, if_neg h1, show (1 : Int32).toNatClampNeg = 1 by decide, e12, ev_ite, if_pos (nI_le (by omega) (by omega))]
  | succ r ih =>
    intro fu ar hr hfu hB e12 hT
    obtain ⟨u, rfl⟩ : ∃ u, fu = u + 1 := ⟨fu - 1, by omega⟩
    obtain ⟨u, rfl⟩ : ∃ k, u = k + 1 := ⟨u - 1, by omega⟩
    have hf12 : n - (r + 1) < 12 := by omega
    have tL := t86_t h m B (nI (n - r)) hk u (sc := sc)
    refine ro_pre0 sb0_tr (c' := ar) (m' := hm_bind (p_Mo_readFunction (some m) (nI (n - (r + 1))) (nI n)) fun _ => p_Mo_readProgram_86 (some m) kx (u + 1) (nI (n - r))) (sb0_rfl _) (fun p ft hft => ?_) ?_
    · rw [p_Mo_readProgram_86, mo_ref9, mo_ild12, if_neg h1, show (1 : Int32).toNatClampNeg = 1 by decide, e12, ev_ite, if_neg (nI_ge (by omega) (by omega)), mo_get7, sp_7, ev_ite, if_pos hft, mo_ref9, mo_ild12, if_neg h1, show (1 : Int32).toNatClampNeg = 1 by decide, e12, mo_on, nI_1, show n - (r + 1) + 1 = n - r by omega]
    · have key := ro_bind sb0_tr (T := fun d => sbd_ (sfs_ B N (nI n) r (n - r)) fun l => T (d :: l)) (val2 := fun _ => ()) (upd2 := upd) (D' := fun _ => True) (k := fun _ => p_Mo_readProgram_86 (some m) kx (u + 1) (nI (n - r))) (readFunction_o h m B e2 hN hf12 (nI n) ar hB) (fun d _ _ _ => ?_) (fun _ _ => tL)
      · refine ro_eq key (fun p => ?_)
        rw [sfs_, sbd_as, show n - (r + 1) + 1 = n - r by omega]
        refine sbd_c _ (fun o p => ?_) p
        rw [sbd_as]
        exact sbd_c _ (fun l p => rfl) p
      · refine ih (u + 1) (mfu_ ar (n - (r + 1)) d) (by omega) (by omega) (by rw [mfu_k _ _ _ (by omega)]; exact hB) (by rw [mfu_k _ _ _ (by omega)]; exact e12) (fun l hl hBl => ?_)
        have := hT (d :: l) (by rw [List.length_cons, hl])
        rw [mfus_, show n - (r + 1) + 1 = n - r by omega] at this
        exact this hBl
def mpu_ (ar : Nat → Nat → Int32) (d : Int32 × List fd_) : Nat → Nat → Int32 := mfus_ (u2_ ar 12 1 d.1) 0 d.2
theorem t1_t : RT_ h m sc B (t1_ m) := by
  have h1 : ¬ ((1 : Int32) < 0 ∨ 2 ≤ (1 : Int32).toNatClampNeg) := by decide
  refine rt_pre sb0_tr (m' := hm_bind (hm_on 8 (some m) (p_Mo_numberNext (some m) 1 1 12)) fun a5 => hm_bind (hm_ist 12 (some (m + 3)) 1 a5) fun _ => p_Mo_readProgram_86 (some m) (t2_ m) hm_fuel 0) (fun ar p ft hB => ⟨ar, hB, sb0_rfl _, by rw [t1_, mo_ref9]⟩) ?_
  exact rt_bind sb0_tr (mnt_ h m sc B 1 (by omega) _ _) (fun v _ => rt_pre sb0_tr (m' := p_Mo_readProgram_86 (some m) (t2_ m) hm_fuel 0) (fun ar p ft hB => ⟨u2_ ar 12 1 v, u2_B B (by omega) _ _ hB, u2_sb ar (by omega) (by decide) v, by rw [mo_ist12, if_neg h1]; rfl⟩) (t86_t h m B 0 (t2_t h m B) 999999))
theorem t1_o (e2 : sc 2 = nI N) (hN : N ≤ 4096) (ar : Nat → Nat → Int32) (hB : ar 10 = B) : ro_ (Em_ h m sc) N (IB_ B) sb0_ (t1_ m) ar (sbd_ (nn_ B N 1 1 12) fun np => sbd_ (sfs_ B N np np.toNatClampNeg 0) fun l => sbd_ (sen_ N) fun _ => sre_ (np, l)) (fun _ => ()) (fun d => mpu_ ar d) (fun _ => True) := by
  have h1 : ¬ ((1 : Int32) < 0 ∨ 2 ≤ (1 : Int32).toNatClampNeg) := by decide
  refine ro_pre0 sb0_tr (c' := ar) (m' := hm_bind (hm_on 8 (some m) (p_Mo_numberNext (some m) 1 1 12)) fun a5 => hm_bind (hm_ist 12 (some (m + 3)) 1 a5) fun _ => p_Mo_readProgram_86 (some m) (t2_ m) hm_fuel 0) (sb0_rfl _) (fun p ft _ => by rw [t1_, mo_ref9]) ?_
  refine ro_bind sb0_tr (mno_ h m B e2 hN ar hB 1 (by omega) _ _) (fun np p p' hs => ?_) (fun v _ => rt_pre sb0_tr (m' := p_Mo_readProgram_86 (some m) (t2_ m) hm_fuel 0) (fun ar p ft hB => ⟨u2_ ar 12 1 v, u2_B B (by omega) _ _ hB, u2_sb ar (by omega) (by decide) v, by rw [mo_ist12, if_neg h1]; rfl⟩) (t86_t h m B 0 (t2_t h m B) 999999))
  have hnp := nn_in hs
  obtain ⟨n, hn, rfl⟩ : ∃ n, n ≤ 12 ∧ np = nI n := nI_of2 (M := 12) (n := 12) (by decide) (fun z => hnp.1 (Int32.lt_trans z (by decide))) (Int32.not_lt.mp hnp.2)
  refine ro_pre0 sb0_tr (c' := u2_ ar 12 1 (nI n)) (m' := p_Mo_readProgram_86 (some m) (t2_ m) hm_fuel 0) (u2_sb ar (by omega) (by decide) _) (fun p ft _ => by rw [mo_ist12, if_neg h1]; rfl) ?_
  rw [nI_clamp (by omega)]
  have loop := t86_o h m B e2 hN n hn (t2_t h m B) (T := fun l => sbd_ (sen_ N) fun _ => sre_ (nI n, l)) (upd := fun d => mpu_ ar d) n hm_fuel (u2_ ar 12 1 (nI n)) (Nat.le_refl _) (by unfold hm_fuel; omega) (u2_B B (by omega) _ _ hB) (u2_s _ _ _ _) (fun l hl hBl => ?_)
  · rw [Nat.sub_self] at loop
    exact loop
  · rw [Nat.sub_self] at hBl ⊢
    exact t2_o h m B e2 hN _ hBl rfl
theorem t17_t {kx : hM Unit} (hk : RT_ h m sc B kx) : ∀ (r fu : Nat), r ≤ 3 → r < fu → RT_ h m sc B (p_Mo_readProgram_17 (some m) kx fu (nI (3 - r))) := by
  intro r
  induction r with
  | zero =>
    intro fu _ hfu
    obtain ⟨u, rfl⟩ : ∃ u, fu = u + 1 := ⟨fu - 1, by omega⟩
    rw [p_Mo_readProgram_17, if_pos (show (3 : Int32) ≤ nI (3 - 0) by decide)]
    exact hk
  | succ r ih =>
    intro fu hr hfu
    obtain ⟨u, rfl⟩ : ∃ u, fu = u + 1 := ⟨fu - 1, by omega⟩
    intro ar p ft hB hft
    obtain ⟨v, c', p', -, b2, b3, b4⟩ := rt_byteNext h m sc B ar p ft hB hft
    obtain ⟨w, c2, p2, d1, d2, d3, d4⟩ := ih u (by omega) (by omega) c' p' ft b2 hft
    refine ⟨w, c2, p2, d1, d2, sb0_tr _ _ _ b3 d3, ?_⟩
    rw [p_Mo_readProgram_17, if_neg (show ¬ (3 : Int32) ≤ nI (3 - (r + 1)) from nI_ge (b := 3) (by omega) (by omega)), mo_on, bd_0 b4, mo_get7, sp_7]
    simp only [hm_jn]
    rw [ev_ite, if_neg (lt_ne hft), nI_1, show 3 - (r + 1) + 1 = 3 - r by omega]
    exact d4
theorem t17_turn (e2 : sc 2 = nI N) (hN : N ≤ 4096) {kx : hM Unit} (hk : RT_ h m sc B kx) {δ : Type} {S : rs_ δ} {upd : δ → Nat → Nat → Int32} (ar : Nat → Nat → Int32) (hB : ar 10 = B) (k u : Nat) (hk3 : k < 3) (hu : 3 < u) (due : Int32) (hdue : due = if nI k = 0 then 71 else if nI k = 1 then 70 else 1) (hn : ∀ ft : Int32 × Int32, ft.1 = 0 → k + 1 ≤ N → rr_ (Em_ h m sc) N (IB_ B) sb0_ ar (p_Mo_readProgram_17 (some m) kx u (nI (k + 1)) (Em_ h m sc ar (nI (k + 1)) ft)) ft (S (k + 1)) (fun _ => ()) upd (fun _ => True)) (ft : Int32 × Int32) (hft : ft.1 = 0) (hkN : k ≤ N) : rr_ (Em_ h m sc) N (IB_ B) sb0_ ar (p_Mo_readProgram_17 (some m) kx (u + 1) (nI k) (Em_ h m sc ar (nI k) ft)) ft (sbd_ (sst_ B N due) (fun _ => S) k) (fun _ => ()) upd (fun _ => True) := by
  have tL := t17_t h m B hk (3 - (k + 1)) u (by omega) (by omega) (sc := sc)
  rw [show 3 - (3 - (k + 1)) = k + 1 by omega] at tL
  have bn := ro_byteNext h m sc B N e2 hN ar hB k ft hkN hft
  rw [p_Mo_readProgram_17, ev_ite, if_neg (show ¬ (3 : Int32) ≤ nI k from nI_ge (b := 3) hk3 (by omega)), mo_on]
  simp only [hm_jn]
  have enb : nb_ B N k = if k < N then .inr (B k, k + 1) else .inl (1, nI N) := rfl
  rw [enb] at bn
  by_cases c : k < N
  · have sv : sbd_ (sst_ B N due) (fun _ => S) k = if B k = due then S (k + 1) else .inl (2, nI k) := by
      unfold sbd_ sst_
      rw [enb, if_pos c]
      by_cases d : B k = due
      · simp only [if_pos d]
      · simp only [if_neg d]
    rw [if_pos c] at bn
    rw [sv]
    obtain ⟨g1, g2, g3, g4⟩ := bn
    rw [bd_0 g4, mo_get7, sp_7, ev_ite, if_pos hft, nI_1]
    have eif : ∀ (M : Int32 → hM Unit), (if nI k = 0 then M 71 else if nI k = 1 then M 70 else M 1) = M due := by
      intro M
      rw [hdue]
      split
      · rfl
      · split <;> rfl
    have := eif (fun z => if B k = z then p_Mo_readProgram_17 (some m) kx u (nI (k + 1)) else hm_bind (hm_on 8 (some m) (p_Mo_wrong (some m) 2 (nI k))) fun _ => p_Mo_readProgram_17 (some m) kx u (nI (k + 1)))
    rw [this, ev_ite]
    by_cases d : B k = due
    · rw [if_pos d, if_pos d]
      exact hn ft hft (by omega)
    · rw [if_neg d, if_neg d, mo_on, bd_0 (s_Mo_wrong_o h m sc ar _ ft hft _ _)]
      obtain ⟨w, c2, p2, d1, d2, d3, d4⟩ := tL ar (nI (k + 1)) (2, nI k) hB (by show (0 : Int32) < 2; decide)
      exact ⟨(by decide : (0 : Int32) < 2), w, c2, p2, d1, d2, d3, d4⟩
  · have sv : sbd_ (sst_ B N due) (fun _ => S) k = .inl (1, nI N) := by
      unfold sbd_ sst_
      rw [enb, if_neg c]
    rw [if_neg c] at bn
    rw [sv]
    obtain ⟨he, v, c', p', -, b2, b3, b4⟩ := bn
    rw [bd_0 b4, mo_get7, sp_7, ev_ite, if_neg (lt_ne he), nI_1]
    obtain ⟨w, c2, p2, d1, d2, d3, d4⟩ := tL c' p' (1, nI N) b2 he
    exact ⟨he, w, c2, p2, d1, d2, sb0_tr _ _ _ b3 d3, d4⟩
theorem sp_of (sc : Nat → Int32) : va_up (va_up (va_up sc 26 0) 7 0) 8 (-1) = sp_ sc 0 (0, -1) := by
  funext k
  simp only [va_up, sp_]
  by_cases h1 : k = 8
  · subst h1; rfl
  · by_cases h2 : k = 7
    · subst h2; rfl
    · simp [h1, h2]
/-- THE REFERENCE READS A PROGRAM as the specification says -/
theorem s_Mo_readProgram (e2 : sc 2 = nI N) (hN : N ≤ 4096) (ar : Nat → Nat → Int32) (hB : ar 10 = B) : rr_ (Em_ h m sc) N (IB_ B) sb0_ ar (p_Mo_readProgram (some m) (mo_em h m sc ar)) (0, -1) (spg_ B N 0) (fun _ => ()) (fun d => mpu_ ar d) (fun _ => True) := by
  have e0 : (0 : Int32) = nI 0 := rfl
  rw [p_Mo_readProgram, mo_put26, mo_put7, mo_put8, sp_of]
  unfold spg_
  have key : rr_ (Em_ h m sc) N (IB_ B) sb0_ ar (p_Mo_readProgram_17 (some m) (t1_ m) (999999 + 1) (nI 0) (Em_ h m sc ar (nI 0) (0, -1))) (0, -1) (sbd_ (sst_ B N 71) (fun _ => sbd_ (sst_ B N 70) fun _ => sbd_ (sst_ B N 1) fun _ => sbd_ (nn_ B N 1 1 12) fun np => sbd_ (sfs_ B N np np.toNatClampNeg 0) fun l => sbd_ (sen_ N) fun _ => sre_ (np, l)) 0) (fun _ => ()) (fun d => mpu_ ar d) (fun _ => True) := by
    refine t17_turn h m B e2 hN (t1_t h m B) ar hB 0 999999 (by omega) (by omega) 71 (by decide) (fun ft hft h1 => ?_) (0, -1) rfl (by omega)
    refine t17_turn h m B e2 hN (t1_t h m B) ar hB 1 999998 (by omega) (by omega) 70 (by decide) (fun ft hft h2 => ?_) ft hft (by omega)
    refine t17_turn h m B e2 hN (t1_t h m B) ar hB 2 999997 (by omega) (by omega) 1 (by decide) (fun ft hft h3 => ?_) ft hft (by omega)
    rw [show (999997 : Nat) = 999996 + 1 from rfl, p_Mo_readProgram_17, ev_ite, if_pos (show (3 : Int32) ≤ nI (2 + 1) by decide)]
    exact t1_o h m B e2 hN ar hB 3 ft h3 hft
  exact key
end MPG
