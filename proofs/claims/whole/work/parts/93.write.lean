/-! WRITING: a list of numbers with their many bytes, on both sides -/
abbrev wl_ : Type := List (Int32 × Nat)
def pz_ (x : Int32) (k : Nat) : Int32 := (x >>> ((8 * nI k) &&& 31)) &&& 255
def tot_ : wl_ → Nat
  | [] => 0
  | d :: l => d.2 + tot_ l
def puts_ : wl_ → (Nat → Int32) → Nat → Nat → Int32
  | [], g, _ => g
  | d :: l, g, c => puts_ l (wb_ g (pz_ d.1) d.2 c) (c + d.2)
theorem tot_app : ∀ (l l' : wl_), tot_ (l ++ l') = tot_ l + tot_ l'
  | [], l' => by rw [List.nil_append, tot_, Nat.zero_add]
  | d :: l, l' => by rw [List.cons_append, tot_, tot_, tot_app l l', Nat.add_assoc]
theorem puts_app : ∀ (l l' : wl_) (g : Nat → Int32) (c : Nat), puts_ (l ++ l') g c = puts_ l' (puts_ l g c) (c + tot_ l)
  | [], l', g, c => by rw [List.nil_append, tot_, Nat.add_zero, puts_]
  | d :: l, l', g, c => by rw [List.cons_append, puts_, puts_, tot_, puts_app l l', Nat.add_assoc]
theorem s63 : ∀ k, k < 4 → ((Int32.toInt64 (8 * nI k) &&& 63).toBitVec.smod 64).toNat = 8 * k := by decide +kernel
theorem n31 : ∀ k, k < 4 → 8 * nI k = nI (8 * k) := by decide +kernel
theorem by_pz (x : Int32) {k : Nat} (hk : k < 4) : sx_ (by_ (Int32.toInt64 x) k) &&& 255 = pz_ x k := by
  rw [sx_255, pz_]
  apply b_ext
  intro i hi
  rw [b_and, b_and, b_255]
  by_cases c : i < 8
  · rw [n31 k hk, b_sshr (8 * k) (by omega) x hi, if_pos (show 8 * k + i < 32 by omega)]
    congr 1
    unfold bt by_
    rw [Int64.toBitVec_toInt32, Int64.toBitVec_shiftRight, BitVec.getLsbD_signExtend, if_pos (show i < 64 by omega)]
    show (decide (i < 32) && ((Int32.toInt64 x).toBitVec.sshiftRight ((Int32.toInt64 (8 * nI k) &&& 63).toBitVec.smod 64).toNat).getLsbD i) = _
    rw [s63 k hk, BitVec.getLsbD_sshiftRight, decide_eq_true hi, Bool.true_and, decide_eq_false (show ¬ 64 ≤ i by omega), Bool.not_false, Bool.true_and, if_pos (show 8 * k + i < 64 by omega), Int32.toBitVec_toInt64, BitVec.getLsbD_signExtend, if_pos (show 8 * k + i < 32 by omega), decide_eq_true (show 8 * k + i < 64 by omega), Bool.true_and]
  · rw [decide_eq_false c, Bool.and_false, Bool.and_false]
theorem rb_wb2 {v w : Nat → Int32} : ∀ (r : Nat) {c : Nat} {f g : Nat → Int32}, (∀ k, k < r → v k &&& 255 = w k) → rb_ c f g → rb_ (c + r) (wb_ f v r c) (wb_ g w r c)
  | 0, _, _, _, _, h => h
  | r + 1, c, f, g, hv, h => by
    rw [wb_, wb_, show c + (r + 1) = c + 1 + r by omega]
    refine rb_wb2 r (fun k hk => hv k (by omega)) (fun j hj => ?_)
    by_cases e : j = c
    · subst e; rw [va_up_self, va_up_self]; exact hv r (by omega)
    · rw [va_up_ne _ _ e, va_up_ne _ _ e]; exact h j (by omega)
/-! the list of a program -/
def il_ (F : fc_) : Nat → Nat → wl_
  | 0, _ => []
  | r + 1, i => (F.2.1 0 i, 1) :: (F.2.1 1 i, bb_ (F.2.1 0 i)) :: il_ F r (i + 1)
def h5l_ (F : fc_) (k : Nat) : wl_ := [(F.2.2 k 0, 2), (F.2.2 k 1, 2), (F.2.2 k 2, 2), (if F.2.2 k 3 = 0 then 1 else 0, 1), (F.2.2 k 4, if F.2.2 k 3 = 0 then 4 else 0)]
def hl_ (F : fc_) : Nat → Nat → wl_
  | 0, _ => []
  | r + 1, k => h5l_ F k ++ hl_ F r (k + 1)
def fl_ (F : fc_) (n hn : Nat) : wl_ := (F.1 0, 1) :: (F.1 1, 1) :: (F.1 2, 2) :: (F.1 3, 1) :: (F.1 4, 2) :: (il_ F n 0 ++ ((F.1 5, 1) :: hl_ F hn 0))
def pl_ (FA : Nat → fc_) (N HN : Nat → Nat) : Nat → Nat → wl_
  | 0, _ => []
  | r + 1, g => fl_ (FA g) (N g) (HN g) ++ pl_ FA N HN r (g + 1)
theorem bb_4 (o : Int32) : bb_ o ≤ 4 := by
  unfold bb_
  split
  · omega
  · split
    · omega
    · split <;> omega
theorem il_tot (F : fc_) : ∀ r i, tot_ (il_ F r i) ≤ 5 * r
  | 0, _ => Nat.le_refl _
  | r + 1, i => by
    rw [il_, tot_, tot_]
    have := il_tot F r (i + 1)
    have := bb_4 (F.2.1 0 i)
    show 1 + (bb_ (F.2.1 0 i) + _) ≤ _
    omega
theorem hl_tot (F : fc_) : ∀ r i, tot_ (hl_ F r i) ≤ 11 * r
  | 0, _ => Nat.le_refl _
  | r + 1, i => by
    rw [hl_, tot_app]
    have := hl_tot F r (i + 1)
    have : tot_ (h5l_ F i) ≤ 11 := by
      unfold h5l_
      show 2 + (2 + (2 + (1 + ((if F.2.2 i 3 = 0 then 4 else 0) + 0)))) ≤ 11
      split <;> omega
    omega
theorem fl_tot (F : fc_) {n hn : Nat} (h4 : n ≤ 400) (h6 : hn ≤ 6) : tot_ (fl_ F n hn) ≤ 2074 := by
  unfold fl_
  show 1 + (1 + (2 + (1 + (2 + tot_ (il_ F n 0 ++ ((F.1 5, 1) :: hl_ F hn 0)))))) ≤ 2074
  rw [tot_app]
  have := il_tot F n 0
  have := hl_tot F hn 0
  show 1 + (1 + (2 + (1 + (2 + (tot_ (il_ F n 0) + (1 + tot_ (hl_ F hn 0))))))) ≤ 2074
  omega
theorem pl_tot (FA : Nat → fc_) (N HN : Nat → Nat) : ∀ r g, (∀ j, g ≤ j → j < g + r → N j ≤ 400 ∧ HN j ≤ 6) → tot_ (pl_ FA N HN r g) ≤ 2074 * r
  | 0, _, _ => Nat.le_refl _
  | r + 1, g, h => by
    rw [pl_, tot_app]
    have := fl_tot (FA g) (h g (Nat.le_refl _) (by omega)).1 (h g (Nat.le_refl _) (by omega)).2
    have := pl_tot FA N HN r (g + 1) (fun j h1 h2 => h j (by omega) (by omega))
    omega
theorem il_congr {F G : fc_} : ∀ r i, (∀ j, i ≤ j → j < i + r → F.2.1 0 j = G.2.1 0 j ∧ F.2.1 1 j = G.2.1 1 j) → il_ F r i = il_ G r i
  | 0, _, _ => rfl
  | r + 1, i, h => by
    rw [il_, il_, (h i (Nat.le_refl _) (by omega)).1, (h i (Nat.le_refl _) (by omega)).2, il_congr r (i + 1) (fun j h1 h2 => h j (by omega) (by omega))]
theorem hl_congr {F G : fc_} : ∀ r i, (∀ k, i ≤ k → k < i + r → ∀ j, j < 5 → F.2.2 k j = G.2.2 k j) → hl_ F r i = hl_ G r i
  | 0, _, _ => rfl
  | r + 1, i, h => by
    have e := h i (Nat.le_refl _) (by omega)
    rw [hl_, hl_, h5l_, h5l_, e 0 (by omega), e 1 (by omega), e 2 (by omega), e 3 (by omega), e 4 (by omega), hl_congr r (i + 1) (fun j h1 h2 => h j (by omega) (by omega))]
theorem fl_congr {F G : fc_} {n hn : Nat} (h0 : ∀ j, j < 6 → F.1 j = G.1 j) (h1 : ∀ j, j < n → F.2.1 0 j = G.2.1 0 j ∧ F.2.1 1 j = G.2.1 1 j) (h2 : ∀ k, k < hn → ∀ j, j < 5 → F.2.2 k j = G.2.2 k j) : fl_ F n hn = fl_ G n hn := by
  rw [fl_, fl_, h0 0 (by omega), h0 1 (by omega), h0 2 (by omega), h0 3 (by omega), h0 4 (by omega), h0 5 (by omega), il_congr n 0 (fun j _ h => h1 j (by omega)), hl_congr hn 0 (fun j _ h => h2 j (by omega))]
/-! THE CLASS writes -/
section WCL
variable (w : Nat) (P : hc_H → Prop)
def wt_ (mm : hM Unit) (l : wl_) : Prop := ∀ H rw' lw c f g, P H → brR H w 24892 rw' lw c f → rb_ c f g → c + tot_ l ≤ 24892 → ∃ C S H' rw2 lw2 f', mm H = some ((), C, S, H') ∧ brR H' w 24892 rw2 lw2 (c + tot_ l) f' ∧ rb_ (c + tot_ l) f' (puts_ l g c) ∧ fb_ w rw' H H' ∧ (rw2 = rw' ∨ H.1 ≤ rw2) ∧ C + pot_ 24892 lw2 ≤ pot_ 24892 lw ∧ S + pot_ 24892 lw2 ≤ pot_ 24892 lw
variable {w : Nat} {P : hc_H → Prop}
theorem wt_nil : wt_ w P (hm_ret ()) [] := fun H rw' lw c f g _ R hb _ => ⟨0, 0, H, rw', lw, f, ev_ret _ _, R, hb, fb_rfl _ _ _, Or.inl rfl, by omega, by omega⟩
theorem wt_pre {mm mm' : hM Unit} {l : wl_} (h : ∀ H, P H → mm H = mm' H) (t : wt_ w P mm' l) : wt_ w P mm l := by
  intro H rw' lw c f g hP R hb hl
  rw [h H hP]
  exact t H rw' lw c f g hP R hb hl
theorem wt_add (hP : ∀ H H' r, P H → fb_ w r H H' → P H') {x : Int32} {n : Nat} {k : Int32 → hM Unit} {l : wl_} {v : Int64} {y : Int32} (hv : v = Int32.toInt64 x) (hy : y = nI n) (hn : n ≤ 4) (hk : wt_ w P (k 1) l) : wt_ w P (hm_bind (hm_on 1 (some w) (p_ByteRow_add (some w) v y)) k) ((x, n) :: l) := by
  intro H rw' lw c f g hPH R hb hl
  have hl : c + (n + tot_ l) ≤ 24892 := hl
  subst hv hy
  have k1 := s_br_add R (Int32.toInt64 x) (n := n) (by omega)
  rw [if_neg (by omega)] at k1
  obtain ⟨C, S, H1, rb1, len1, f1, d1, d2, d3, d4, d5, d6, d7⟩ := k1
  obtain ⟨C2, S2, H2, rb2, len2, f2, t1, t2, t3, t4, t5, t6, t7⟩ := hk H1 rb1 len1 (c + n) _ (wb_ g (pz_ x) n c) (hP _ _ _ hPH d4) d2 (rb_wb2 n (fun k hk => by_pz x (by omega)) (fun j hj => by rw [d3 j hj]; exact hb j hj)) (by omega)
  have e : c + tot_ ((x, n) :: l) = c + n + tot_ l := by
    show c + (n + tot_ l) = _
    omega
  have := d4.1
  refine ⟨C + C2, S + S2, H2, rb2, len2, f2, by rw [br_on R, bd_ok d1, t1, hm_tk_some], by rw [e]; exact t2, by rw [e]; exact t3, fb_tr d4 t4 d5, by omega, by omega, by omega⟩
theorem wt_bind (hP : ∀ H H' r, P H → fb_ w r H H' → P H') {m1 : hM Unit} {m2 : Unit → hM Unit} {l1 l2 : wl_} (h1 : wt_ w P m1 l1) (h2 : wt_ w P (m2 ()) l2) : wt_ w P (hm_bind m1 m2) (l1 ++ l2) := by
  intro H rw' lw c f g hPH R hb hl
  rw [tot_app] at hl
  obtain ⟨C, S, H1, rb1, len1, f1, d1, d2, d3, d4, d5, d6, d7⟩ := h1 H rw' lw c f g hPH R hb (by omega)
  obtain ⟨C2, S2, H2, rb2, len2, f2, t1, t2, t3, t4, t5, t6, t7⟩ := h2 H1 rb1 len1 _ f1 _ (hP _ _ _ hPH d4) d2 d3 (by omega)
  have := d4.1
  refine ⟨C + C2, S + S2, H2, rb2, len2, f2, by rw [bd_ok d1, t1, hm_tk_some], by rw [tot_app, ← Nat.add_assoc]; exact t2, by rw [tot_app, puts_app, ← Nat.add_assoc]; exact t3, fb_tr d4 t4 d5, by omega, by omega, by omega⟩
theorem wt_P {Q : hc_H → Prop} {mm : hM Unit} {l : wl_} (h : ∀ H, Q H → P H) (t : wt_ w P mm l) : wt_ w Q mm l := fun H rw' lw c f g hq => t H rw' lw c f g (h H hq)
end WCL
theorem fnR_fbc {q : Nat} {F : fc_} {w : Nat} : ∀ H H' r, fnR H q F → fb_ w r H H' → fnR H' q F := fun H H' r R h => fnR_s R (fun k a hk => h.2.2.2 k a (by omega)) (fun a => by rw [h.2.1]) (fun k a hk => h.2.2.1 k a (by omega))
theorem dsR_fbc {a n : Nat} {fq : Nat → Option Nat} {FA : Nat → fc_} {w : Nat} : ∀ H H' r, dsR H a n fq FA → fb_ w r H H' → dsR H' a n fq FA := fun H H' r R h => dsR_s R h.1 (fun k a hk => h.2.2.2 k a (by omega)) h.2.1 (fun k a hk => h.2.2.1 k a (by omega))
theorem wt_hand {w q k : Nat} {F : fc_} (hk : k < 6) : wt_ w (fun H => fnR H q F) (p_Handler_appendTo (some (q + 6 + k)) (some w)) (h5l_ F k) := by
  unfold p_Handler_appendTo h5l_
  simp only [hm_jn]
  refine wt_pre (fun H R => fr_h0 R k hk _) (wt_add fnR_fbc rfl (by decide) (by omega) ?_)
  refine wt_pre (fun H R => fr_h1 R k hk _) (wt_add fnR_fbc rfl (by decide) (by omega) ?_)
  refine wt_pre (fun H R => fr_h2 R k hk _) (wt_add fnR_fbc rfl (by decide) (by omega) ?_)
  refine wt_pre (fun H R => fr_h3 R k hk _) ?_
  by_cases c : F.2.2 k 3 = 0
  · rw [if_pos c, if_pos c, if_pos c]
    refine wt_add fnR_fbc (by decide) (by decide) (by omega) ?_
    refine wt_pre (fun H R => fr_h4 R k hk _) ?_
    refine wt_pre (fun H R => fr_h3 R k hk _) ?_
    rw [if_pos c]
    exact wt_add fnR_fbc rfl (by decide) (by omega) wt_nil
  · rw [if_neg c, if_neg c, if_neg c]
    refine wt_add fnR_fbc (by decide) (by decide) (by omega) ?_
    refine wt_pre (fun H R => fr_h4 R k hk _) ?_
    refine wt_pre (fun H R => fr_h3 R k hk _) ?_
    rw [if_neg c]
    exact wt_add fnR_fbc rfl (by decide) (by omega) wt_nil
theorem wt_57 {w q n : Nat} {F : fc_} (e4 : F.1 4 = nI n) (h4 : n ≤ 400) {kx : hM Unit} {l : wl_} (hk : wt_ w (fun H => fnR H q F) kx l) : ∀ (r fu : Nat), r ≤ n → r < fu → wt_ w (fun H => fnR H q F) (p_Function_appendTo_57 (some q) (some w) kx fu (nI (n - r))) (il_ F r (n - r) ++ l) := by
  intro r
  induction r with
  | zero =>
    intro fu _ hf
    obtain ⟨u, rfl⟩ : ∃ u, fu = u + 1 := ⟨fu - 1, by omega⟩
    refine wt_pre (mm' := kx) (fun H R => ?_) hk
    rw [p_Function_appendTo_57, fr_get4 R, e4, ev_ite, if_pos (nI_le (by omega) (by omega))]
  | succ r ih =>
    intro fu hr hf
    obtain ⟨u, rfl⟩ : ∃ u, fu = u + 1 := ⟨fu - 1, by omega⟩
    have hin : ¬ (nI (n - (r + 1)) < 0 ∨ 400 ≤ (nI (n - (r + 1))).toNatClampNeg) := nI_in (by omega) (by omega)
    have hcl : (nI (n - (r + 1))).toNatClampNeg = n - (r + 1) := nI_clamp (by omega)
    rw [p_Function_appendTo_57, nI_1, show n - (r + 1) + 1 = n - r by omega, il_, show n - (r + 1) + 1 = n - r by omega, List.cons_append, List.cons_append]
    refine wt_pre (fun H R => (fr_get4 R _).trans ?_) (mm' := hm_bind (hm_on 1 (some w) (p_ByteRow_add (some w) (Int32.toInt64 (F.2.1 0 (n - (r + 1)))) 1)) fun _ => hm_bind (hm_getr 3 7 (some q)) fun a15 => hm_bind (hm_ild 1 a15 (nI (n - (r + 1)))) fun a16 => hm_bind (hm_getr 3 6 (some q)) fun a17 => hm_bind (hm_ild 0 a17 (nI (n - (r + 1)))) fun a18 => hm_bind (p_Kinds_bytesBehind a18) fun a19 => hm_bind (hm_on 1 (some w) (p_ByteRow_add (some w) (Int32.toInt64 a16) a19)) fun _ => p_Function_appendTo_57 (some q) (some w) kx u (nI (n - r))) (wt_add fnR_fbc rfl (by decide) (by omega) ?_)
    · rw [e4, ev_ite, if_neg (nI_ge (by omega) (by omega)), fr_ref6 R, fr_ild0 R, if_neg hin, hcl]
    · refine wt_pre (fun H R => ?_) (mm' := hm_bind (hm_on 1 (some w) (p_ByteRow_add (some w) (Int32.toInt64 (F.2.1 1 (n - (r + 1)))) (nI (bb_ (F.2.1 0 (n - (r + 1))))))) fun _ => p_Function_appendTo_57 (some q) (some w) kx u (nI (n - r))) (wt_add fnR_fbc rfl rfl (bb_4 _) (ih u (by omega) (by omega)))
      rw [fr_ref7 R, fr_ild1 R, if_neg hin, hcl, fr_ref6 R, fr_ild0 R, if_neg hin, hcl, bd_0 (s_bytesBehind _ _)]
theorem wt_118 {w q hn : Nat} {F : fc_} (e5 : F.1 5 = nI hn) (h6 : hn ≤ 6) {kx : hM Unit} {l : wl_} (hk : wt_ w (fun H => fnR H q F) kx l) : ∀ (r fu : Nat), r ≤ hn → r < fu → wt_ w (fun H => fnR H q F) (p_Function_appendTo_118 (some q) (some w) kx fu (nI (hn - r))) (hl_ F r (hn - r) ++ l) := by
  intro r
  induction r with
  | zero =>
    intro fu _ hf
    obtain ⟨u, rfl⟩ : ∃ u, fu = u + 1 := ⟨fu - 1, by omega⟩
    refine wt_pre (mm' := kx) (fun H R => ?_) hk
    rw [p_Function_appendTo_118, fr_get5 R, e5, ev_ite, if_pos (nI_le (by omega) (by omega))]
  | succ r ih =>
    intro fu hr hf
    obtain ⟨u, rfl⟩ : ∃ u, fu = u + 1 := ⟨fu - 1, by omega⟩
    rw [p_Function_appendTo_118, nI_1, show hn - (r + 1) + 1 = hn - r by omega, hl_, show hn - (r + 1) + 1 = hn - r by omega, List.append_assoc]
    refine wt_pre (fun H R => ?_) (mm' := hm_bind (p_Handler_appendTo (some (q + 6 + (hn - (r + 1)))) (some w)) fun _ => p_Function_appendTo_118 (some q) (some w) kx u (nI (hn - r))) (wt_bind fnR_fbc (wt_hand (by omega)) (ih u (by omega) (by omega)))
    rw [fr_get5 R, e5, ev_ite, if_neg (nI_ge (by omega) (by omega)), fr_ref10 R, fr_qld R _ (by omega), fr_onh R _ (by omega)]
theorem wt_fun {w q n hn : Nat} {F : fc_} (e4 : F.1 4 = nI n) (h4 : n ≤ 400) (e5 : F.1 5 = nI hn) (h6 : hn ≤ 6) : wt_ w (fun H => fnR H q F) (p_Function_appendTo (some q) (some w)) (fl_ F n hn) := by
  unfold p_Function_appendTo fl_
  refine wt_pre (fun H R => fr_get0 R _) (wt_add fnR_fbc rfl (by decide) (by omega) ?_)
  refine wt_pre (fun H R => fr_get1 R _) (wt_add fnR_fbc rfl (by decide) (by omega) ?_)
  refine wt_pre (fun H R => fr_get2 R _) (wt_add fnR_fbc rfl (by decide) (by omega) ?_)
  refine wt_pre (fun H R => fr_get3 R _) (wt_add fnR_fbc rfl (by decide) (by omega) ?_)
  refine wt_pre (fun H R => fr_get4 R _) (wt_add fnR_fbc rfl (by decide) (by omega) ?_)
  have k2 := wt_118 (w := w) (q := q) e5 h6 wt_nil hn hm_fuel (Nat.le_refl _) (by unfold hm_fuel; omega)
  rw [Nat.sub_self, List.append_nil] at k2
  have k3 : wt_ w (fun H => fnR H q F) (hm_bind (hm_geti 3 5 (some q)) fun a21 => hm_bind (hm_on 1 (some w) (p_ByteRow_add (some w) (Int32.toInt64 a21) 1)) fun a22 => p_Function_appendTo_118 (some q) (some w) (hm_ret ()) hm_fuel 0) ((F.1 5, 1) :: hl_ F hn 0) := wt_pre (fun H R => fr_get5 R _) (wt_add fnR_fbc rfl (by decide) (by omega) k2)
  have k1 := wt_57 (w := w) (q := q) e4 h4 k3 n hm_fuel (Nat.le_refl _) (by unfold hm_fuel; omega)
  rw [Nat.sub_self] at k1
  exact k1
section WPR
variable {w a na : Nat} {fq : Nat → Option Nat} {FA : Nat → fc_} {N HN : Nat → Nat}
theorem wt_38 (h12 : na ≤ 12) (hs : ∀ i, i < na → ∃ q, fq i = some q) (hf : ∀ i, i < na → (FA i).1 4 = nI (N i) ∧ N i ≤ 400 ∧ (FA i).1 5 = nI (HN i) ∧ HN i ≤ 6) : ∀ (r fu : Nat), r ≤ na → r < fu → wt_ w (fun H => dsR H a na fq FA) (p_Program_appendTo_38 (some a) (some w) (hm_ret ()) fu (nI (na - r))) (pl_ FA N HN r (na - r)) := by
  intro r
  induction r with
  | zero =>
    intro fu _ hf
    obtain ⟨u, rfl⟩ : ∃ u, fu = u + 1 := ⟨fu - 1, by omega⟩
    refine wt_pre (mm' := hm_ret ()) (fun H D => ?_) wt_nil
    rw [p_Program_appendTo_38, pr_get1 D.1, ev_ite, if_pos (nI_le (by omega) (by omega))]
  | succ r ih =>
    intro fu hr hfu
    obtain ⟨u, rfl⟩ : ∃ u, fu = u + 1 := ⟨fu - 1, by omega⟩
    obtain ⟨q, hq⟩ := hs (na - (r + 1)) (by omega)
    obtain ⟨f1, f2, f3, f4⟩ := hf (na - (r + 1)) (by omega)
    rw [p_Program_appendTo_38, nI_1, show na - (r + 1) + 1 = na - r by omega, pl_, show na - (r + 1) + 1 = na - r by omega]
    refine wt_pre (fun H D => ?_) (mm' := hm_bind (p_Function_appendTo (some q) (some w)) fun _ => p_Program_appendTo_38 (some a) (some w) (hm_ret ()) u (nI (na - r))) (wt_bind dsR_fbc (wt_P (fun H D => (D.2.2 (na - (r + 1)) q (by omega) hq).1) (wt_fun f1 f2 f3 f4)) (ih u (by omega) (by omega)))
    rw [pr_get1 D.1, ev_ite, if_neg (nI_ge (by omega) (by omega)), pr_ref0 D.1, pr_qld D.1 _ (by omega), hq, fr_on (D.2.2 (na - (r + 1)) q (by omega) hq).1]
def wp_ (FA : Nat → fc_) (N HN : Nat → Nat) (na : Nat) : wl_ := (71, 1) :: (70, 1) :: (1, 1) :: (nI na, 1) :: pl_ FA N HN na 0
theorem wt_prog (h12 : na ≤ 12) (hs : ∀ i, i < na → ∃ q, fq i = some q) (hf : ∀ i, i < na → (FA i).1 4 = nI (N i) ∧ N i ≤ 400 ∧ (FA i).1 5 = nI (HN i) ∧ HN i ≤ 6) : wt_ w (fun H => dsR H a na fq FA) (p_Program_appendTo (some a) (some w)) (wp_ FA N HN na) := by
  unfold p_Program_appendTo wp_
  refine wt_add dsR_fbc (by decide) (by decide) (by omega) ?_
  refine wt_add dsR_fbc (by decide) (by decide) (by omega) ?_
  refine wt_add dsR_fbc (by decide) (by decide) (by omega) ?_
  refine wt_pre (fun H D => pr_get1 D.1 _) (wt_add dsR_fbc rfl (by decide) (by omega) ?_)
  have k := wt_38 (w := w) (a := a) h12 hs hf na hm_fuel (Nat.le_refl _) (by unfold hm_fuel; omega)
  rw [Nat.sub_self] at k
  exact k
end WPR
/-! THE REFERENCE writes -/
section WMO
variable (h : hc_H) (m : Nat) (sc : Nat → Int32) (ar : Nat → Nat → Int32)
abbrev SW_ (g : Nat → Int32) (c : Nat) : hc_H := mo_em h m (va_up sc 4 (nI c)) (va_up ar 11 g)
def mt_ (mm : hM Int32) (l : wl_) : Prop := ∀ g c, c + tot_ l ≤ 26000 → mm (SW_ h m sc ar g c) = some (nI (c + tot_ l), 0, 0, SW_ h m sc ar (puts_ l g c) (c + tot_ l))
theorem s_Mo_put_4 (x : Int32) (kx : hM Unit) : ∀ (r fu : Nat) (g : Nat → Int32) (c : Nat), c + r ≤ 26000 → r ≤ 8 → r < fu → p_Mo_put_4 (some m) x kx fu (nI r + (-1)) (SW_ h m sc ar g c) = kx (SW_ h m sc ar (wb_ g (pz_ x) r c) (c + r)) := by
  intro r
  induction r with
  | zero =>
    intro fu g c _ _ hf
    obtain ⟨u, rfl⟩ : ∃ u, fu = u + 1 := ⟨fu - 1, by omega⟩
    rw [p_Mo_put_4, ev_ite, if_pos (show nI 0 + (-1) < 0 by decide)]
    rfl
  | succ r ih =>
    intro fu g c hr h8 hf
    obtain ⟨u, rfl⟩ : ∃ u, fu = u + 1 := ⟨fu - 1, by omega⟩
    have hin : ¬ (nI c < 0 ∨ 26000 ≤ (nI c).toNatClampNeg) := nI_in (by omega) (by omega)
    rw [pk_m1, p_Mo_put_4, ev_ite, if_neg (nI_pos (by omega)), mo_ref3, mo_get4, va_up_self, mo_ist11, if_neg hin, nI_clamp (by omega), va_up_self, mo_get4, va_up_self, nI_1, mo_put4, bx_uu, bx_uu]
    rw [show c + (r + 1) = c + 1 + r by omega]
    exact ih u _ (c + 1) (by omega) (by omega) (by omega)
theorem s_Mo_put (x : Int32) {n : Nat} (h8 : n ≤ 8) (g : Nat → Int32) {c : Nat} (hc : c + n ≤ 26000) : p_Mo_put (some m) x (nI n) (SW_ h m sc ar g c) = some ((), 0, 0, SW_ h m sc ar (wb_ g (pz_ x) n c) (c + n)) := by
  rw [p_Mo_put, show nI n - 1 = nI n + (-1) from Int32.sub_eq_add_neg _ _, s_Mo_put_4 h m sc ar x _ n _ g c hc h8 (by unfold hm_fuel; omega), ev_ret]
variable {h : hc_H} {m : Nat} {sc : Nat → Int32} {ar : Nat → Nat → Int32}
theorem mt_end : mt_ h m sc ar (hm_bind (hm_geti 8 4 (some m)) fun a => hm_ret a) [] := by
  intro g c hl
  rw [mo_get4, va_up_self, ev_ret]
  rfl
theorem mt_pre {mm mm' : hM Int32} {l : wl_} (e : ∀ g c, mm (SW_ h m sc ar g c) = mm' (SW_ h m sc ar g c)) (t : mt_ h m sc ar mm' l) : mt_ h m sc ar mm l := by
  intro g c hl
  rw [e g c]
  exact t g c hl
theorem mt_put {x y : Int32} {n : Nat} {k : Unit → hM Int32} {l : wl_} (hy : y = nI n) (hn : n ≤ 8) (hk : mt_ h m sc ar (k ()) l) : mt_ h m sc ar (hm_bind (hm_on 8 (some m) (p_Mo_put (some m) x y)) k) ((x, n) :: l) := by
  intro g c hl
  have hl : c + (n + tot_ l) ≤ 26000 := hl
  subst hy
  have e : c + tot_ ((x, n) :: l) = c + n + tot_ l := by
    show c + (n + tot_ l) = _
    omega
  rw [mo_on, bd_0 (s_Mo_put h m sc ar x hn g (by omega)), hk _ _ (by omega), e]
  rfl
theorem mt_rd12 {i : Nat} (hi : i < 2) {k : Int32 → hM Int32} {l : wl_} (t : mt_ h m sc ar (k (ar 12 i)) l) : mt_ h m sc ar (hm_bind (hm_getr 8 9 (some m)) fun a => hm_bind (hm_ild 12 a (nI i)) k) l := by
  intro g c hl
  have hin : ¬ (nI i < 0 ∨ 2 ≤ (nI i).toNatClampNeg) := nI_in (by omega) (by omega)
  rw [mo_ref9, mo_ild12, if_neg hin, nI_clamp (by omega), va_up_ne _ _ (by decide)]
  exact t g c hl
theorem mt_rd13 {i : Nat} (hi : i < 24) {k : Int32 → hM Int32} {l : wl_} (t : mt_ h m sc ar (k (ar 13 i)) l) : mt_ h m sc ar (hm_bind (hm_getr 8 10 (some m)) fun a => hm_bind (hm_ild 13 a (nI i)) k) l := by
  intro g c hl
  have hin : ¬ (nI i < 0 ∨ 24 ≤ (nI i).toNatClampNeg) := nI_in (by omega) (by omega)
  rw [mo_ref10, mo_ild13, if_neg hin, nI_clamp (by omega), va_up_ne _ _ (by decide)]
  exact t g c hl
theorem mt_rd14 {i : Nat} (hi : i < 24) {k : Int32 → hM Int32} {l : wl_} (t : mt_ h m sc ar (k (ar 14 i)) l) : mt_ h m sc ar (hm_bind (hm_getr 8 11 (some m)) fun a => hm_bind (hm_ild 14 a (nI i)) k) l := by
  intro g c hl
  have hin : ¬ (nI i < 0 ∨ 24 ≤ (nI i).toNatClampNeg) := nI_in (by omega) (by omega)
  rw [mo_ref11, mo_ild14, if_neg hin, nI_clamp (by omega), va_up_ne _ _ (by decide)]
  exact t g c hl
theorem mt_rd15 {i : Nat} (hi : i < 24) {k : Int32 → hM Int32} {l : wl_} (t : mt_ h m sc ar (k (ar 15 i)) l) : mt_ h m sc ar (hm_bind (hm_getr 8 12 (some m)) fun a => hm_bind (hm_ild 15 a (nI i)) k) l := by
  intro g c hl
  have hin : ¬ (nI i < 0 ∨ 24 ≤ (nI i).toNatClampNeg) := nI_in (by omega) (by omega)
  rw [mo_ref12, mo_ild15, if_neg hin, nI_clamp (by omega), va_up_ne _ _ (by decide)]
  exact t g c hl
theorem mt_rd16 {i : Nat} (hi : i < 24) {k : Int32 → hM Int32} {l : wl_} (t : mt_ h m sc ar (k (ar 16 i)) l) : mt_ h m sc ar (hm_bind (hm_getr 8 13 (some m)) fun a => hm_bind (hm_ild 16 a (nI i)) k) l := by
  intro g c hl
  have hin : ¬ (nI i < 0 ∨ 24 ≤ (nI i).toNatClampNeg) := nI_in (by omega) (by omega)
  rw [mo_ref13, mo_ild16, if_neg hin, nI_clamp (by omega), va_up_ne _ _ (by decide)]
  exact t g c hl
theorem mt_rd17 {i : Nat} (hi : i < 24) {k : Int32 → hM Int32} {l : wl_} (t : mt_ h m sc ar (k (ar 17 i)) l) : mt_ h m sc ar (hm_bind (hm_getr 8 14 (some m)) fun a => hm_bind (hm_ild 17 a (nI i)) k) l := by
  intro g c hl
  have hin : ¬ (nI i < 0 ∨ 24 ≤ (nI i).toNatClampNeg) := nI_in (by omega) (by omega)
  rw [mo_ref14, mo_ild17, if_neg hin, nI_clamp (by omega), va_up_ne _ _ (by decide)]
  exact t g c hl
theorem mt_rd18 {i : Nat} (hi : i < 24) {k : Int32 → hM Int32} {l : wl_} (t : mt_ h m sc ar (k (ar 18 i)) l) : mt_ h m sc ar (hm_bind (hm_getr 8 15 (some m)) fun a => hm_bind (hm_ild 18 a (nI i)) k) l := by
  intro g c hl
  have hin : ¬ (nI i < 0 ∨ 24 ≤ (nI i).toNatClampNeg) := nI_in (by omega) (by omega)
  rw [mo_ref15, mo_ild18, if_neg hin, nI_clamp (by omega), va_up_ne _ _ (by decide)]
  exact t g c hl
theorem mt_rd19 {i : Nat} (hi : i < 9600) {k : Int32 → hM Int32} {l : wl_} (t : mt_ h m sc ar (k (ar 19 i)) l) : mt_ h m sc ar (hm_bind (hm_getr 8 16 (some m)) fun a => hm_bind (hm_ild 19 a (nI i)) k) l := by
  intro g c hl
  have hin : ¬ (nI i < 0 ∨ 9600 ≤ (nI i).toNatClampNeg) := nI_in (by omega) (by omega)
  rw [mo_ref16, mo_ild19, if_neg hin, nI_clamp (by omega), va_up_ne _ _ (by decide)]
  exact t g c hl
theorem mt_rd20 {i : Nat} (hi : i < 9600) {k : Int32 → hM Int32} {l : wl_} (t : mt_ h m sc ar (k (ar 20 i)) l) : mt_ h m sc ar (hm_bind (hm_getr 8 17 (some m)) fun a => hm_bind (hm_ild 20 a (nI i)) k) l := by
  intro g c hl
  have hin : ¬ (nI i < 0 ∨ 9600 ≤ (nI i).toNatClampNeg) := nI_in (by omega) (by omega)
  rw [mo_ref17, mo_ild20, if_neg hin, nI_clamp (by omega), va_up_ne _ _ (by decide)]
  exact t g c hl
theorem mt_rd21 {i : Nat} (hi : i < 144) {k : Int32 → hM Int32} {l : wl_} (t : mt_ h m sc ar (k (ar 21 i)) l) : mt_ h m sc ar (hm_bind (hm_getr 8 18 (some m)) fun a => hm_bind (hm_ild 21 a (nI i)) k) l := by
  intro g c hl
  have hin : ¬ (nI i < 0 ∨ 144 ≤ (nI i).toNatClampNeg) := nI_in (by omega) (by omega)
  rw [mo_ref18, mo_ild21, if_neg hin, nI_clamp (by omega), va_up_ne _ _ (by decide)]
  exact t g c hl
theorem mt_rd22 {i : Nat} (hi : i < 144) {k : Int32 → hM Int32} {l : wl_} (t : mt_ h m sc ar (k (ar 22 i)) l) : mt_ h m sc ar (hm_bind (hm_getr 8 19 (some m)) fun a => hm_bind (hm_ild 22 a (nI i)) k) l := by
  intro g c hl
  have hin : ¬ (nI i < 0 ∨ 144 ≤ (nI i).toNatClampNeg) := nI_in (by omega) (by omega)
  rw [mo_ref19, mo_ild22, if_neg hin, nI_clamp (by omega), va_up_ne _ _ (by decide)]
  exact t g c hl
theorem mt_rd23 {i : Nat} (hi : i < 144) {k : Int32 → hM Int32} {l : wl_} (t : mt_ h m sc ar (k (ar 23 i)) l) : mt_ h m sc ar (hm_bind (hm_getr 8 20 (some m)) fun a => hm_bind (hm_ild 23 a (nI i)) k) l := by
  intro g c hl
  have hin : ¬ (nI i < 0 ∨ 144 ≤ (nI i).toNatClampNeg) := nI_in (by omega) (by omega)
  rw [mo_ref20, mo_ild23, if_neg hin, nI_clamp (by omega), va_up_ne _ _ (by decide)]
  exact t g c hl
theorem mt_rd24 {i : Nat} (hi : i < 144) {k : Int32 → hM Int32} {l : wl_} (t : mt_ h m sc ar (k (ar 24 i)) l) : mt_ h m sc ar (hm_bind (hm_getr 8 21 (some m)) fun a => hm_bind (hm_ild 24 a (nI i)) k) l := by
  intro g c hl
  have hin : ¬ (nI i < 0 ∨ 144 ≤ (nI i).toNatClampNeg) := nI_in (by omega) (by omega)
  rw [mo_ref21, mo_ild24, if_neg hin, nI_clamp (by omega), va_up_ne _ _ (by decide)]
  exact t g c hl
theorem mt_rd25 {i : Nat} (hi : i < 144) {k : Int32 → hM Int32} {l : wl_} (t : mt_ h m sc ar (k (ar 25 i)) l) : mt_ h m sc ar (hm_bind (hm_getr 8 22 (some m)) fun a => hm_bind (hm_ild 25 a (nI i)) k) l := by
  intro g c hl
  have hin : ¬ (nI i < 0 ∨ 144 ≤ (nI i).toNatClampNeg) := nI_in (by omega) (by omega)
  rw [mo_ref22, mo_ild25, if_neg hin, nI_clamp (by omega), va_up_ne _ _ (by decide)]
  exact t g c hl
theorem s_Mo_behind {o : Int32} (ho : ∃ j, j ≤ 29 ∧ o = nI j) (H : hc_H) : p_Mo_behind o H = some (nI (bb_ o), 0, 0, H) := by
  have ht := gtp_iff ho
  unfold p_Mo_behind bb_
  simp only [hm_jn]
  by_cases c0 : o = 0
  · rw [ev_ite, if_pos c0, if_pos c0, ev_ret]; rfl
  rw [ev_ite, if_neg c0, if_neg c0]
  by_cases c1 : o = 18 ∨ o = 19 ∨ o = 20
  · have c2 := ht.mp c1
    have c3 : ¬ (o = 4 ∨ o = 5 ∨ o = 25 ∨ o = 26 ∨ o = 29) := by
      rcases c1 with rfl | rfl | rfl <;> decide
    rw [ev_ite, if_neg (Int32.not_le.mpr c2.1), ev_ite, if_neg (Int32.not_le.mpr c2.2), if_neg c3, if_pos c1, ev_ret]; rfl
  · have key : (if o = 4 then hm_ret 1 else if o = 5 then hm_ret 1 else if o = 25 then hm_ret 1 else if o = 26 then hm_ret 1 else if o = 29 then hm_ret 1 else (hm_ret 0 : hM Int32)) H = some (nI (if o = 4 ∨ o = 5 ∨ o = 25 ∨ o = 26 ∨ o = 29 then 1 else if o = 18 ∨ o = 19 ∨ o = 20 then 2 else 0), 0, 0, H) := by
      rw [if_neg c1]
      by_cases d1 : o = 4
      · rw [ev_ite, if_pos d1, if_pos (Or.inl d1), ev_ret]; rfl
      by_cases d2 : o = 5
      · rw [ev_ite, if_neg d1, ev_ite, if_pos d2, if_pos (Or.inr (Or.inl d2)), ev_ret]; rfl
      by_cases d3 : o = 25
      · rw [ev_ite, if_neg d1, ev_ite, if_neg d2, ev_ite, if_pos d3, if_pos (Or.inr (Or.inr (Or.inl d3))), ev_ret]; rfl
      by_cases d4 : o = 26
      · rw [ev_ite, if_neg d1, ev_ite, if_neg d2, ev_ite, if_neg d3, ev_ite, if_pos d4, if_pos (Or.inr (Or.inr (Or.inr (Or.inl d4)))), ev_ret]; rfl
      by_cases d5 : o = 29
      · rw [ev_ite, if_neg d1, ev_ite, if_neg d2, ev_ite, if_neg d3, ev_ite, if_neg d4, ev_ite, if_pos d5, if_pos (Or.inr (Or.inr (Or.inr (Or.inr d5)))), ev_ret]; rfl
      rw [ev_ite, if_neg d1, ev_ite, if_neg d2, ev_ite, if_neg d3, ev_ite, if_neg d4, ev_ite, if_neg d5, if_neg (fun z : o = 4 ∨ o = 5 ∨ o = 25 ∨ o = 26 ∨ o = 29 => z.elim d1 (fun z => z.elim d2 (fun z => z.elim d3 (fun z => z.elim d4 d5)))), ev_ret]; rfl
    rw [ev_ite]
    by_cases c2 : o ≤ 17
    · rw [if_pos c2]; exact key
    · rw [if_neg c2, ev_ite]
      by_cases c3 : 21 ≤ o
      · rw [if_pos c3]; exact key
      · exact absurd (ht.mpr ⟨Int32.not_le.mp c2, Int32.not_le.mp c3⟩) c1
def FR_ (ar : Nat → Nat → Int32) (g : Nat) : fc_ := (fun j => ar (13 + j) g, fun k i => ar (19 + k) (400 * g + i), fun k j => ar (21 + j) (6 * g + k))
theorem mt_110 {g n : Nat} (hg : g < 12) (h4 : n ≤ 400) (e : ar 17 g = nI n) (ho : ∀ i, i < n → ∃ j, j ≤ 29 ∧ ar 19 (400 * g + i) = nI j) {kx : hM Int32} {l : wl_} (hk : mt_ h m sc ar kx l) : ∀ (r fu : Nat), r ≤ n → r < fu → mt_ h m sc ar (p_Mo_write_110 (some m) (nI g) kx fu (nI (n - r))) (il_ (FR_ ar g) r (n - r) ++ l) := by
  intro r
  induction r with
  | zero =>
    intro fu _ hf
    obtain ⟨u, rfl⟩ : ∃ u, fu = u + 1 := ⟨fu - 1, by omega⟩
    rw [p_Mo_write_110]
    refine mt_rd17 (by omega) ?_
    rw [e, if_pos (nI_le (by omega) (by omega))]
    exact hk
  | succ r ih =>
    intro fu hr hf
    obtain ⟨u, rfl⟩ : ∃ u, fu = u + 1 := ⟨fu - 1, by omega⟩
    rw [p_Mo_write_110]
    refine mt_rd17 (by omega) ?_
    rw [e, if_neg (nI_ge (by omega) (by omega)), nI_1, show n - (r + 1) + 1 = n - r by omega, il_, show n - (r + 1) + 1 = n - r by omega, ix400, List.cons_append, List.cons_append]
    refine mt_rd19 (by omega) (mt_put (n := 1) (by decide) (by omega) (mt_rd20 (by omega) (mt_rd19 (by omega) ?_)))
    refine mt_pre (fun g' c => bd_0 (s_Mo_behind (ho _ (by omega)) _)) (mt_put rfl (bb_8 _) (ih u (by omega) (by omega)))
theorem mt_190 {g hn : Nat} (hg : g < 12) (h6 : hn ≤ 6) (e : ar 18 g = nI hn) {kx : hM Int32} {l : wl_} (hk : mt_ h m sc ar kx l) : ∀ (r fu : Nat), r ≤ hn → r < fu → mt_ h m sc ar (p_Mo_write_190 (some m) (nI g) kx fu (nI (6 * g + (hn - r)))) (hl_ (FR_ ar g) r (hn - r) ++ l) := by
  intro r
  induction r with
  | zero =>
    intro fu _ hf
    obtain ⟨u, rfl⟩ : ∃ u, fu = u + 1 := ⟨fu - 1, by omega⟩
    rw [p_Mo_write_190]
    refine mt_rd18 (by omega) ?_
    rw [e, ix6, if_pos (nI_le (by omega) (by omega))]
    exact hk
  | succ r ih =>
    intro fu hr hf
    obtain ⟨u, rfl⟩ : ∃ u, fu = u + 1 := ⟨fu - 1, by omega⟩
    rw [p_Mo_write_190]
    refine mt_rd18 (by omega) ?_
    rw [e, ix6, if_neg (nI_ge (by omega) (by omega)), nI_1, show 6 * g + (hn - (r + 1)) + 1 = 6 * g + (hn - r) by omega, hl_, show hn - (r + 1) + 1 = hn - r by omega, List.append_assoc, h5l_]
    simp only [hm_jn]
    refine mt_rd21 (by omega) (mt_put (n := 2) (by decide) (by omega) (mt_rd22 (by omega) (mt_put (n := 2) (by decide) (by omega) (mt_rd23 (by omega) (mt_put (n := 2) (by decide) (by omega) (mt_rd24 (by omega) ?_))))))
    by_cases c : ar 24 (6 * g + (hn - (r + 1))) = 0
    · have c' : (FR_ ar g).2.2 (hn - (r + 1)) 3 = 0 := c
      rw [if_pos c, if_pos c', if_pos c']
      refine mt_put (n := 1) (by decide) (by omega) (mt_rd25 (by omega) (mt_rd24 (by omega) ?_))
      rw [if_pos c]
      exact mt_put (n := 4) (by decide) (by omega) (ih u (by omega) (by omega))
    · have c' : ¬ (FR_ ar g).2.2 (hn - (r + 1)) 3 = 0 := c
      rw [if_neg c, if_neg c', if_neg c']
      refine mt_put (n := 1) (by decide) (by omega) (mt_rd25 (by omega) (mt_rd24 (by omega) ?_))
      rw [if_neg c]
      exact mt_put (n := 0) (by decide) (by omega) (ih u (by omega) (by omega))
theorem mt_43 {na : Nat} {N HN : Nat → Nat} (h12 : na ≤ 12) (e : ar 12 0 = nI na) (hf : ∀ g, g < na → ar 17 g = nI (N g) ∧ N g ≤ 400 ∧ ar 18 g = nI (HN g) ∧ HN g ≤ 6 ∧ ∀ i, i < N g → ∃ j, j ≤ 29 ∧ ar 19 (400 * g + i) = nI j) {kx : hM Int32} {l : wl_} (hk : mt_ h m sc ar kx l) : ∀ (r fu : Nat), r ≤ na → r < fu → mt_ h m sc ar (p_Mo_write_43 (some m) kx fu (nI (na - r))) (pl_ (FR_ ar) N HN r (na - r) ++ l) := by
  intro r
  induction r with
  | zero =>
    intro fu _ hf
    obtain ⟨u, rfl⟩ : ∃ u, fu = u + 1 := ⟨fu - 1, by omega⟩
    rw [p_Mo_write_43]
    refine mt_rd12 (i := 0) (by omega) ?_
    rw [e, if_pos (nI_le (by omega) (by omega))]
    exact hk
  | succ r ih =>
    intro fu hr hfu
    obtain ⟨u, rfl⟩ : ∃ u, fu = u + 1 := ⟨fu - 1, by omega⟩
    obtain ⟨f1, f2, f3, f4, f5⟩ := hf (na - (r + 1)) (by omega)
    have k3 := ih u (by omega) (by omega)
    have k2 := mt_190 (g := na - (r + 1)) (by omega) f4 f3 k3 (HN (na - (r + 1))) hm_fuel (Nat.le_refl _) (by unfold hm_fuel; omega)
    rw [Nat.sub_self, Nat.add_zero] at k2
    rw [p_Mo_write_43, nI_1, show na - (r + 1) + 1 = na - r by omega, pl_, show na - (r + 1) + 1 = na - r by omega, List.append_assoc, fl_]
    simp only [List.cons_append, List.append_assoc]
    rw [show (6 : Int32) * nI (na - (r + 1)) = nI (6 * (na - (r + 1))) by rw [show (6 : Int32) = nI 6 by decide, pk_mul]]
    refine mt_rd12 (i := 0) (by omega) ?_
    rw [e, if_neg (nI_ge (by omega) (by omega))]
    refine mt_rd13 (by omega) (mt_put (n := 1) (by decide) (by omega) (mt_rd14 (by omega) (mt_put (n := 1) (by decide) (by omega) (mt_rd15 (by omega) (mt_put (n := 2) (by decide) (by omega) (mt_rd16 (by omega) (mt_put (n := 1) (by decide) (by omega) (mt_rd17 (by omega) (mt_put (n := 2) (by decide) (by omega) ?_)))))))))
    have k1 := mt_110 (g := na - (r + 1)) (by omega) f2 f1 f5 (mt_rd18 (i := na - (r + 1)) (by omega) (mt_put (n := 1) (y := 1) (k := fun _ => p_Mo_write_190 (some m) (nI (na - (r + 1))) (p_Mo_write_43 (some m) kx u (nI (na - r))) hm_fuel (nI (6 * (na - (r + 1))))) (by decide) (by omega) k2) (k := fun a25 => hm_bind (hm_on 8 (some m) (p_Mo_put (some m) a25 1)) fun _ => p_Mo_write_190 (some m) (nI (na - (r + 1))) (p_Mo_write_43 (some m) kx u (nI (na - r))) hm_fuel (nI (6 * (na - (r + 1)))))) (N (na - (r + 1))) hm_fuel (Nat.le_refl _) (by unfold hm_fuel; omega)
    rw [Nat.sub_self] at k1
    exact k1
end WMO
theorem s_Mo_write (h : hc_H) (m : Nat) (sc : Nat → Int32) (ar : Nat → Nat → Int32) {na : Nat} {N HN : Nat → Nat} (h12 : na ≤ 12) (e : ar 12 0 = nI na) (hf : ∀ g, g < na → ar 17 g = nI (N g) ∧ N g ≤ 400 ∧ ar 18 g = nI (HN g) ∧ HN g ≤ 6 ∧ ∀ i, i < N g → ∃ j, j ≤ 29 ∧ ar 19 (400 * g + i) = nI j) (ht : tot_ (wp_ (FR_ ar) N HN na) ≤ 26000) : p_Mo_write (some m) (mo_em h m sc ar) = some (nI (tot_ (wp_ (FR_ ar) N HN na)), 0, 0, mo_em h m (va_up (va_up sc 0 0) 4 (nI (tot_ (wp_ (FR_ ar) N HN na)))) (va_up ar 11 (puts_ (wp_ (FR_ ar) N HN na) (ar 11) 0))) := by
  have k3 := mt_43 (h := h) (m := m) (sc := va_up sc 0 0) h12 e hf mt_end na hm_fuel (Nat.le_refl _) (by unfold hm_fuel; omega)
  rw [Nat.sub_self, List.append_nil] at k3
  have k4 : mt_ h m (va_up sc 0 0) ar (hm_bind (hm_on 8 (some m) (p_Mo_put (some m) 71 1)) fun _ => hm_bind (hm_on 8 (some m) (p_Mo_put (some m) 70 1)) fun _ => hm_bind (hm_on 8 (some m) (p_Mo_put (some m) 1 1)) fun _ => hm_bind (hm_getr 8 9 (some m)) fun a1 => hm_bind (hm_ild 12 a1 0) fun a2 => hm_bind (hm_on 8 (some m) (p_Mo_put (some m) a2 1)) fun _ => p_Mo_write_43 (some m) (hm_bind (hm_geti 8 4 (some m)) fun a42 => hm_ret a42) hm_fuel 0) (wp_ (FR_ ar) N HN na) := by
    unfold wp_
    refine mt_put (n := 1) (by decide) (by omega) (mt_put (n := 1) (by decide) (by omega) (mt_put (n := 1) (by decide) (by omega) (mt_rd12 (i := 0) (by omega) ?_)))
    rw [e]
    exact mt_put (n := 1) (by decide) (by omega) k3
  have k5 := k4 (ar 11) 0 (by omega)
  rw [Nat.zero_add] at k5
  rw [p_Mo_write, mo_put0, mo_put4]
  rw [show SW_ h m (va_up sc 0 0) ar (ar 11) 0 = mo_em h m (va_up (va_up sc 0 0) 4 0) ar by unfold SW_; rw [up_same]; rfl] at k5
  exact k5
theorem pl_congr {FA GA : Nat → fc_} {N HN : Nat → Nat} : ∀ r g, (∀ j, g ≤ j → j < g + r → fl_ (FA j) (N j) (HN j) = fl_ (GA j) (N j) (HN j)) → pl_ FA N HN r g = pl_ GA N HN r g
  | 0, _, _ => rfl
  | r + 1, g, h => by
    rw [pl_, pl_, h g (Nat.le_refl _) (by omega), pl_congr r (g + 1) (fun j h1 h2 => h j (by omega) (by omega))]
theorem pick {n : Nat} {P : Nat → Nat → Prop} (h : ∀ g, g < n → ∃ x, P g x) : ∃ N : Nat → Nat, ∀ g, g < n → P g (N g) := ⟨fun g => if c : g < n then (h g c).choose else 0, fun g hg => by
  have e : (if c : g < n then (h g c).choose else 0) = (h g hg).choose := dif_pos hg
  show P g (if c : g < n then (h g c).choose else 0)
  rw [e]
  exact (h g hg).choose_spec⟩
theorem call_write (sb m : Nat) : call_ sb m (p_SB_write (some sb)) (p_Mo_write (some m)) := by
  intro H Φ ⟨cb, f, cw, fw, ft, na, FA, sc, ar, hc, hm, hr⟩
  have hc' := hc
  obtain ⟨b, w, lt, vf, A, B, rb, len, rw', lw, fqa, fqb, cA, a5, cV, b1, b2, b3, c1, c2⟩ := hc
  have c1' := c1
  obtain ⟨D, h12, h1, hs, hB, hX⟩ := c1
  obtain ⟨N, hN⟩ : ∃ N : Nat → Nat, ∀ g, g < na → ∃ hn, fok_ na (FA g) (N g) hn ∧ agf_ (FA g) ar 0 g (N g) hn := pick (P := fun g n => ∃ hn, fok_ na (FA g) n hn ∧ agf_ (FA g) ar 0 g n hn) (fun g hg => by
    obtain ⟨n, hn, q1, q2, -⟩ := hr.2.2.2.2.2.2.2.2 g hg
    exact ⟨n, hn, q1, q2⟩)
  obtain ⟨HN, hH⟩ := pick hN
  have hlim : ∀ j, 0 ≤ j → j < 0 + na → N j ≤ 400 ∧ HN j ≤ 6 := fun j _ hj => ⟨(hH j (by omega)).1.2.2.1, (hH j (by omega)).1.2.2.2.2.1⟩
  have htot : tot_ (wp_ FA N HN na) ≤ 24892 := by
    have := pl_tot FA N HN na 0 hlim
    unfold wp_
    show 1 + (1 + (1 + (1 + tot_ (pl_ FA N HN na 0)))) ≤ 24892
    omega
  have elist : wp_ FA N HN na = wp_ (FR_ ar) N HN na := by
    unfold wp_
    rw [pl_congr na 0 (GA := FR_ ar) (fun j _ hj => ?_)]
    obtain ⟨q1, q2⟩ := hH j (by omega)
    exact fl_congr (fun i hi => ag6 q2 hi) (fun i hi => agi q2 hi) (fun k hk i hi => agh q2 hk hi)
  have W := wt_prog (w := w) (a := A) (FA := FA) (N := N) (HN := HN) h12 hs (fun i hi => ⟨(hH i hi).1.1, (hH i hi).1.2.2.1, (hH i hi).1.2.2.2.1, (hH i hi).1.2.2.2.2.1⟩)
  have k1 := s_br_keep b2 0
  rw [if_neg (fun z : (0 : Int32) < 0 ∨ nI cw < 0 => z.elim (by decide) (nI_pos (by have := hr.2.2.2.1; omega)))] at k1
  have R0 := br_cnt b2 (c := 0) (by omega)
  have fr0 := fb_o w rw' H [vi_ (nI 24892), vr_ (some rw'), vi_ (nI 0)]
  obtain ⟨C, S, H', rw2, lw2, f2, t1, t2, t3, t4, t5, t6, t7⟩ := W _ _ _ 0 fw (ar 11) (dsR_fbc _ _ _ D fr0) R0 (fun j hj => by omega) (by omega)
  have fr := fb_tr fr0 t4 (Or.inl rfl)
  obtain ⟨g1, g2, g3, g4, g5⟩ := clI_fb fr cA a5 cV c1'
  rw [Nat.zero_add] at t2 t3
  have hH1 : H.1 ≤ rb → False := fun z => by have := b1.2.2.2.2.2.2; omega
  have D0 := dsR_fbc _ _ _ D fr0
  have cA0 := (clI_fb fr0 cA a5 cV c1').1
  have e0 : nI 0 = (0 : Int32) := rfl
  have e1 : p_SB_write (some sb) H = some (nI (tot_ (wp_ FA N HN na)), C, S, H') := by
    rw [p_SB_write, sb_ref1 cA, br_on b2, bd_0 k1, ← e0, sb_ref4 cA0, sb_ref1 cA0, pr_on D0.1, bd_ok t1, sb_ref1 g1, br_get2 t2, ev_ret, hm_tk_some, Nat.add_zero, Nat.add_zero]
  have e2 := s_Mo_write H' m sc ar (N := N) (HN := HN) h12 hr.2.2.2.2.2.2.2.1 (fun g hg => by
    obtain ⟨q1, q2⟩ := hH g hg
    refine ⟨by rw [← q1.1]; exact (ag6 q2 (j := 4) (by omega)).symm, q1.2.2.1, by rw [← q1.2.2.2.1]; exact (ag6 q2 (j := 5) (by omega)).symm, q1.2.2.2.2.1, fun i hi => ?_⟩
    rw [← (agi q2 hi).1]
    exact (q1.2.2.2.2.2.2.2.2.2 i hi).1) (by rw [← elist]; omega)
  rw [← elist] at e2
  refine fin_ hm g5 (Φ' := Φ - (pot_ 24892 lw - pot_ 24892 lw2)) (cb := cb) (f := f) (cw := tot_ (wp_ FA N HN na)) (fw := f2) ⟨b, w, lt, vf, A, B, rb, len, rw2, lw2, fqa, fqb, g1, g2, g3, brR_fb fr b1 cA.2.1 b3, t2, ?_, g4, by omega⟩ e1 e2 ?_ (by omega) (by omega)
  · have : H.1 = (hc_up H w (.inr (.inr (1, [vi_ (nI 24892), vr_ (some rw'), vi_ (nI 0)])))).1 := rfl
    have := b1.2.2.2.2.2.2
    omega
  · obtain ⟨r1, r2, r3, r4, r5, r6, r7, r8, r9⟩ := hr
    have k : ∀ k, k ≠ 11 → va_up ar 11 (puts_ (wp_ FA N HN na) (ar 11) 0) k = ar k := fun k hk => va_up_ne _ _ hk
    refine ⟨by rw [va_up_ne _ _ (by decide), va_up_ne _ _ (by decide)]; exact r1, by rw [k 10 (by omega)]; exact r2, va_up_self _ _ _, htot, by rw [va_up_self]; exact t3, by rw [va_up_ne _ _ (by decide), va_up_ne _ _ (by decide)]; exact r6, by rw [va_up_ne _ _ (by decide), va_up_ne _ _ (by decide)]; exact r7, by rw [k 12 (by omega)]; exact r8, fun i hi => ?_⟩
    obtain ⟨n, hn, q1, q2, qa, q3⟩ := r9 i hi
    refine ⟨n, hn, q1, ⟨fun j hj => by rw [k _ (by omega)]; exact q2.1 j hj, fun j hj => by rw [k _ (by omega), k _ (by omega)]; exact q2.2.1 j hj, fun j hj l hl => by rw [k _ (by omega)]; exact q2.2.2 j hj l hl⟩, qa, fun j hj => by rw [k _ (by omega), k _ (by omega)]; exact q3 j hj⟩
