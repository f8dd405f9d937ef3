/-! A NEW FUNCTION of the class -/
theorem bd_new {β : Type} (ci n : Nat) (fs : List lc_V) (kont : Nat → hM β) (H : hc_H) : hm_bind (hm_new ci n fs) kont H = hm_tk 1 n (kont H.1 (hc_nw H (.inr (.inr (ci, fs))))) := bd_ok rfl
theorem bd_newi {β : Type} (kd n : Nat) (hn : n ≤ 134217728) (kont : Nat → hM β) (H : hc_H) : hm_bind (hm_newi kd (nI n)) kont H = hm_tk 1 n (kont H.1 (hc_nw H (.inl (kd, n, fun _ => 0)))) := by
  refine bd_ok ?_
  unfold hm_newi
  rw [nI_clamp (by omega), if_neg (fun z => z.elim (nI_pos (by omega)) (by omega))]
theorem bd_newq {β : Type} (kd n : Nat) (hn : n ≤ 134217728) (kont : Nat → hM β) (H : hc_H) : hm_bind (hm_newq kd (nI n)) kont H = hm_tk 1 n (kont H.1 (hc_nw H (.inr (.inl (kd, n, fun _ => none))))) := by
  refine bd_ok ?_
  unfold hm_newq
  rw [nI_clamp (by omega), if_neg (fun z => z.elim (nI_pos (by omega)) (by omega))]
theorem bd_qst {β : Type} {kd ci a n i b : Nat} {f : Nat → Option Nat} {fs : List lc_V} {H : hc_H} (h1 : H.2.2.1 kd a = some (n, f)) (hi : i < n) (hn : n < 2 ^ 31) (h2 : H.2.2.2 ci b = some fs) (kont : Unit → hM β) : hm_bind (hm_qst kd ci (some a) (nI i) (some b)) kont H = kont () (hc_up H a (.inr (.inl (kd, n, va_up f i (some b))))) := by
  refine bd_0 ?_
  unfold hm_qst hc_qar
  simp only [h1]
  have : hc_isO H ci (some b) = true := by
    show (H.2.2.2 ci b).isSome = true
    rw [h2]; rfl
  rw [if_neg, nI_clamp (by omega)]
  rintro (z | z)
  · exact nI_in hi hn z
  · rw [this] at z; cases z
/-- an object of class c at q over a heap -/
def oE_ (H : hc_H) (c q : Nat) (fs : List lc_V) : hc_H := (H.1, H.2.1, H.2.2.1, fun k a => if k = c ∧ a = q then some fs else H.2.2.2 k a)
section OE
variable {β : Type} (H : hc_H) (c q : Nat) (fs : List lc_V)
theorem oE_o : (oE_ H c q fs).2.2.2 c q = some fs := by simp [oE_]
theorem oE_put (k : Nat) (v : lc_V) (hk : k < fs.length) (kont : Unit → hM β) : hm_bind (hm_put c k (some q) v) kont (oE_ H c q fs) = kont () (oE_ H c q (fs.set k v)) := by
  rw [bd_put, oE_o]
  dsimp only
  rw [if_pos hk]
  congr 1
  refine hc_ext rfl (fun _ _ => rfl) (fun _ _ => rfl) (fun k a => ?_)
  rw [up_o4]
  simp only [oE_]
  split <;> rfl
theorem oE_nw (ci : Nat) (gs : List lc_V) : hc_nw H (.inr (.inr (ci, gs))) = oE_ (H.1 + 1, H.2) ci H.1 gs := rfl
theorem oE_newi (kd n : Nat) (hn : n ≤ 134217728) (kont : Nat → hM β) : hm_bind (hm_newi kd (nI n)) kont (oE_ H c q fs) = hm_tk 1 n (kont H.1 (oE_ (hc_nw H (.inl (kd, n, fun _ => 0))) c q fs)) := by
  rw [bd_newi kd n hn]; rfl
theorem oE_newq (kd n : Nat) (hn : n ≤ 134217728) (kont : Nat → hM β) : hm_bind (hm_newq kd (nI n)) kont (oE_ H c q fs) = hm_tk 1 n (kont H.1 (oE_ (hc_nw H (.inr (.inl (kd, n, fun _ => none)))) c q fs)) := by
  rw [bd_newq kd n hn]; rfl
end OE
theorem nw_i1 (H : hc_H) (e : Nat × Nat × (Nat → Int32)) : (hc_nw H (.inl e)).1 = H.1 + 1 := (Eq.refl _).trans (Eq.refl _)
theorem nw_i2 (H : hc_H) (e : Nat × Nat × (Nat → Int32)) (k a : Nat) : (hc_nw H (.inl e)).2.1 k a = if k = e.1 ∧ a = H.1 then some e.2 else H.2.1 k a := (Eq.refl _).trans (Eq.refl _)
theorem nw_i3 (H : hc_H) (e : Nat × Nat × (Nat → Int32)) : (hc_nw H (.inl e)).2.2 = H.2.2 := (Eq.refl _).trans (Eq.refl _)
theorem nw_o4 (H : hc_H) (e : Nat × List lc_V) (k a : Nat) : (hc_nw H (.inr (.inr e))).2.2.2 k a = if k = e.1 ∧ a = H.1 then some e.2 else H.2.2.2 k a := (Eq.refl _).trans (Eq.refl _)
theorem nw_q1 (H : hc_H) (e : Nat × Nat × (Nat → Option Nat)) : (hc_nw H (.inr (.inl e))).1 = H.1 + 1 := (Eq.refl _).trans (Eq.refl _)
theorem nw_q3 (H : hc_H) (e : Nat × Nat × (Nat → Option Nat)) (k a : Nat) : (hc_nw H (.inr (.inl e))).2.2.1 k a = if k = e.1 ∧ a = H.1 then some e.2 else H.2.2.1 k a := (Eq.refl _).trans (Eq.refl _)
def F0_ : fc_ := (va_up (fun _ => 0) 4 1, fun k => if k = 0 then va_up (fun _ => 0) 0 27 else fun _ => 0, fun _ _ => 0)
/-- the rows of a new function, without its handlers -/
def nr_ (H : hc_H) (q : Nat) : hc_H := (q + 6, fun k a => if k < 4 ∧ a = q + (k + 1) then some (400, F0_.2.1 k) else H.2.1 k a, fun k a => if k = 9 ∧ a = q + 5 then some (6, fun _ => none) else H.2.2.1 k a, fun k a => if k = 3 ∧ a = q then some (fn_fs q F0_.1) else H.2.2.2 k a)
/-- with j handlers -/
def nh_ (H : hc_H) (q j : Nat) : hc_H := (q + 6 + j, fun k a => if k < 4 ∧ a = q + (k + 1) then some (400, F0_.2.1 k) else H.2.1 k a, fun k a => if k = 9 ∧ a = q + 5 then some (6, fun i => if i < j then some (q + 6 + i) else none) else H.2.2.1 k a, fun k a => if k = 3 ∧ a = q then some (fn_fs q F0_.1) else if k = 4 ∧ q + 6 ≤ a ∧ a < q + 6 + j then some (fn_hs (fun _ => 0)) else H.2.2.2 k a)
theorem nh_0 (H : hc_H) (q : Nat) : nr_ H q = nh_ H q 0 := by
  refine hc_ext rfl (fun _ _ => rfl) (fun k a => ?_) (fun k a => ?_)
  · simp [nr_, nh_]
  · simp only [nr_, nh_]
    split
    · rfl
    · rw [if_neg (by omega)]
theorem nh_6 (H : hc_H) (q : Nat) : nh_ H q 6 = fn_em (q + 12, H.2) q F0_ := by
  refine hc_ext rfl (fun _ _ => rfl) (fun k a => rfl) (fun k a => ?_)
  simp only [nh_, fn_em, F0_]
theorem s_handlers_64 (H : hc_H) (q : Nat) (kx : hM Unit) : ∀ (r fu : Nat), r ≤ 6 → r < fu → p_Function_init_64 (some q) kx fu (nI (6 - r)) (nh_ H q (6 - r)) = hm_tk r (5 * r) (kx (nh_ H q 6)) := by
  intro r
  induction r with
  | zero =>
    intro fu _ hfu
    obtain ⟨u, rfl⟩ : ∃ u, fu = u + 1 := ⟨fu - 1, by omega⟩
    rw [p_Function_init_64, ev_ite, if_pos (show (6 : Int32) ≤ nI (6 - 0) by decide), Nat.mul_zero, hm_tk_0]
  | succ r ih =>
    intro fu hr hfu
    obtain ⟨u, rfl⟩ : ∃ u, fu = u + 1 := ⟨fu - 1, by omega⟩
    rw [p_Function_init_64, ev_ite, if_neg (show ¬ (6 : Int32) ≤ nI (6 - (r + 1)) from nI_ge (b := 6) (by omega) (by omega))]
    have o1 : (nh_ H q (6 - (r + 1))).2.2.2 3 q = some (fn_fs q F0_.1) := by simp [nh_]
    rw [bd_getr, ev_fld, o1]
    show hm_bind (hm_new 4 5 [vi_ 0, vi_ 0, vi_ 0, vi_ 0, vi_ 0]) _ _ = _
    rw [bd_new]
    show hm_tk 1 5 (hm_bind (p_Handler_init (some (nh_ H q (6 - (r + 1))).1)) _ _) = _
    rw [p_Handler_init, bd_ret]
    have e1 : (nh_ H q (6 - (r + 1))).1 = q + 6 + (6 - (r + 1)) := rfl
    rw [e1, bd_qst (f := fun i => if i < 6 - (r + 1) then some (q + 6 + i) else none) (n := 6) (fs := [vi_ 0, vi_ 0, vi_ 0, vi_ 0, vi_ 0]) (by
        show (nh_ H q (6 - (r + 1))).2.2.1 9 (q + 5) = _
        simp [nh_]) (by omega) (by omega) (by
        rw [nw_o4, if_pos ⟨rfl, e1.symm⟩]), nI_1, show 6 - (r + 1) + 1 = 6 - r by omega]
    have eh : hc_up (hc_nw (nh_ H q (6 - (r + 1))) (.inr (.inr (4, [vi_ 0, vi_ 0, vi_ 0, vi_ 0, vi_ 0])))) (q + 5) (.inr (.inl (9, 6, va_up (fun i => if i < 6 - (r + 1) then some (q + 6 + i) else none) (6 - (r + 1)) (some (q + 6 + (6 - (r + 1))))))) = nh_ H q (6 - r) := by
      refine hc_ext ?_ (fun _ _ => rfl) (fun k a => ?_) (fun k a => ?_)
      · show q + 6 + (6 - (r + 1)) + 1 = q + 6 + (6 - r)
        omega
      · show (if k = 9 ∧ a = q + 5 then _ else if k = 9 ∧ a = q + 5 then _ else H.2.2.1 k a) = if k = 9 ∧ a = q + 5 then _ else H.2.2.1 k a
        by_cases c : k = 9 ∧ a = q + 5
        · rw [if_pos c, if_pos c]
          refine congrArg some (Prod.ext rfl (funext fun i => ?_))
          show va_up (fun i => if i < 6 - (r + 1) then some (q + 6 + i) else none) (6 - (r + 1)) (some (q + 6 + (6 - (r + 1)))) i = if i < 6 - r then some (q + 6 + i) else none
          simp only [va_up]
          by_cases ci : i = 6 - (r + 1)
          · rw [if_pos ci, if_pos (by omega), ci]
          · rw [if_neg ci]
            by_cases cj : i < 6 - (r + 1)
            · rw [if_pos cj, if_pos (by omega)]
            · rw [if_neg cj, if_neg (by omega)]
        · rw [if_neg c, if_neg c, if_neg c]
      · show (if k = 4 ∧ a = q + 6 + (6 - (r + 1)) then _ else if k = 3 ∧ a = q then _ else if k = 4 ∧ q + 6 ≤ a ∧ a < q + 6 + (6 - (r + 1)) then _ else H.2.2.2 k a) = if k = 3 ∧ a = q then _ else if k = 4 ∧ q + 6 ≤ a ∧ a < q + 6 + (6 - r) then _ else H.2.2.2 k a
        by_cases c : k = 4 ∧ a = q + 6 + (6 - (r + 1))
        · rw [if_pos c, if_neg (by omega), if_pos (by omega)]; rfl
        · rw [if_neg c]
          by_cases c3 : k = 3 ∧ a = q
          · rw [if_pos c3, if_pos c3]
          · rw [if_neg c3, if_neg c3]
            by_cases c4 : k = 4 ∧ q + 6 ≤ a ∧ a < q + 6 + (6 - (r + 1))
            · rw [if_pos c4, if_pos (by omega)]
            · rw [if_neg c4, if_neg (by omega)]
    rw [eh, ih u (by omega) (by omega), hm_tk_tk]
    congr 1 <;> omega
theorem s_newF {β : Type} (H : hc_H) (kont : Nat → hM β) : (hm_bind (hm_new 3 11 [vi_ 0, vi_ 0, vi_ 0, vi_ 0, vi_ 0, vi_ 0, vr_ none, vr_ none, vr_ none, vr_ none, vr_ none]) fun q4 => hm_bind (p_Function_init (some q4)) fun _ => kont q4) H = hm_tk 12 1647 (kont H.1 (fn_em (H.1 + 12, H.2) H.1 F0_)) := by
  have e400 : (400 : Int32) = nI 400 := rfl
  have e6 : (6 : Int32) = nI 6 := rfl
  have init : p_Function_init (some H.1) (hc_nw H (.inr (.inr (3, [vi_ 0, vi_ 0, vi_ 0, vi_ 0, vi_ 0, vi_ 0, vr_ none, vr_ none, vr_ none, vr_ none, vr_ none])))) = some ((), 11, 1636, fn_em (H.1 + 12, H.2) H.1 F0_) := by
    rw [oE_nw, p_Function_init]
    unfold hm_putr hm_puti
    rw [e400, e6, oE_newi _ _ _ _ _ _ (by omega), oE_put _ _ _ _ _ _ (Nat.le_of_ble_eq_true rfl), oE_newi _ _ _ _ _ _ (by omega), oE_put _ _ _ _ _ _ (Nat.le_of_ble_eq_true rfl), oE_newi _ _ _ _ _ _ (by omega), oE_put _ _ _ _ _ _ (Nat.le_of_ble_eq_true rfl), oE_newi _ _ _ _ _ _ (by omega), oE_put _ _ _ _ _ _ (Nat.le_of_ble_eq_true rfl), oE_newq _ _ _ _ _ _ (by omega), oE_put _ _ _ _ _ _ (Nat.le_of_ble_eq_true rfl), oE_put _ _ _ _ _ _ (Nat.le_of_ble_eq_true rfl), bd_getr, ev_fld, oE_o]
    show hm_tk 1 400 (hm_tk 1 400 (hm_tk 1 400 (hm_tk 1 400 (hm_tk 1 6 (hm_bind (hm_ist 0 (some (H.1 + 1)) 0 27) _ _))))) = _
    have i0 : ∀ fs, (oE_ (hc_nw (hc_nw (hc_nw (hc_nw (hc_nw (H.1 + 1, H.2) (.inl (0, 400, fun _ => 0))) (.inl (1, 400, fun _ => 0))) (.inl (2, 400, fun _ => 0))) (.inl (3, 400, fun _ => 0))) (.inr (.inl (9, 6, fun _ => none)))) 3 H.1 fs).2.1 0 (H.1 + 1) = some (400, fun _ => 0) := by
      intro fs
      show (hc_nw (hc_nw (hc_nw (hc_nw (H.1 + 1, H.2) (.inl (0, 400, fun _ => 0))) (.inl (1, 400, fun _ => 0))) (.inl (2, 400, fun _ => 0))) (.inl (3, 400, fun _ => 0))).2.1 0 (H.1 + 1) = _
      rw [nw_i2, if_neg (fun z => by cases z.1), nw_i2, if_neg (fun z => by cases z.1), nw_i2, if_neg (fun z => by cases z.1), nw_i2, if_pos ⟨rfl, rfl⟩]
    rw [bd_ist, i0]
    dsimp only
    rw [if_neg (show ¬ ((0 : Int32) < 0 ∨ 400 ≤ (0 : Int32).toNatClampNeg) by decide)]
    have eh : hc_up (oE_ (hc_nw (hc_nw (hc_nw (hc_nw (hc_nw (H.1 + 1, H.2) (.inl (0, 400, fun _ => 0))) (.inl (1, 400, fun _ => 0))) (.inl (2, 400, fun _ => 0))) (.inl (3, 400, fun _ => 0))) (.inr (.inl (9, 6, fun _ => none)))) 3 H.1 (fn_fs H.1 F0_.1)) (H.1 + 1) (.inl (0, 400, va_up (fun _ => 0) (0 : Int32).toNatClampNeg 27)) = nr_ H H.1 := by
      refine hc_ext rfl (fun k a => ?_) (fun k a => rfl) (fun k a => rfl)
      show (if k = 0 ∧ a = H.1 + 1 then _ else if k = 3 ∧ a = H.1 + 4 then _ else if k = 2 ∧ a = H.1 + 3 then _ else if k = 1 ∧ a = H.1 + 2 then _ else if k = 0 ∧ a = H.1 + 1 then _ else H.2.1 k a) = if k < 4 ∧ a = H.1 + (k + 1) then _ else H.2.1 k a
      by_cases c0 : k = 0 ∧ a = H.1 + 1
      · rw [if_pos c0, if_pos (by omega), c0.1]; rfl
      · rw [if_neg c0]
        by_cases c3 : k = 3 ∧ a = H.1 + 4
        · rw [if_pos c3, if_pos (by omega), c3.1]; rfl
        · rw [if_neg c3]
          by_cases c2 : k = 2 ∧ a = H.1 + 3
          · rw [if_pos c2, if_pos (by omega), c2.1]; rfl
          · rw [if_neg c2]
            by_cases c1 : k = 1 ∧ a = H.1 + 2
            · rw [if_pos c1, if_pos (by omega), c1.1]; rfl
            · rw [if_neg c1, if_neg c0, if_neg (by omega)]
    have loop := s_handlers_64 H H.1 (hm_ret ()) 6 hm_fuel (by omega) (by unfold hm_fuel; omega)
    rw [Nat.sub_self, ← nh_0, nh_6, ev_ret] at loop
    have loop : p_Function_init_64 (some H.1) (hm_ret ()) hm_fuel 0 (nr_ H H.1) = _ := loop
    have fin : p_Function_init_64 (some H.1) (hm_ret ()) hm_fuel 0 (hc_up (oE_ (hc_nw (hc_nw (hc_nw (hc_nw (hc_nw (H.1 + 1, H.2) (.inl (0, 400, fun _ => 0))) (.inl (1, 400, fun _ => 0))) (.inl (2, 400, fun _ => 0))) (.inl (3, 400, fun _ => 0))) (.inr (.inl (9, 6, fun _ => none)))) 3 H.1 (fn_fs H.1 F0_.1)) (H.1 + 1) (.inl (0, 400, va_up (fun _ => 0) (0 : Int32).toNatClampNeg 27))) = some ((), 6, 30, fn_em (H.1 + 12, H.2) H.1 F0_) := by
      rw [eh, loop]; rfl
    refine Eq.trans (congrArg (fun z => hm_tk 1 400 (hm_tk 1 400 (hm_tk 1 400 (hm_tk 1 400 (hm_tk 1 6 z))))) fin) ?_
    rfl
  rw [bd_new, bd_ok init, hm_tk_tk]
