/-! CALLS: look, function, handler, code -/
def ex_ (P : Nat → Bool) : Nat → Nat → Bool
  | 0, _ => false
  | r + 1, i => P i || ex_ P r (i + 1)
def fo_ (s : Int32 → Nat → Int32) : Nat → Nat → Int32 → Int32
  | 0, _, v => v
  | r + 1, i, v => fo_ s r (i + 1) (s v i)
theorem ex_congr {P Q : Nat → Bool} : ∀ (r i : Nat), (∀ j, i ≤ j → j < i + r → P j = Q j) → ex_ P r i = ex_ Q r i
  | 0, _, _ => rfl
  | r + 1, i, h => by
    rw [ex_, ex_, h i (Nat.le_refl _) (by omega), ex_congr r (i + 1) (fun j h1 h2 => h j (by omega) (by omega))]
theorem fo_congr {s t : Int32 → Nat → Int32} : ∀ (r i : Nat) (v : Int32), (∀ v j, i ≤ j → j < i + r → s v j = t v j) → fo_ s r i v = fo_ t r i v
  | 0, _, _, _ => rfl
  | r + 1, i, v, h => by
    rw [fo_, fo_, h v i (Nat.le_refl _) (by omega), fo_congr r (i + 1) _ (fun v j h1 h2 => h v j (by omega) (by omega))]
section LKC
variable {H : hc_H} {q n hn : Nat} {F : fc_}
theorem s_gone_2 (R : fnR H q F) (e4 : F.1 4 = nI n) (h4 : n ≤ 400) (x : Int32) (kx : hM Int32) : ∀ (r fu : Nat), r ≤ n → r < fu → p_Function_isGoneTo_2 (some q) x kx fu (nI (n - r)) H = if ex_ (fun i => decide (F.2.1 0 i = 18 ∨ F.2.1 0 i = 19 ∨ F.2.1 0 i = 20) && decide (F.2.1 1 i = x)) r (n - r) = true then some (1, 0, 0, H) else kx H := by
  intro r
  induction r with
  | zero =>
    intro fu _ hf
    obtain ⟨u, rfl⟩ : ∃ u, fu = u + 1 := ⟨fu - 1, by omega⟩
    rw [p_Function_isGoneTo_2, fr_get4 R, e4, ev_ite, if_pos (nI_le (by omega) (by omega)), ex_, if_neg (by decide)]
  | succ r ih =>
    intro fu hr hf
    obtain ⟨u, rfl⟩ : ∃ u, fu = u + 1 := ⟨fu - 1, by omega⟩
    have hin : ¬ (nI (n - (r + 1)) < 0 ∨ 400 ≤ (nI (n - (r + 1))).toNatClampNeg) := nI_in (by omega) (by omega)
    have hcl : (nI (n - (r + 1))).toNatClampNeg = n - (r + 1) := nI_clamp (by omega)
    rw [p_Function_isGoneTo_2, fr_get4 R, e4, ev_ite, if_neg (nI_ge (by omega) (by omega)), fr_ref6 R, fr_ild0 R, if_neg hin, hcl, bd_0 (s_goesToPlace _ _)]
    simp only [hm_jn]
    rw [nI_1, show n - (r + 1) + 1 = n - r by omega, ex_, show n - (r + 1) + 1 = n - r by omega, ev_ite]
    by_cases c : F.2.1 0 (n - (r + 1)) = 18 ∨ F.2.1 0 (n - (r + 1)) = 19 ∨ F.2.1 0 (n - (r + 1)) = 20
    · rw [if_pos c, if_neg (show ¬ (1 : Int32) = 0 by decide), fr_ref7 R, fr_ild1 R, if_neg hin, hcl, ev_ite, decide_eq_true c, Bool.true_and]
      by_cases d : F.2.1 1 (n - (r + 1)) = x
      · rw [if_pos d, decide_eq_true d, Bool.true_or, if_pos rfl, ev_z1]
      · rw [if_neg d, decide_eq_false d, Bool.false_or, ih u (by omega) (by omega)]
    · rw [if_neg c, if_pos rfl, decide_eq_false c, Bool.false_and, Bool.false_or, ih u (by omega) (by omega)]
theorem s_gone_42 (R : fnR H q F) (e5 : F.1 5 = nI hn) (h6 : hn ≤ 6) (x : Int32) (kx : hM Int32) : ∀ (r fu : Nat), r ≤ hn → r < fu → p_Function_isGoneTo_42 (some q) x kx fu (nI (hn - r)) H = if ex_ (fun i => decide (F.2.2 i 2 = x)) r (hn - r) = true then some (1, 0, 0, H) else kx H := by
  intro r
  induction r with
  | zero =>
    intro fu _ hf
    obtain ⟨u, rfl⟩ : ∃ u, fu = u + 1 := ⟨fu - 1, by omega⟩
    rw [p_Function_isGoneTo_42, fr_get5 R, e5, ev_ite, if_pos (nI_le (by omega) (by omega)), ex_, if_neg (by decide)]
  | succ r ih =>
    intro fu hr hf
    obtain ⟨u, rfl⟩ : ∃ u, fu = u + 1 := ⟨fu - 1, by omega⟩
    rw [p_Function_isGoneTo_42, fr_get5 R, e5, ev_ite, if_neg (nI_ge (by omega) (by omega)), fr_ref10 R, fr_qld R _ (by omega), fr_h2 R _ (by omega), nI_1, show hn - (r + 1) + 1 = hn - r by omega, ex_, show hn - (r + 1) + 1 = hn - r by omega, ev_ite]
    by_cases d : F.2.2 (hn - (r + 1)) 2 = x
    · rw [if_pos d, decide_eq_true d, Bool.true_or, if_pos rfl, ev_z1]
    · rw [if_neg d, decide_eq_false d, Bool.false_or, ih u (by omega) (by omega)]
def gone_ (F : fc_) (n hn : Nat) (x : Int32) : Bool := ex_ (fun i => decide (F.2.1 0 i = 18 ∨ F.2.1 0 i = 19 ∨ F.2.1 0 i = 20) && decide (F.2.1 1 i = x)) n 0 || ex_ (fun i => decide (F.2.2 i 2 = x)) hn 0
theorem s_gone (R : fnR H q F) (e4 : F.1 4 = nI n) (h4 : n ≤ 400) (e5 : F.1 5 = nI hn) (h6 : hn ≤ 6) (x : Int32) : p_Function_isGoneTo (some q) x H = some (if gone_ F n hn x = true then 1 else 0, 0, 0, H) := by
  have k1 := s_gone_2 R e4 h4 x (p_Function_isGoneTo_42 (some q) x (hm_z 0) hm_fuel 0) n hm_fuel (Nat.le_refl _) (by unfold hm_fuel; omega)
  have k2 := s_gone_42 R e5 h6 x (hm_z 0) hn hm_fuel (Nat.le_refl _) (by unfold hm_fuel; omega)
  rw [Nat.sub_self] at k1 k2
  rw [p_Function_isGoneTo]
  refine Eq.trans k1 ?_
  have k2 : p_Function_isGoneTo_42 (some q) x (hm_z 0) hm_fuel 0 H = _ := k2
  rw [k2, gone_]
  cases ex_ (fun i => decide (F.2.1 0 i = 18 ∨ F.2.1 0 i = 19 ∨ F.2.1 0 i = 20) && decide (F.2.1 1 i = x)) n 0 with
  | true => rw [if_pos rfl, Bool.true_or, if_pos rfl]
  | false =>
    rw [if_neg (by decide), Bool.false_or]
    cases ex_ (fun i => decide (F.2.2 i 2 = x)) hn 0 with
    | true => rw [if_pos rfl, if_pos rfl]
    | false => rw [if_neg (by decide), if_neg (by decide), ev_z0]
theorem s_come_4 (R : fnR H q F) (e4 : F.1 4 = nI n) (h4 : n ≤ 400) (kx : Int32 → hM Int32) : ∀ (r fu : Nat) (v : Int32), r ≤ n → r < fu → p_Function_comeTo_4 (some q) kx fu v (nI (n - r)) H = kx (fo_ (fun v i => if F.2.1 2 i = -1 then v else v + 1) r (n - r) v) H := by
  intro r
  induction r with
  | zero =>
    intro fu v _ hf
    obtain ⟨u, rfl⟩ : ∃ u, fu = u + 1 := ⟨fu - 1, by omega⟩
    rw [p_Function_comeTo_4, fr_get4 R, e4, ev_ite, if_pos (nI_le (by omega) (by omega)), fo_]
  | succ r ih =>
    intro fu v hr hf
    obtain ⟨u, rfl⟩ : ∃ u, fu = u + 1 := ⟨fu - 1, by omega⟩
    have hin : ¬ (nI (n - (r + 1)) < 0 ∨ 400 ≤ (nI (n - (r + 1))).toNatClampNeg) := nI_in (by omega) (by omega)
    have hcl : (nI (n - (r + 1))).toNatClampNeg = n - (r + 1) := nI_clamp (by omega)
    rw [p_Function_comeTo_4, fr_get4 R, e4, ev_ite, if_neg (nI_ge (by omega) (by omega)), fr_ref8 R, fr_ild2 R, if_neg hin, hcl]
    simp only [hm_jn]
    rw [nI_1, show n - (r + 1) + 1 = n - r by omega, fo_, show n - (r + 1) + 1 = n - r by omega, ev_ite]
    by_cases d : F.2.1 2 (n - (r + 1)) = -1
    · rw [if_pos d, if_pos d, ih u _ (by omega) (by omega)]
    · rw [if_neg d, if_neg d, ih u _ (by omega) (by omega)]
theorem s_come (R : fnR H q F) (e4 : F.1 4 = nI n) (h4 : n ≤ 400) : p_Function_comeTo (some q) H = some (fo_ (fun v i => if F.2.1 2 i = -1 then v else v + 1) n 0 0, 0, 0, H) := by
  have k := s_come_4 R e4 h4 (fun v => hm_ret v) n hm_fuel 0 (Nat.le_refl _) (by unfold hm_fuel; omega)
  rw [Nat.sub_self] at k
  rw [p_Function_comeTo]
  exact Eq.trans k (ev_ret _ _)
theorem s_deep_4 (R : fnR H q F) (e4 : F.1 4 = nI n) (h4 : n ≤ 400) (kx : Int32 → hM Int32) : ∀ (r fu : Nat) (v : Int32), r ≤ n → r < fu → p_Function_deepest_4 (some q) kx fu v (nI (n - r)) H = kx (fo_ (fun v i => if v < F.2.1 2 i then F.2.1 2 i else v) r (n - r) v) H := by
  intro r
  induction r with
  | zero =>
    intro fu v _ hf
    obtain ⟨u, rfl⟩ : ∃ u, fu = u + 1 := ⟨fu - 1, by omega⟩
    rw [p_Function_deepest_4, fr_get4 R, e4, ev_ite, if_pos (nI_le (by omega) (by omega)), fo_]
  | succ r ih =>
    intro fu v hr hf
    obtain ⟨u, rfl⟩ : ∃ u, fu = u + 1 := ⟨fu - 1, by omega⟩
    have hin : ¬ (nI (n - (r + 1)) < 0 ∨ 400 ≤ (nI (n - (r + 1))).toNatClampNeg) := nI_in (by omega) (by omega)
    have hcl : (nI (n - (r + 1))).toNatClampNeg = n - (r + 1) := nI_clamp (by omega)
    rw [p_Function_deepest_4, fr_get4 R, e4, ev_ite, if_neg (nI_ge (by omega) (by omega)), fr_ref8 R, fr_ild2 R, if_neg hin, hcl, nI_1, show n - (r + 1) + 1 = n - r by omega, fo_, show n - (r + 1) + 1 = n - r by omega, ih u _ (by omega) (by omega)]
theorem s_deep (R : fnR H q F) (e4 : F.1 4 = nI n) (h4 : n ≤ 400) : p_Function_deepest (some q) H = some (fo_ (fun v i => if v < F.2.1 2 i then F.2.1 2 i else v) n 0 0, 0, 0, H) := by
  have k := s_deep_4 R e4 h4 (fun v => hm_ret v) n hm_fuel 0 (Nat.le_refl _) (by unfold hm_fuel; omega)
  rw [Nat.sub_self] at k
  rw [p_Function_deepest]
  exact Eq.trans k (ev_ret _ _)
end LKC
theorem s_insts_4 {H : hc_H} {a n : Nat} {fq : Nat → Option Nat} {FA : Nat → fc_} (D : dsR H a n fq FA) (h12 : n ≤ 12) (hs : ∀ i, i < n → ∃ q, fq i = some q) (kx : Int32 → hM Int32) : ∀ (r fu : Nat) (v : Int32), r ≤ n → r < fu → p_Program_instructions_4 (some a) kx fu v (nI (n - r)) H = kx (fo_ (fun v i => v + (FA i).1 4) r (n - r) v) H := by
  intro r
  induction r with
  | zero =>
    intro fu v _ hf
    obtain ⟨u, rfl⟩ : ∃ u, fu = u + 1 := ⟨fu - 1, by omega⟩
    rw [p_Program_instructions_4, pr_get1 D.1, ev_ite, if_pos (nI_le (by omega) (by omega)), fo_]
  | succ r ih =>
    intro fu v hr hf
    obtain ⟨u, rfl⟩ : ∃ u, fu = u + 1 := ⟨fu - 1, by omega⟩
    obtain ⟨q, hq⟩ := hs (n - (r + 1)) (by omega)
    have R := (D.2.2 (n - (r + 1)) q (by omega) hq).1
    rw [p_Program_instructions_4, pr_get1 D.1, ev_ite, if_neg (nI_ge (by omega) (by omega)), pr_ref0 D.1, pr_qld D.1 _ (by omega), hq, fr_get4 R, nI_1, show n - (r + 1) + 1 = n - r by omega, fo_, show n - (r + 1) + 1 = n - r by omega, ih u _ (by omega) (by omega)]
theorem s_insts {H : hc_H} {a n : Nat} {fq : Nat → Option Nat} {FA : Nat → fc_} (D : dsR H a n fq FA) (h12 : n ≤ 12) (hs : ∀ i, i < n → ∃ q, fq i = some q) : p_Program_instructions (some a) H = some (fo_ (fun v i => v + (FA i).1 4) n 0 0, 0, 0, H) := by
  have k := s_insts_4 D h12 hs (fun v => hm_ret v) n hm_fuel 0 (Nat.le_refl _) (by unfold hm_fuel; omega)
  rw [Nat.sub_self] at k
  rw [p_Program_instructions]
  exact Eq.trans k (ev_ret _ _)
section LKM
variable (h : hc_H) (m : Nat) (sc : Nat → Int32) (ar : Nat → Nat → Int32)
theorem s_Mo_codes_4 {n : Nat} (e : ar 12 0 = nI n) (h12 : n ≤ 12) (kx : Int32 → hM Int32) : ∀ (r fu : Nat) (v : Int32), r ≤ n → r < fu → p_Mo_codes_4 (some m) kx fu v (nI (n - r)) (mo_em h m sc ar) = kx (fo_ (fun v i => v + ar 17 i) r (n - r) v) (mo_em h m sc ar) := by
  intro r
  have h0 : ¬ ((0 : Int32) < 0 ∨ 2 ≤ (0 : Int32).toNatClampNeg) := by decide
  induction r with
  | zero =>
    intro fu v _ hf
    obtain ⟨u, rfl⟩ : ∃ u, fu = u + 1 := ⟨fu - 1, by omega⟩
    rw [p_Mo_codes_4, mo_ref9, mo_ild12, if_neg h0, show (0 : Int32).toNatClampNeg = 0 by decide, e, ev_ite, if_pos (nI_le (by omega) (by omega)), fo_]
  | succ r ih =>
    intro fu v hr hf
    obtain ⟨u, rfl⟩ : ∃ u, fu = u + 1 := ⟨fu - 1, by omega⟩
    have hin : ¬ (nI (n - (r + 1)) < 0 ∨ 24 ≤ (nI (n - (r + 1))).toNatClampNeg) := nI_in (by omega) (by omega)
    have hcl : (nI (n - (r + 1))).toNatClampNeg = n - (r + 1) := nI_clamp (by omega)
    rw [p_Mo_codes_4, mo_ref9, mo_ild12, if_neg h0, show (0 : Int32).toNatClampNeg = 0 by decide, e, ev_ite, if_neg (nI_ge (by omega) (by omega)), mo_ref14, mo_ild17, if_neg hin, hcl, nI_1, show n - (r + 1) + 1 = n - r by omega, fo_, show n - (r + 1) + 1 = n - r by omega, ih u _ (by omega) (by omega)]
theorem s_Mo_codes {n : Nat} (e : ar 12 0 = nI n) (h12 : n ≤ 12) : p_Mo_codes (some m) (mo_em h m sc ar) = some (fo_ (fun v i => v + ar 17 i) n 0 0, 0, 0, mo_em h m sc ar) := by
  have k := s_Mo_codes_4 h m sc ar e h12 (fun v => hm_ret v) n hm_fuel 0 (Nat.le_refl _) (by unfold hm_fuel; omega)
  rw [Nat.sub_self] at k
  rw [p_Mo_codes]
  exact Eq.trans k (ev_ret _ _)
theorem s_Mo_isF {n : Nat} (e : ar 12 0 = nI n) (x : Int32) : p_Mo_isFunction (some m) x (mo_em h m sc ar) = some (if x < 0 ∨ nI n ≤ x then 0 else 1, 0, 0, mo_em h m sc ar) := by
  have h0 : ¬ ((0 : Int32) < 0 ∨ 2 ≤ (0 : Int32).toNatClampNeg) := by decide
  rw [p_Mo_isFunction, ev_ite]
  by_cases c : x < 0
  · rw [if_pos c, if_pos (Or.inl c), ev_z0]
  · rw [if_neg c, mo_ref9, mo_ild12, if_neg h0, show (0 : Int32).toNatClampNeg = 0 by decide, e, ev_ite]
    by_cases d : nI n ≤ x
    · rw [if_pos d, if_pos (Or.inr d), ev_z0]
    · rw [if_neg d, if_neg (fun z => z.elim c d), ev_z1]
theorem ix400 (g i : Nat) : (400 * nI g) + nI i = nI (400 * g + i) := by rw [show (400 : Int32) = nI 400 by decide, pk_mul, nI_add]
theorem ix6 (g i : Nat) : (6 * nI g) + nI i = nI (6 * g + i) := by rw [show (6 : Int32) = nI 6 by decide, pk_mul, nI_add]
theorem s_Mo_known_8 {g n : Nat} (hg : g < 12) (h4 : n ≤ 400) (e : ar 17 g = nI n) (x : Int32) (kx : Int32 → Int32 → hM Int32) : ∀ (r fu : Nat) (v w : Int32), r ≤ n → r < fu → p_Mo_known_8 (some m) (nI g) x kx fu v w (nI (n - r)) (mo_em h m sc ar) = kx (fo_ (fun v i => v + if ar 26 (400 * g + i) < 0 then 0 else 1) r (n - r) v) (fo_ (fun v i => if ar 26 (400 * g + i) ≤ v then v else ar 26 (400 * g + i)) r (n - r) w) (mo_em h m sc ar) := by
  intro r
  have hin1 : ¬ (nI g < 0 ∨ 24 ≤ (nI g).toNatClampNeg) := nI_in (by omega) (by omega)
  have hcl1 : (nI g).toNatClampNeg = g := nI_clamp (by omega)
  induction r with
  | zero =>
    intro fu v w _ hf
    obtain ⟨u, rfl⟩ : ∃ u, fu = u + 1 := ⟨fu - 1, by omega⟩
    rw [p_Mo_known_8, mo_ref14, mo_ild17, if_neg hin1, hcl1, e, ev_ite, if_pos (nI_le (by omega) (by omega)), fo_, fo_]
  | succ r ih =>
    intro fu v w hr hf
    obtain ⟨u, rfl⟩ : ∃ u, fu = u + 1 := ⟨fu - 1, by omega⟩
    have hin : ¬ (nI (400 * g + (n - (r + 1))) < 0 ∨ 9600 ≤ (nI (400 * g + (n - (r + 1)))).toNatClampNeg) := nI_in (by omega) (by omega)
    have hcl : (nI (400 * g + (n - (r + 1)))).toNatClampNeg = 400 * g + (n - (r + 1)) := nI_clamp (by omega)
    rw [p_Mo_known_8, mo_ref14, mo_ild17, if_neg hin1, hcl1, e, ev_ite, if_neg (nI_ge (by omega) (by omega)), ix400, mo_ref23, mo_ild26, if_neg hin, hcl]
    simp only [hm_jn]
    rw [nI_1, show n - (r + 1) + 1 = n - r by omega, fo_, fo_, show n - (r + 1) + 1 = n - r by omega, ev_ite]
    by_cases c : ar 26 (400 * g + (n - (r + 1))) < 0
    · rw [if_pos c, if_pos c, ev_ite]
      by_cases d : ar 26 (400 * g + (n - (r + 1))) ≤ w
      · rw [if_pos d, if_pos d, ih u _ _ (by omega) (by omega)]
      · rw [if_neg d, if_neg d, ih u _ _ (by omega) (by omega)]
    · rw [if_neg c, if_neg c, ev_ite]
      by_cases d : ar 26 (400 * g + (n - (r + 1))) ≤ w
      · rw [if_pos d, if_pos d, ih u _ _ (by omega) (by omega)]
      · rw [if_neg d, if_neg d, ih u _ _ (by omega) (by omega)]
theorem s_Mo_known {g n : Nat} (hg : g < 12) (h4 : n ≤ 400) (e : ar 17 g = nI n) (x : Int32) : p_Mo_known (some m) (nI g) x (mo_em h m sc ar) = some (if x = 0 then fo_ (fun v i => v + if ar 26 (400 * g + i) < 0 then 0 else 1) n 0 0 else fo_ (fun v i => if ar 26 (400 * g + i) ≤ v then v else ar 26 (400 * g + i)) n 0 0, 0, 0, mo_em h m sc ar) := by
  have k := s_Mo_known_8 h m sc ar hg h4 e x (fun v w => if x = 0 then hm_ret v else hm_ret w) n hm_fuel 0 0 (Nat.le_refl _) (by unfold hm_fuel; omega)
  rw [Nat.sub_self] at k
  rw [p_Mo_known]
  refine Eq.trans k ?_
  rw [ev_ite]
  by_cases c : x = 0
  · rw [if_pos c, if_pos c, ev_ret]
  · rw [if_neg c, if_neg c, ev_ret]
theorem s_Mo_goal_5 {g n : Nat} (hg : g < 12) (h4 : n ≤ 400) (e : ar 17 g = nI n) (x : Int32) (kx : Int32 → hM Int32) : ∀ (r fu : Nat) (v : Int32), r ≤ n → r < fu → p_Mo_isGoal_5 (some m) (nI g) x kx fu v (nI (n - r)) (mo_em h m sc ar) = kx (if ex_ (fun i => decide (17 < ar 19 (400 * g + i) ∧ ar 19 (400 * g + i) < 21) && decide (ar 20 (400 * g + i) = x)) r (n - r) = true then 1 else v) (mo_em h m sc ar) := by
  intro r
  have hin1 : ¬ (nI g < 0 ∨ 24 ≤ (nI g).toNatClampNeg) := nI_in (by omega) (by omega)
  have hcl1 : (nI g).toNatClampNeg = g := nI_clamp (by omega)
  induction r with
  | zero =>
    intro fu v _ hf
    obtain ⟨u, rfl⟩ : ∃ u, fu = u + 1 := ⟨fu - 1, by omega⟩
    rw [p_Mo_isGoal_5, mo_ref14, mo_ild17, if_neg hin1, hcl1, e, ev_ite, if_pos (nI_le (by omega) (by omega)), ex_, if_neg (by decide)]
  | succ r ih =>
    intro fu v hr hf
    obtain ⟨u, rfl⟩ : ∃ u, fu = u + 1 := ⟨fu - 1, by omega⟩
    have hin : ¬ (nI (400 * g + (n - (r + 1))) < 0 ∨ 9600 ≤ (nI (400 * g + (n - (r + 1)))).toNatClampNeg) := nI_in (by omega) (by omega)
    have hcl : (nI (400 * g + (n - (r + 1)))).toNatClampNeg = 400 * g + (n - (r + 1)) := nI_clamp (by omega)
    have ih1 : ∀ (b : Bool), (if ex_ (fun i => decide (17 < ar 19 (400 * g + i) ∧ ar 19 (400 * g + i) < 21) && decide (ar 20 (400 * g + i) = x)) r (n - r) = true then 1 else (1 : Int32)) = 1 := fun b => ite_self _
    rw [p_Mo_isGoal_5, mo_ref14, mo_ild17, if_neg hin1, hcl1, e, ev_ite, if_neg (nI_ge (by omega) (by omega)), ix400, mo_ref16, mo_ild19, if_neg hin, hcl]
    simp only [hm_jn]
    rw [nI_1, show n - (r + 1) + 1 = n - r by omega, ex_, show n - (r + 1) + 1 = n - r by omega, ev_ite]
    by_cases c : ar 19 (400 * g + (n - (r + 1))) ≤ 17
    · rw [if_pos c, decide_eq_false (fun z : 17 < ar 19 (400 * g + (n - (r + 1))) ∧ ar 19 (400 * g + (n - (r + 1))) < 21 => absurd z.1 (Int32.not_lt.mpr c)), Bool.false_and, Bool.false_or, ih u _ (by omega) (by omega)]
    · rw [if_neg c, ev_ite]
      by_cases d : 21 ≤ ar 19 (400 * g + (n - (r + 1)))
      · rw [if_pos d, decide_eq_false (fun z : 17 < ar 19 (400 * g + (n - (r + 1))) ∧ ar 19 (400 * g + (n - (r + 1))) < 21 => absurd z.2 (Int32.not_lt.mpr d)), Bool.false_and, Bool.false_or, ih u _ (by omega) (by omega)]
      · rw [if_neg d, mo_ref17, mo_ild20, if_neg hin, hcl, ev_ite, decide_eq_true (⟨Int32.not_le.mp c, Int32.not_le.mp d⟩ : 17 < ar 19 (400 * g + (n - (r + 1))) ∧ ar 19 (400 * g + (n - (r + 1))) < 21), Bool.true_and]
        by_cases b : ar 20 (400 * g + (n - (r + 1))) = x
        · rw [if_pos b, decide_eq_true b, Bool.true_or, if_pos rfl, ih u _ (by omega) (by omega), ite_self]
        · rw [if_neg b, decide_eq_false b, Bool.false_or, ih u _ (by omega) (by omega)]
theorem s_Mo_goal_80 {g hn : Nat} (hg : g < 12) (h6 : hn ≤ 6) (e : ar 18 g = nI hn) (x : Int32) (kx : Int32 → hM Int32) : ∀ (r fu : Nat) (v : Int32), r ≤ hn → r < fu → p_Mo_isGoal_80 (some m) (nI g) x kx fu v (nI (6 * g + (hn - r))) (mo_em h m sc ar) = kx (if ex_ (fun i => decide (ar 23 (6 * g + i) = x)) r (hn - r) = true then 1 else v) (mo_em h m sc ar) := by
  intro r
  have hin1 : ¬ (nI g < 0 ∨ 24 ≤ (nI g).toNatClampNeg) := nI_in (by omega) (by omega)
  have hcl1 : (nI g).toNatClampNeg = g := nI_clamp (by omega)
  induction r with
  | zero =>
    intro fu v _ hf
    obtain ⟨u, rfl⟩ : ∃ u, fu = u + 1 := ⟨fu - 1, by omega⟩
    rw [p_Mo_isGoal_80, mo_ref15, mo_ild18, if_neg hin1, hcl1, e, ix6, ev_ite, if_pos (nI_le (by omega) (by omega)), ex_, if_neg (by decide)]
  | succ r ih =>
    intro fu v hr hf
    obtain ⟨u, rfl⟩ : ∃ u, fu = u + 1 := ⟨fu - 1, by omega⟩
    have hin : ¬ (nI (6 * g + (hn - (r + 1))) < 0 ∨ 144 ≤ (nI (6 * g + (hn - (r + 1)))).toNatClampNeg) := nI_in (by omega) (by omega)
    have hcl : (nI (6 * g + (hn - (r + 1)))).toNatClampNeg = 6 * g + (hn - (r + 1)) := nI_clamp (by omega)
    rw [p_Mo_isGoal_80, mo_ref15, mo_ild18, if_neg hin1, hcl1, e, ix6, ev_ite, if_neg (nI_ge (by omega) (by omega)), mo_ref20, mo_ild23, if_neg hin, hcl]
    simp only [hm_jn]
    rw [nI_1, show 6 * g + (hn - (r + 1)) + 1 = 6 * g + (hn - r) by omega, ex_, show hn - (r + 1) + 1 = hn - r by omega, ev_ite]
    by_cases b : ar 23 (6 * g + (hn - (r + 1))) = x
    · rw [if_pos b, decide_eq_true b, Bool.true_or, if_pos rfl, ih u _ (by omega) (by omega), ite_self]
    · rw [if_neg b, decide_eq_false b, Bool.false_or, ih u _ (by omega) (by omega)]
theorem s_Mo_goal {g n hn : Nat} (hg : g < 12) (h4 : n ≤ 400) (e : ar 17 g = nI n) (h6 : hn ≤ 6) (e' : ar 18 g = nI hn) (x : Int32) : p_Mo_isGoal (some m) (nI g) x (mo_em h m sc ar) = some (if (ex_ (fun i => decide (17 < ar 19 (400 * g + i) ∧ ar 19 (400 * g + i) < 21) && decide (ar 20 (400 * g + i) = x)) n 0 || ex_ (fun i => decide (ar 23 (6 * g + i) = x)) hn 0) = true then 1 else 0, 0, 0, mo_em h m sc ar) := by
  have k1 := s_Mo_goal_5 h m sc ar hg h4 e x (fun v3_8 => p_Mo_isGoal_80 (some m) (nI g) x (fun v => hm_ret v) hm_fuel v3_8 (6 * nI g)) n hm_fuel 0 (Nat.le_refl _) (by unfold hm_fuel; omega)
  have k2 := s_Mo_goal_80 h m sc ar hg h6 e' x (fun v => hm_ret v) hn hm_fuel (if ex_ (fun i => decide (17 < ar 19 (400 * g + i) ∧ ar 19 (400 * g + i) < 21) && decide (ar 20 (400 * g + i) = x)) n 0 = true then 1 else 0) (Nat.le_refl _) (by unfold hm_fuel; omega)
  rw [Nat.sub_self] at k1 k2
  rw [p_Mo_isGoal]
  refine Eq.trans k1 ?_
  rw [show (6 : Int32) * nI g = nI (6 * g + 0) by rw [show (6 : Int32) = nI 6 by decide, pk_mul]; rfl, k2, ev_ret]
  cases ex_ (fun i => decide (17 < ar 19 (400 * g + i) ∧ ar 19 (400 * g + i) < 21) && decide (ar 20 (400 * g + i) = x)) n 0 with
  | true => rw [Bool.true_or, if_pos rfl, ite_self]
  | false => rw [Bool.false_or, if_neg (show ¬ false = true by decide)]
end LKM
