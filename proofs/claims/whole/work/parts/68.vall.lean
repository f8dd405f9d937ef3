/-! THE CLASS's VERIFIER: findLeastWaiting, begin, the turns of verify. -/
section VAL
variable (h : hc_H) (vf lt pa fq : Nat)
theorem s_find {F : fc_} {n : Nat} (R : fnR h fq F) (hn4 : n ≤ 400) (e4 : F.1 4 = nI n) (ft : Int32 × Int32) (s : s3_) (kx : hM Int32) : ∀ (r fu : Nat) (sc : Nat → Int32), r ≤ n → r < fu → sc 4 = nI (n - r) → p_Verifier_findLeastWaiting_0 (some vf) kx fu (E3_ h vf lt pa fq sc ft s) = kx (E3_ h vf lt pa fq (va_up sc 4 (nI ((lwf_ s.2.2 n r).getD n))) ft s) := by
  intro r
  induction r with
  | zero =>
    intro fu sc _ hf e
    obtain ⟨g, rfl⟩ : ∃ g, fu = g + 1 := ⟨fu - 1, by omega⟩
    have RE := fnR_ve R vf lt (some pa) (some fq) sc ft (va3_ s)
    rw [p_Verifier_findLeastWaiting_0, ve_get3, ve_ref5, fr_get4 RE, e4, e, ev_ite, if_pos (nI_le (by omega) (by omega)), lwf_]
    rw [sc_u4 (by rw [e]; rfl)]
  | succ r ih =>
    intro fu sc hr hf e
    obtain ⟨g, rfl⟩ : ∃ g, fu = g + 1 := ⟨fu - 1, by omega⟩
    have RE := fnR_ve R vf lt (some pa) (some fq) sc ft (va3_ s)
    have hin : ¬ (nI (n - (r + 1)) < 0 ∨ 400 ≤ (nI (n - (r + 1))).toNatClampNeg) := nI_in (by omega) (by omega)
    have hcl : (nI (n - (r + 1))).toNatClampNeg = n - (r + 1) := nI_clamp (by omega)
    rw [p_Verifier_findLeastWaiting_0, ve_get3, ve_ref5, fr_get4 RE, e4, e, ev_ite, if_neg (nI_ge (by omega) (by omega)), ve_ref2, ve_get3, e, ve_ild6, if_neg hin, hcl, va3_6, ev_ite, lwf_]
    by_cases c : s.2.2 (n - (r + 1)) = 0
    · rw [if_pos c, if_pos c, ve_get3, e, nI_1, ve_put3, ih g _ (by omega) (by omega) (by rw [va_up_self]; congr 1; omega), va_up2]
    · rw [if_neg c, if_neg c, sc_u4 (by rw [e]; rfl)]
/-- findLeastWaiting from the place w on: none waits, or the first that does, and no fault -/
theorem s_findM {F : fc_} {n w : Nat} (R : fnR h fq F) (hn4 : n ≤ 400) (e4 : F.1 4 = nI n) (hw : w ≤ n) (ft : Int32 × Int32) (s : s3_) (sc : Nat → Int32) (e : sc 4 = nI w) : p_Verifier_findLeastWaiting (some vf) (E3_ h vf lt pa fq sc ft s) = some (match lwf_ s.2.2 n (n - w) with | none => 0 | some _ => if ft.1 = 0 then 1 else 0, 0, 0, E3_ h vf lt pa fq (va_up sc 4 (nI ((lwf_ s.2.2 n (n - w)).getD n))) ft s) := by
  have RE := fun sc => fnR_ve R vf lt (some pa) (some fq) sc ft (va3_ s)
  rw [p_Verifier_findLeastWaiting, s_find h vf lt pa fq R hn4 e4 ft s _ (n - w) hm_fuel sc (by omega) (by unfold hm_fuel; omega) (by rw [e]; congr 1; omega), ve_get3, va_up_self, ve_ref5, fr_get4 (RE _), e4, ev_ite]
  cases el : lwf_ s.2.2 n (n - w) with
  | none =>
    simp only [Option.getD_none]
    rw [if_pos (nI_le (Nat.le_refl _) (by omega)), ev_z0]
  | some i =>
    obtain ⟨hi, -, -⟩ := lwf_some (n - w) (by omega) el
    simp only [Option.getD_some]
    rw [if_neg (nI_ge (by omega) (by omega)), ve_ref6, ve_fk, ev_ite]
    by_cases c : ft.1 = 0
    · rw [if_pos c, if_pos c, ev_z1]
    · rw [if_neg c, if_neg c, ev_z0]
theorem iv_of_ivw {n : Nat} {s : s3_} (h : ivw_ n s) {i : Nat} (hi : i < n) (hw : ¬ s.2.2 i = 0) : ∃ d, d ≤ 16 ∧ wf_ d (s.1 i, s.2.1 i) := by
  rcases h i hi with ⟨-, z⟩ | z
  · exact absurd z hw
  · exact z
theorem res_bt {x : Int32} (h : x = 0 ∨ x = 1 ∨ x = 2) (h0 : ¬ x = 0) : ∀ j, j < 32 → j ≠ 0 → bt (x - 1) j = false := by
  rcases h with e | e | e
  · exact absurd e h0
  · rw [e]; exact bt_0n
  · rw [e]; exact bt_1n
theorem ivw_off {n i : Nat} {s : s3_} (hI : ivw_ n s) : ivw_ n (s.1, s.2.1, va_up s.2.2 i 0) := by
  intro j hj
  rcases hI j hj with ⟨h1, h2⟩ | z
  · refine Or.inl ⟨h1, ?_⟩
    show va_up s.2.2 i 0 j = 0
    by_cases e : j = i
    · subst e; exact va_up_self _ _ _
    · rw [va_up_ne _ _ e]; exact h2
  · exact Or.inr z
end VAL
theorem mv_w2 {o v rb rs cp cb cr : Int32} {q q' : sq_} {d : Nat} (hd : wf_ d q) (h16 : d ≤ 16) (h26 : o = 26 ∨ o = 29 → (v - v / 4 * 4).toNatClampNeg < 4) (h25 : o = 25 → cr = 0 ∨ cr = 1 ∨ cr = 2) (e : mv_ o v rb rs cp cb cr q = some q') : ∃ d', d' ≤ 20 ∧ wf_ d' q' := by
  by_cases z : o = 25 ∧ cr = 0
  · rw [z.1, z.2] at e
    have e : (tkc_ cb cp.toNatClampNeg q).map (fun q => if (0 : Int32) ≤ 0 then q else pt_ (0 - 1) q) = some q' := e
    obtain ⟨q1, e1, e2⟩ := om_some e
    obtain ⟨d', h1, h2⟩ := tkc_wf cb _ hd (by omega) e1
    rw [if_pos (by decide)] at e2
    rw [← e2]
    exact ⟨d', by omega, h2⟩
  · exact mv_w hd h16 h26 (fun c => res_bt (h25 c) (fun c0 => z ⟨c, c0⟩)) e
theorem ivw_lkc {np f n hn i : Nat} {FF : Nat → fc_} (ok : okf_ FF np f n hn) (hnp : np ≤ 12) (hi : i < n) {s s' : s3_} (hI : ivw_ n s) (hd : ∃ d, d ≤ 16 ∧ wf_ d (s.1 i, s.2.1 i)) (e : lkc_ FF f n hn i s = .inr s') : ivw_ n s' := by
  obtain ⟨e4, hn1, hn4, e5, hhn, hres, hg, hop⟩ := ok
  obtain ⟨ho, hj, h25, h26⟩ := hop i hi
  unfold lkc_ lk_ at e
  split at e
  · cases e
  next q emv =>
  split at e
  · cases e
  next h16 =>
  obtain ⟨d, hd1, hd2⟩ := hd
  obtain ⟨d', h1, h2⟩ := mv_w2 hd2 hd1 (fun z => by
    obtain ⟨t, t1, t2⟩ := h26 z
    rw [t2, show nI t - nI t / 4 * 4 = nI (t % 4) from pk_rem (d := 4) (by omega) (by omega) (by omega), nI_clamp (by omega)]
    omega) (fun z => by
    obtain ⟨t, c, t1, t2, -, -, t3⟩ := h25 z
    rw [t2, nI_clamp (show t < 2 ^ 31 by omega)]
    exact t3) emv
  have hq : ∃ d, d ≤ 16 ∧ wf_ d q := by
    refine ⟨d', ?_, h2⟩
    rcases Nat.lt_or_ge 16 d' with z | z
    · exact absurd (by rw [h2.1]; exact nI_lt (a := 16) z (by omega)) h16
    · exact z
  generalize hx : hd_ f i hn (fun k => (FF f).2.2 k 0) (fun k => (FF f).2.2 k 1) (fun k => (FF f).2.2 k 2) hn s = x at e
  cases x with
  | inl e' => cases e
  | inr s1 =>
    have i1 := ivw_hd hn hI hx
    have e : bi_ (if 17 < (FF f).2.1 0 i ∧ (FF f).2.1 0 i < 21 then cm_ f ((FF f).2.1 1 i).toNatClampNeg q s1 else .inr s1) (fun s => if (FF f).2.1 0 i = 18 ∨ (FF f).2.1 0 i = 27 ∨ (FF f).2.1 0 i = 28 then .inr s else if i + 1 = n then .inl (8, nI (512 * f + i)) else cm_ f (i + 1) q s) = .inr s' := e
    generalize hy : (if 17 < (FF f).2.1 0 i ∧ (FF f).2.1 0 i < 21 then cm_ f ((FF f).2.1 1 i).toNatClampNeg q s1 else .inr s1 : (Int32 × Int32) ⊕ s3_) = y at e
    cases y with
    | inl e' => cases e
    | inr s2 =>
      have h3 : ivw_ n s2 := by
        split at hy
        · exact ivw_cm i1 hq hy
        · cases hy; exact i1
      have e : (if (FF f).2.1 0 i = 18 ∨ (FF f).2.1 0 i = 27 ∨ (FF f).2.1 0 i = 28 then .inr s2 else if i + 1 = n then .inl (8, nI (512 * f + i)) else cm_ f (i + 1) q s2 : (Int32 × Int32) ⊕ s3_) = .inr s' := e
      split at e
      · cases e; exact h3
      · split at e
        · cases e
        · exact ivw_cm h3 hq e
section VAL2
variable (h : hc_H) (vf lt pa fq : Nat)
theorem s_V_turns {np f n hn : Nat} {fqs : Nat → Option Nat} {Q : Nat → Nat} {FF : Nat → fc_} (RP : prF h pa np fqs Q FF) (hf : f < np) (hfq : Q f = fq) (ok : okf_ FF np f n hn) (ft : Int32 × Int32) (e0 : ft.1 = 0) (kx : hM Unit) : ∀ (r fu : Nat) (sc : Nat → Int32) (s : s3_), r ≤ n → r < fu → sc 7 = nI (512 * f) → ivw_ n s → lw_ n sc s →
    match vy_ (lkc_ FF f n hn) n r s with
    | .inl e => ∃ sc' s', ¬ e.1 = 0 ∧ p_Verifier_verify_45 (some vf) kx fu (nI (n - r)) (E3_ h vf lt pa fq sc ft s) = kx (E3_ h vf lt pa fq sc' e s')
    | .inr s' => ∃ sc', p_Verifier_verify_45 (some vf) kx fu (nI (n - r)) (E3_ h vf lt pa fq sc ft s) = kx (E3_ h vf lt pa fq sc' ft s') := by
  have R : fnR h fq (FF f) := hfq ▸ (RP.2.2 f hf).2
  have RE := fun sc ft s => fnR_ve R vf lt (some pa) (some fq) sc ft (va3_ s)
  have hn4 := ok.2.2.1
  intro r
  induction r with
  | zero =>
    intro fu sc s _ hfu e7 hI hw
    obtain ⟨g, rfl⟩ : ∃ g, fu = g + 1 := ⟨fu - 1, by omega⟩
    refine ⟨sc, ?_⟩
    rw [p_Verifier_verify_45, ve_ref5, fr_get4 (RE _ _ _), ok.1, ev_ite, if_pos (nI_le (by omega) (by omega))]
  | succ r ih =>
    intro fu sc s hr hfu e7 hI hw
    obtain ⟨g, rfl⟩ : ∃ g, fu = g + 1 := ⟨fu - 1, by omega⟩
    obtain ⟨w, w1, w2, w3⟩ := hw
    have kf := s_findM h vf lt pa fq R hn4 ok.1 w1 ft s sc w2
    have sk := lwf_skip w1 w3 w (Nat.le_refl _)
    rw [Nat.sub_self, Nat.sub_zero] at sk
    rw [← sk] at kf
    rw [p_Verifier_verify_45, ve_ref5, fr_get4 (RE _ _ _), ok.1, ev_ite, if_neg (nI_ge (by omega) (by omega)), ve_on, bd_0 kf, ev_ite, vy_]
    cases el : lwf_ s.2.2 n n with
    | none =>
      simp only [Option.getD_none, if_true]
      exact ⟨_, rfl⟩
    | some i =>
      obtain ⟨hi, -, hwi⟩ := lwf_some n (Nat.le_refl _) el
      simp only [Option.getD_some]
      rw [if_pos e0, if_neg (by decide), ve_get3, va_up_self, ve_on, nI_1, show n - (r + 1) + 1 = n - r by omega]
      obtain ⟨d, h16, hd⟩ := iv_of_ivw hI hi hwi
      have hw2 : lw_ n (va_up sc 4 (nI i)) s := by
        refine ⟨i, by omega, va_up_self _ _ _, fun j hj => ?_⟩
        rcases Decidable.em (s.2.2 j = 0) with z | z
        · exact z
        · exfalso
          have : ∀ r, r ≤ n → n - r ≤ j → ∃ k, lwf_ s.2.2 n r = some k ∧ k ≤ j := by
            intro r
            induction r with
            | zero => intro _ hjr; omega
            | succ r ihr =>
              intro hr2 hjr
              rw [lwf_]
              by_cases c : s.2.2 (n - (r + 1)) = 0
              · rw [if_pos c]
                refine ihr (by omega) ?_
                rcases Nat.eq_or_lt_of_le hjr with q | q
                · exact absurd (q ▸ c) z
                · omega
              · rw [if_neg c]; exact ⟨_, rfl, hjr⟩
          obtain ⟨k, hk1, hk2⟩ := this n (Nat.le_refl _) (by omega)
          rw [el] at hk1
          cases hk1
          omega
      have key := s_V_lookAt h vf lt pa fq RP hf hfq ok hi (va_up sc 4 (nI i)) ft s (by rw [va_up_ne _ _ (by decide)]; exact e7) e0 (ivw_m1 hI) hw2 hd h16
      cases ek : lkc_ FF f n hn i (s.1, s.2.1, va_up s.2.2 i 0) with
      | inl e =>
        rw [ek] at key
        obtain ⟨sc', s', e1, u, u1, u2⟩ := key
        have ne : ¬ e.1 = 0 := lk_ne0 ek
        rw [bd_0 e1]
        obtain ⟨g, rfl⟩ : ∃ k, g = k + 1 := ⟨g - 1, by omega⟩
        rw [p_Verifier_verify_45, ve_ref5, fr_get4 (RE _ _ _), ok.1, ev_ite]
        by_cases c : nI n ≤ nI (n - r)
        · rw [if_pos c]; exact ⟨sc', s', ne, rfl⟩
        · rw [if_neg c, ve_on, bd_0 (s_findM h vf lt pa fq R hn4 ok.1 u1 e s' sc' u2), ev_ite, if_pos]
          · exact ⟨_, s', ne, rfl⟩
          · split
            · rfl
            · exact if_neg ne
      | inr s' =>
        rw [ek] at key
        obtain ⟨sc', e1, h7, hw', hm'⟩ := key
        rw [bd_0 e1]
        exact ih g sc' s' (by omega) (by omega) h7 (ivw_lkc ok RP.2.1 hi (ivw_off hI) ⟨d, h16, hd⟩ ek) hw'
def cln_ (j n : Nat) (s : s3_) : s3_ := (fun i => if j ≤ i ∧ i < n then -1 else s.1 i, fun i => if j ≤ i ∧ i < n then 0 else s.2.1 i, fun i => if j ≤ i ∧ i < n then 0 else s.2.2 i)
theorem s_begin_2 {F : fc_} (R : fnR h fq F) (n : Nat) (hn4 : n ≤ 400) (e4 : F.1 4 = nI n) (sc : Nat → Int32) (ft : Int32 × Int32) (kx : hM Unit) : ∀ (r fu : Nat) (s : s3_), r ≤ n → r < fu → p_Verifier_begin_2 (some vf) kx fu (nI (n - r)) (E3_ h vf lt pa fq sc ft s) = kx (E3_ h vf lt pa fq sc ft (cln_ (n - r) n s)) := by
  have RE := fun s => fnR_ve R vf lt (some pa) (some fq) sc ft (va3_ s)
  intro r
  induction r with
  | zero =>
    intro fu s _ hfu
    obtain ⟨g, rfl⟩ : ∃ g, fu = g + 1 := ⟨fu - 1, by omega⟩
    rw [p_Verifier_begin_2, ve_ref5, fr_get4 (RE _), e4, ev_ite, if_pos (nI_le (by omega) (by omega))]
    have : cln_ (n - 0) n s = s := by
      unfold cln_
      refine Prod.ext (funext fun i => if_neg (by omega)) (Prod.ext (funext fun i => if_neg (by omega)) (funext fun i => if_neg (by omega)))
    rw [this]
  | succ r ih =>
    intro fu s hr hfu
    obtain ⟨g, rfl⟩ : ∃ g, fu = g + 1 := ⟨fu - 1, by omega⟩
    have hin : ¬ (nI (n - (r + 1)) < 0 ∨ 400 ≤ (nI (n - (r + 1))).toNatClampNeg) := nI_in (by omega) (by omega)
    have hcl : (nI (n - (r + 1))).toNatClampNeg = n - (r + 1) := nI_clamp (by omega)
    rw [p_Verifier_begin_2, ve_ref5, fr_get4 (RE _), e4, ev_ite, if_neg (nI_ge (by omega) (by omega)), ve_ref0, ve_ist4, if_neg hin, hcl, va3_u4, ve_ref1, ve_ist5, if_neg hin, hcl, va3_u5, ve_ref2, ve_ist6, if_neg hin, hcl, va3_u6, nI_1, show n - (r + 1) + 1 = n - r by omega, ih g _ (by omega) (by omega), show (0 : Int32) &&& 1 = 0 by decide]
    congr 2
    have pt : ∀ (a : Nat → Int32) (x : Int32) (i : Nat), (if n - r ≤ i ∧ i < n then x else va_up a (n - (r + 1)) x i) = if n - (r + 1) ≤ i ∧ i < n then x else a i := by
      intro a x i
      by_cases c : n - r ≤ i ∧ i < n
      · rw [if_pos c, if_pos ⟨by omega, c.2⟩]
      · rw [if_neg c]
        by_cases c2 : i = n - (r + 1)
        · subst c2; rw [va_up_self, if_pos ⟨by omega, by omega⟩]
        · rw [va_up_ne _ _ c2, if_neg (by omega)]
    unfold cln_
    exact Prod.ext (funext fun i => pt s.1 (-1) i) (Prod.ext (funext fun i => pt s.2.1 0 i) (funext fun i => pt s.2.2 0 i))
theorem s_lookAtAll {np f n hn : Nat} {fqs : Nat → Option Nat} {Q : Nat → Nat} {FF : Nat → fc_} (RP : prF h pa np fqs Q FF) (hf : f < np) (hfq : Q f = fq) (ok : okf_ FF np f n hn) (sc : Nat → Int32) (ft : Int32 × Int32) (e0 : ft.1 = 0) (s : s3_) (e7 : sc 7 = nI (512 * f)) (kx : hM Unit) :
    match vf_ (lkc_ FF f n hn) f n with
    | .inl e => ∃ sc' s', ¬ e.1 = 0 ∧ (hm_bind (p_Verifier_begin (some vf)) fun _ => p_Verifier_verify_45 (some vf) kx hm_fuel 0) (E3_ h vf lt pa fq sc ft s) = kx (E3_ h vf lt pa fq sc' e s')
    | .inr s2 => ∃ sc' s', (hm_bind (p_Verifier_begin (some vf)) fun _ => p_Verifier_verify_45 (some vf) kx hm_fuel 0) (E3_ h vf lt pa fq sc ft s) = kx (E3_ h vf lt pa fq sc' ft s') ∧ se_ n s' s2 := by
  have R : fnR h fq (FF f) := hfq ▸ (RP.2.2 f hf).2
  have ok' := ok
  obtain ⟨e4, hn1, hn4, e5, hhn, hres, hg, hop⟩ := ok'
  have RE := fun sc s => fnR_ve R vf lt (some pa) (some fq) sc ft (va3_ s)
  have hf12 : f < 12 := Nat.lt_of_lt_of_le hf RP.2.1
  have hz : se_ n (cln_ 0 n s) z3_ := by
    intro i hi
    simp only [cln_, z3_]
    rw [if_pos ⟨by omega, hi⟩, if_pos ⟨by omega, hi⟩, if_pos ⟨by omega, hi⟩]
    exact ⟨rfl, rfl, rfl⟩
  have iz : ivw_ n (cln_ 0 n s) := by
    intro i hi
    obtain ⟨h1, h2, h3⟩ := hz i hi
    exact Or.inl ⟨h1, h3⟩
  have lz : lw_ n (va_up sc 4 0) (cln_ 0 n s) := ⟨0, by omega, va_up_self _ _ _, fun j hj => by omega⟩
  have k10 := s_begin_2 h vf lt pa fq R n hn4 e4 sc ft (hm_bind (hm_puti 7 3 (some vf) 0) fun _ => hm_bind (hm_on 7 (some vf) (p_Verifier_comeTo (some vf) 0 0 0)) fun _ => hm_ret ()) n hm_fuel s (Nat.le_refl _) (by unfold hm_fuel; omega)
  rw [Nat.sub_self, ve_put3, ve_on] at k10
  have k10 : p_Verifier_begin (some vf) (E3_ h vf lt pa fq sc ft s) = _ := k10
  have key := s_V_comeTo h vf lt pa fq R hn4 e4 (show 0 < n by omega) hf12 (va_up sc 4 0) (by rw [va_up_ne _ _ (by decide)]; exact e7) ft e0 (0, 0) (cln_ 0 n s) (ivw_m1 iz 0 (by omega)) lz
  have rel := se_cm (f := f) (i := 0) (q := (0, 0)) hz (by omega)
  unfold vf_
  cases ec2 : cm_ f 0 (0, 0) z3_ with
  | inl e =>
    exfalso
    obtain ⟨s1, ec, -, -⟩ := z3_iv f n hn1
    rw [ec] at ec2
    cases ec2
  | inr s2 =>
    rw [ec2] at rel
    cases ec : cm_ f 0 (0, 0) (cln_ 0 n s) with
    | inl e => rw [ec] at rel; exact rel.elim
    | inr s1 =>
      rw [ec] at key rel
      obtain ⟨y, ek, hw'⟩ := key
      have ek : p_Verifier_comeTo (some vf) 0 0 0 (E3_ h vf lt pa fq (va_up sc 4 0) ft (cln_ 0 n s)) = _ := ek
      rw [bd_0 ek, ev_ret] at k10
      rw [bd_0 k10]
      have k56 := s_V_turns h vf lt pa fq RP hf hfq ok ft e0 kx n hm_fuel (va_up (va_up sc 4 0) 4 y) s1 (Nat.le_refl _) (by unfold hm_fuel; omega) (by rw [va_up2, va_up_ne _ _ (by decide)]; exact e7) (ivw_cm iz ⟨0, by omega, wf_00⟩ ec) hw'
      rw [Nat.sub_self] at k56
      have rel2 := se_vy (look := lkc_ FF f n hn) (look' := lkc_ FF f n hn) (n := n) (fun i s s' hi hs => se_lk hn4 hg (fun z => by
        obtain ⟨ho, hj, -, -⟩ := hop i hi
        exact hj ((gtp_iff ho).mpr z)) hi hs) n rel
      show match vy_ (lkc_ FF f n hn) n n s2 with | .inl e => _ | .inr s2 => _
      cases ev2 : vy_ (lkc_ FF f n hn) n n s2 with
      | inl e =>
        rw [ev2] at rel2
        cases ev : vy_ (lkc_ FF f n hn) n n s1 with
        | inl e' =>
          rw [ev] at k56 rel2
          have rel2 : e' = e := rel2
          subst rel2
          exact k56
        | inr s' => rw [ev] at rel2; exact rel2.elim
      | inr s3 =>
        rw [ev2] at rel2
        cases ev : vy_ (lkc_ FF f n hn) n n s1 with
        | inl e' => rw [ev] at rel2; exact rel2.elim
        | inr s' =>
          rw [ev] at k56 rel2
          obtain ⟨sc', e1⟩ := k56
          exact ⟨sc', s', e1, rel2⟩
end VAL2
