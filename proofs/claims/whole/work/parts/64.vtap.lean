theorem hm_ne_4 {α : Type} (m : hM α) : hm_ne 4 m = m := by
  unfold hm_ne
  rw [if_neg (by decide)]
section VTP
variable (h : hc_H) (vf lt : Nat) (sc : Nat → Int32) (ar : Nat → Nat → Int32)
theorem jv_useRow (pg fn : Option Nat) (o : Int32) (ho : o = 21 ∨ o = 22 ∨ o = 23 ∨ o = 24) (v rb rs cp cb cr : Int32) : ∃ X, jv_ h vf lt pg fn sc ar (p_Verifier_useRow (some vf) o) X ∧ ∀ q d, wf_ d q → d ≤ 16 → X q = lim_ (mv_ o v rb rs cp cb cr q) := by
  have t1 : jv_ h vf lt pg fn sc ar (hm_bind (hm_on 7 (some vf) (p_Verifier_take (some vf) 2)) fun _ => hm_bind (hm_on 7 (some vf) (p_Verifier_put (some vf) 1)) fun _ => hm_ret ()) (fun q => xb_ (o2x_ (tk_ 1 q)) (xp_ 0)) := jv_take h vf lt pg fn sc ar 2 (Or.inr (Or.inr rfl)) (jv_put1 h vf lt pg fn sc ar 1)
  have t2 : jv_ h vf lt pg fn sc ar (hm_bind (hm_on 7 (some vf) (p_Verifier_take (some vf) 2)) fun _ => hm_ret ()) (fun q => o2x_ (tk_ 1 q)) := jv_take1 h vf lt pg fn sc ar 2 (Or.inr (Or.inr rfl))
  have bx : ∀ (a : Option sq_) (f : sq_ → Option sq_) (Y : sq_ → Bool ⊕ sq_), xb_ (o2x_ a) (fun q => xb_ (o2x_ (f q)) Y) = xb_ (o2x_ (a.bind f)) Y := by
    intro a f Y
    cases a <;> rfl
  rcases ho with rfl | rfl | rfl | rfl
  · refine ⟨fun q => xb_ (o2x_ (tk_ 0 q)) (xp_ 1), ?_, fun q d hq h16 => ?_⟩
    · rw [p_Verifier_useRow, if_pos rfl]
      exact jv_take h vf lt pg fn sc ar 1 (Or.inr (Or.inl rfl)) (jv_put1 h vf lt pg fn sc ar 2)
    · show xb_ (o2x_ (tk_ 0 q)) (xp_ 1) = lim_ ((tk_ 0 q).map (pt_ 1))
      exact lim_p 1 (fun q' e => by obtain ⟨d', h1, h2⟩ := tk_h hq.1 e; exact ⟨d', by omega, h2⟩)
  · refine ⟨fun q => xb_ (o2x_ (tki_ 1 q)) (fun q => xb_ (o2x_ (tk_ 1 q)) (xp_ 0)), ?_, fun q d hq h16 => ?_⟩
    · simp only [p_Verifier_useRow, hm_jn, if_true]
      rw [if_neg (by decide), if_neg (by decide), if_neg (by decide), if_neg (by decide)]
      exact jv_tkt h vf lt pg fn sc ar (a := fun q => some q) 1 (Or.inr (Or.inl rfl)) t1
    · show xb_ (o2x_ (tki_ 1 q)) (fun q => xb_ (o2x_ (tk_ 1 q)) (xp_ 0)) = lim_ (((tk_ 0 q).bind (tk_ 1)).map (pt_ 0))
      have e1 : tki_ 1 q = tk_ 0 q := by rw [tki_]; cases tk_ 0 q <;> rfl
      rw [bx, e1]
      exact lim_p 0 (fun q' e => by
        obtain ⟨q1, e2, e3⟩ := ob_some e
        obtain ⟨d1, h1, h2⟩ := tk_h hq.1 e2
        obtain ⟨d2, h3, h4⟩ := tk_h h2 e3
        exact ⟨d2, by omega, h4⟩)
  · refine ⟨fun q => xb_ (o2x_ (tki_ 2 q)) (fun q => o2x_ (tk_ 1 q)), ?_, fun q d hq h16 => ?_⟩
    · simp only [p_Verifier_useRow, hm_jn, if_true]
      rw [if_neg (by decide), if_neg (by decide)]
      exact jv_tkt h vf lt pg fn sc ar (a := tki_ 1) 1 (Or.inr (Or.inl rfl)) (jv_tkt h vf lt pg fn sc ar (a := fun q => some q) 1 (Or.inr (Or.inl rfl)) t2)
    · show xb_ (o2x_ (tki_ 2 q)) (fun q => o2x_ (tk_ 1 q)) = lim_ ((tki_ 2 q).bind (tk_ 1))
      rw [xb_o, lim_o (fun q' e => by
        obtain ⟨q1, e2, e3⟩ := ob_some e
        obtain ⟨d1, h1, h2⟩ := tki_h 2 hq.1 e2
        obtain ⟨d2, h3, h4⟩ := tk_h h2 e3
        exact ⟨d2, by omega, h4⟩)]
  · refine ⟨fun q => xb_ (o2x_ (tki_ 0 q)) (fun q => xb_ (o2x_ (tk_ 1 q)) (xp_ 0)), ?_, fun q d hq h16 => ?_⟩
    · simp only [p_Verifier_useRow, hm_jn, if_true]
      rw [if_neg (by decide), if_neg (by decide), if_neg (by decide)]
      exact t1
    · show xb_ (o2x_ (tk_ 1 q)) (xp_ 0) = lim_ ((tk_ 1 q).map (pt_ 0))
      exact lim_p 0 (fun q' e => by obtain ⟨d', h1, h2⟩ := tk_h hq.1 e; exact ⟨d', by omega, h2⟩)
theorem jv_tap {pa fq np : Nat} {fqs : Nat → Option Nat} {F : fc_} (RP : prR h pa np fqs) (hnp : np ≤ 12) (R : fnR h fq F) (hres : F.1 3 = 0 ∨ F.1 3 = 1 ∨ F.1 3 = 2) (o v cp cb cr : Int32) (ho : ∃ j, j ≤ 29 ∧ o = nI j)
    (h25 : o = 25 → ∃ t qg G c, v = nI t ∧ t < np ∧ fqs t = some qg ∧ fnR h qg G ∧ cp = G.1 0 ∧ cb = G.1 2 ∧ cr = G.1 3 ∧ c < 1000 ∧ cp = nI c ∧ (cr = 0 ∨ cr = 1 ∨ cr = 2))
    (h26 : o = 26 ∨ o = 29 → ∃ t, t < 1000 ∧ v = nI t) :
    ∃ X, jv_ h vf lt (some pa) (some fq) sc ar (p_Verifier_takeAndPut (some vf) o v) X ∧ ∀ q d, wf_ d q → d ≤ 16 → X q = lim_ (mv_ o v (F.1 2) (F.1 3) cp cb cr q) := by
  have tkl : ∀ (t : Int32) (q : sq_) (d : Nat), wf_ d q → d ≤ 16 → o2x_ (tk_ t q) = lim_ (tk_ t q) := fun t q d hq h16 => (lim_o (fun q' e => by obtain ⟨d', h1, h2⟩ := tk_h hq.1 e; exact ⟨d', by omega, h2⟩)).symm
  have tkil : ∀ (n : Nat) (q : sq_) (d : Nat), wf_ d q → d ≤ 16 → ∀ q', tki_ n q = some q' → ∃ d, d ≤ 16 ∧ q'.1 = nI d := fun n q d hq h16 q' e => by obtain ⟨d', h1, h2⟩ := tki_h n hq.1 e; exact ⟨d', by omega, h2⟩
  have onr : ∀ {m : hM Unit} {X : sq_ → Bool ⊕ sq_}, jv_ h vf lt (some pa) (some fq) sc ar m X → jv_ h vf lt (some pa) (some fq) sc ar (hm_bind (hm_on 7 (some vf) m) fun _ => hm_ret ()) X := fun {m X} k => jv_eq _ _ _ _ _ _ _ (jv_bind h vf lt (some pa) (some fq) sc ar k (jv_ret h vf lt (some pa) (some fq) sc ar)) (fun q => xb_r _)
  have r4 : ∀ t : Nat, t < 1000 → nI t - nI t / 4 * 4 = nI (t % 4) := fun t ht => pk_rem (d := 4) (by omega) (by omega) (by omega)
  unfold p_Verifier_takeAndPut
  by_cases k0 : o = 0
  · subst k0
    rw [if_pos rfl]
    exact ⟨_, jv_put1 h vf lt (some pa) (some fq) sc ar 1, fun q d hq h16 => xp_lim 0 hq.1 h16⟩
  rw [if_neg k0]
  by_cases k1 : o = 1
  · subst k1
    rw [if_pos rfl]
    exact ⟨_, jv_take1 h vf lt (some pa) (some fq) sc ar 0 (Or.inl rfl), fun q d hq h16 => tkl 2 q d hq h16⟩
  rw [if_neg k1]
  by_cases k2 : o = 2
  · subst k2
    rw [if_pos rfl]
    refine ⟨_, onr (jv_repeatTop h vf lt (some pa) (some fq) sc ar), fun q d hq h16 => ?_⟩
    show xb_ (o2x_ (tk_ 2 q)) _ = lim_ (if q.1 ≤ 0 then none else some (pt_ (tp_ q) q))
    rw [tk_any]
    rcases Nat.eq_zero_or_pos d with z | z
    · subst z
      have e0 : q.1 = 0 := hq.1
      rw [if_pos e0, if_pos (by rw [e0]; decide)]; rfl
    · obtain ⟨k, rfl⟩ : ∃ k, d = k + 1 := ⟨d - 1, by omega⟩
      rw [if_neg (by rw [hq.1]; exact nI_ne0 (by omega) (by omega)), if_neg (by rw [hq.1]; exact nI_nle (by omega) (by omega))]
      show xb_ (xp_ (tp_ q) (dr_ q)) (xp_ (tp_ q)) = _
      rw [xp_ok (tp_ q) (dr_wf hq (by omega)).1 (by omega), pt_dr hq (by omega)]
      exact xp_lim _ hq.1 h16
  rw [if_neg k2]
  by_cases k3 : o = 3
  · subst k3
    rw [if_pos rfl]
    refine ⟨_, onr (jv_swap h vf lt (some pa) (some fq) sc ar), fun q d hq h16 => ?_⟩
    show xb_ (o2x_ (tk_ 2 q)) _ = lim_ (if q.1 ≤ 1 then none else some (pt_ (tp_ (dr_ q)) (pt_ (tp_ q) (dr_ (dr_ q)))))
    rw [tk_any]
    rcases Nat.eq_zero_or_pos d with z | z
    · subst z
      have e0 : q.1 = 0 := hq.1
      rw [if_pos e0, if_pos (by rw [e0]; decide)]; rfl
    · obtain ⟨k, rfl⟩ : ∃ k, d = k + 1 := ⟨d - 1, by omega⟩
      have w1 := dr_wf hq (by omega)
      rw [if_neg (by rw [hq.1]; exact nI_ne0 (by omega) (by omega))]
      show xb_ (o2x_ (tk_ 2 (dr_ q))) _ = _
      rw [tk_any]
      rcases Nat.eq_zero_or_pos k with z | z
      · subst z
        rw [if_pos (show (dr_ q).1 = 0 from w1.1), if_pos (by rw [hq.1]; decide)]; rfl
      · obtain ⟨j, rfl⟩ : ∃ j, k = j + 1 := ⟨k - 1, by omega⟩
        have w2 := dr_wf w1 (by omega)
        rw [if_neg (by rw [w1.1]; exact nI_ne0 (by omega) (by omega)), if_neg (by rw [hq.1]; exact nI_ge (a := 1) (by omega) (by omega))]
        show xb_ (xp_ (tp_ q) (dr_ (dr_ q))) (xp_ (tp_ (dr_ q))) = _
        rw [xp_ok _ w2.1 (by omega)]
        exact xp_lim _ (pt_h w2.1) (by omega)
  rw [if_neg k3]
  by_cases k4 : o = 4
  · subst k4
    rw [if_pos rfl]
    refine ⟨xp_ ((F.1 2 >>> (v &&& 31)) &&& 1), ?_, fun q d hq h16 => xp_lim _ hq.1 h16⟩
    refine jv_pre h vf lt _ _ sc ar (a := some fq) (fun q ft => by rw [ve_ref5]) ?_
    refine jv_pre h vf lt _ _ sc ar (a := if (F.1 2 >>> (v &&& 31)) &&& 1 = 1 then 2 else 1) (fun q ft => by rw [fr_on (fnR_ve R _ _ _ _ _ _ _), bd_0 (s_typeOfLocal (fnR_ve R _ _ _ _ _ _ _) _)]) ?_
    have k := jv_put1 h vf lt (some pa) (some fq) sc ar (if (F.1 2 >>> (v &&& 31)) &&& 1 = 1 then 2 else 1)
    rw [ty_p] at k
    exact k
  rw [if_neg k4]
  by_cases k5 : o = 5
  · subst k5
    rw [if_pos rfl]
    refine ⟨fun q => o2x_ (tk_ ((F.1 2 >>> (v &&& 31)) &&& 1) q), ?_, fun q d hq h16 => tkl _ q d hq h16⟩
    refine jv_pre h vf lt _ _ sc ar (a := some fq) (fun q ft => by rw [ve_ref5]) ?_
    refine jv_pre h vf lt _ _ sc ar (a := if (F.1 2 >>> (v &&& 31)) &&& 1 = 1 then 2 else 1) (fun q ft => by rw [fr_on (fnR_ve R _ _ _ _ _ _ _), bd_0 (s_typeOfLocal (fnR_ve R _ _ _ _ _ _ _) _)]) ?_
    have k := jv_take1 h vf lt (some pa) (some fq) sc ar _ (ty_in (F.1 2 >>> (v &&& 31)))
    rw [ty_t] at k
    exact k
  rw [if_neg k5]
  by_cases k18 : o = 18
  · subst k18
    rw [if_pos rfl]
    exact ⟨_, jv_ret h vf lt (some pa) (some fq) sc ar, fun q d hq h16 => (lim_ok hq.1 h16).symm⟩
  rw [if_neg k18]
  by_cases k19 : o = 19 ∨ o = 20 ∨ o = 28
  · rw [if_pos k19]
    refine ⟨_, jv_take1 h vf lt (some pa) (some fq) sc ar 1 (Or.inr (Or.inl rfl)), fun q d hq h16 => ?_⟩
    have e : mv_ o v (F.1 2) (F.1 3) cp cb cr q = tk_ 0 q := by
      rcases k19 with rfl | rfl | rfl <;> rfl
    rw [e]
    exact tkl 0 q d hq h16
  rw [if_neg k19]
  by_cases k21 : o = 21 ∨ o = 22 ∨ o = 23 ∨ o = 24
  · rw [if_pos k21]
    obtain ⟨X, h1, h2⟩ := jv_useRow h vf lt sc ar (some pa) (some fq) o k21 v (F.1 2) (F.1 3) cp cb cr
    exact ⟨X, onr h1, h2⟩
  rw [if_neg k21]
  by_cases k25 : o = 25
  · rw [if_pos k25]
    obtain ⟨t, qg, G, c, ev, ht, eq, RG, e1, e2, e3, hc, ec, hr⟩ := h25 k25
    subst k25
    refine ⟨fun s => xb_ (o2x_ (tkc_ (G.1 2) c s)) (fun s => if G.1 3 ≤ 0 then .inr s else xp_ (G.1 3 - 1) s), ?_, fun q d hq h16 => ?_⟩
    · refine jv_pre h vf lt _ _ sc ar (a := some pa) (fun q ft => by rw [ve_ref4]) ?_
      refine jv_pre h vf lt _ _ sc ar (a := some qg) (fun q ft => ?_) ?_
      · rw [pr_on (prR_ve RP _ _ _ _ _ _ _), bd_0 (s_at (prR_ve RP _ _ _ _ _ _ _) hnp v), ev, if_neg (fun z => z.elim (nI_pos (by omega)) (nI_ge ht (by omega))), nI_clamp (by omega), eq]
      · exact onr (jv_call h vf lt (some pa) (some fq) sc ar RG c hc (e1 ▸ ec) (e3 ▸ hr))
    · show xb_ (o2x_ (tkc_ (G.1 2) c q)) (fun s => if G.1 3 ≤ 0 then .inr s else xp_ (G.1 3 - 1) s) = lim_ ((tkc_ cb cp.toNatClampNeg q).map (fun q => if cr ≤ 0 then q else pt_ (cr - 1) q))
      rw [ec, nI_clamp (show c < 2 ^ 31 by omega), e2, e3]
      cases et : tkc_ (G.1 2) c q with
      | none => rfl
      | some q1 =>
        obtain ⟨d1, g1, g2⟩ := tkc_h (G.1 2) c hq.1 et
        show (if G.1 3 ≤ 0 then Sum.inr q1 else xp_ (G.1 3 - 1) q1) = lim_ (some (if G.1 3 ≤ 0 then q1 else pt_ (G.1 3 - 1) q1))
        by_cases z : G.1 3 ≤ 0
        · rw [if_pos z, if_pos z, lim_ok g2 (by omega)]
        · rw [if_neg z, if_neg z, xp_lim _ g2 (by omega)]
  rw [if_neg k25]
  by_cases k26 : o = 26
  · obtain ⟨t, ht, ev⟩ := h26 (Or.inl k26)
    subst k26
    rw [if_pos rfl, hm_ne_4, ev, r4 t ht]
    refine ⟨_, jv_bind h vf lt (some pa) (some fq) sc ar (jv_takeInts_m h vf lt (some pa) (some fq) sc ar (t % 4) (by omega)) (jv_put1 h vf lt (some pa) (some fq) sc ar 1), fun q d hq h16 => ?_⟩
    show xb_ (o2x_ (tki_ (t % 4) q)) (xp_ 0) = lim_ ((tki_ (nI t - nI t / 4 * 4).toNatClampNeg q).map (pt_ 0))
    rw [r4 t ht, nI_clamp (by omega)]
    exact lim_p 0 (tkil _ q d hq h16)
  rw [if_neg k26]
  by_cases k27 : o = 27
  · subst k27
    rw [if_pos rfl]
    refine ⟨fun q => if F.1 3 ≤ 0 then .inr q else o2x_ (tk_ (F.1 3 - 1) q), onr ?_, fun q d hq h16 => ?_⟩
    · rw [p_Verifier_takeResult]
      refine jv_pre h vf lt _ _ sc ar (a := some fq) (fun q ft => by rw [ve_ref5]) ?_
      refine jv_pre h vf lt _ _ sc ar (a := F.1 3) (fun q ft => by rw [fr_get3 (fnR_ve R _ _ _ _ _ _ _)]) ?_
      by_cases z : F.1 3 = 0
      · rw [if_pos z]
        exact jv_eq _ _ _ _ _ _ _ (jv_ret h vf lt (some pa) (some fq) sc ar) (fun q => by rw [z, if_pos (by decide)])
      · rw [if_neg z]
        refine jv_pre h vf lt _ _ sc ar (a := some fq) (fun q ft => by rw [ve_ref5]) ?_
        refine jv_pre h vf lt _ _ sc ar (a := F.1 3) (fun q ft => by rw [fr_get3 (fnR_ve R _ _ _ _ _ _ _)]) ?_
        refine jv_eq _ _ _ _ _ _ _ (jv_take1 h vf lt (some pa) (some fq) sc ar (F.1 3) hres) (fun q => ?_)
        rcases hres with e | e | e
        · exact absurd e z
        · rw [e, if_neg (by decide)]; rfl
        · rw [e, if_neg (by decide)]; rfl
    · show (if F.1 3 ≤ 0 then Sum.inr q else o2x_ (tk_ (F.1 3 - 1) q)) = lim_ (if F.1 3 ≤ 0 then some q else tk_ (F.1 3 - 1) q)
      by_cases z : F.1 3 ≤ 0
      · rw [if_pos z, if_pos z, lim_ok hq.1 h16]
      · rw [if_neg z, if_neg z, tkl _ q d hq h16]
  rw [if_neg k27]
  by_cases k29 : o = 29
  · obtain ⟨t, ht, ev⟩ := h26 (Or.inr k29)
    subst k29
    rw [if_pos rfl, hm_ne_4, hm_ne_4, ev, r4 t ht]
    refine ⟨_, jv_bind h vf lt (some pa) (some fq) sc ar (jv_takeInts_m h vf lt (some pa) (some fq) sc ar (t % 4) (by omega)) (onr (jv_putInts_m h vf lt (some pa) (some fq) sc ar (t % 4) (by omega))), fun q d hq h16 => ?_⟩
    show xb_ (o2x_ (tki_ (t % 4) q)) (xpi_ (t % 4)) = lim_ ((tki_ (nI t - nI t / 4 * 4).toNatClampNeg q).map (pti_ (nI t - nI t / 4 * 4).toNatClampNeg))
    rw [r4 t ht, nI_clamp (by omega)]
    cases et : tki_ (t % 4) q with
    | none => rfl
    | some q1 =>
      obtain ⟨d1, g1, g2⟩ := tki_h _ hq.1 et
      show xpi_ (t % 4) q1 = lim_ (some (pti_ (t % 4) q1))
      rw [xpi_ok _ g2 (by omega), lim_ok (pti_h _ g2) (by omega)]
  rw [if_neg k29]
  have o17 : o ≤ 17 := by
    obtain ⟨j, hj, rfl⟩ := ho
    have : j ≤ 17 := by
      rcases Nat.lt_or_ge 17 j with z | z
      · exfalso
        have c : j = 18 ∨ j = 19 ∨ j = 20 ∨ j = 21 ∨ j = 22 ∨ j = 23 ∨ j = 24 ∨ j = 25 ∨ j = 26 ∨ j = 27 ∨ j = 28 ∨ j = 29 := by omega
        rcases c with rfl | rfl | rfl | rfl | rfl | rfl | rfl | rfl | rfl | rfl | rfl | rfl
        · exact k18 rfl
        · exact k19 (Or.inl rfl)
        · exact k19 (Or.inr (Or.inl rfl))
        · exact k21 (Or.inl rfl)
        · exact k21 (Or.inr (Or.inl rfl))
        · exact k21 (Or.inr (Or.inr (Or.inl rfl)))
        · exact k21 (Or.inr (Or.inr (Or.inr rfl)))
        · exact k25 rfl
        · exact k26 rfl
        · exact k27 rfl
        · exact k19 (Or.inr (Or.inr rfl))
        · exact k29 rfl
      · exact z
    exact nI_le (b := 17) this (by omega)
  refine ⟨_, jv_bind h vf lt (some pa) (some fq) sc ar (jv_takeInts_m h vf lt (some pa) (some fq) sc ar 2 (by omega)) (jv_put1 h vf lt (some pa) (some fq) sc ar 1), fun q d hq h16 => ?_⟩
  rw [mv_, if_neg k0, if_neg k1, if_neg k2, if_neg k3, if_neg k4, if_neg k5, if_pos o17]
  exact lim_p 0 (tkil 2 q d hq h16)
end VTP
