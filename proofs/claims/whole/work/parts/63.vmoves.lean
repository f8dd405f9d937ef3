/-! THE CLASS's VERIFIER: takeAndPut is the specification's mv_ with at most 16 on the stack. -/
theorem fnR_ve {h : hc_H} {q : Nat} {F : fc_} (R : fnR h q F) (vf lt : Nat) (pg fn : Option Nat) (sc : Nat → Int32) (ft : Int32 × Int32) (ar : Nat → Nat → Int32) : fnR (ve_em h vf lt pg fn sc ft ar) q F := by
  refine ⟨?_, fun k hk => ?_, ?_, fun k hk => ?_⟩
  · rw [ve_oo _ _ _ _ _ _ _ _ (by decide)]; exact R.1
  · rw [ve_io _ _ _ _ _ _ _ _ (by omega)]; exact R.2.1 k hk
  · rw [ve_q]; exact R.2.2.1
  · rw [ve_oo _ _ _ _ _ _ _ _ (by decide)]; exact R.2.2.2 k hk
theorem prR_ve {h : hc_H} {a n : Nat} {fq : Nat → Option Nat} (R : prR h a n fq) (vf lt : Nat) (pg fn : Option Nat) (sc : Nat → Int32) (ft : Int32 × Int32) (ar : Nat → Nat → Int32) : prR (ve_em h vf lt pg fn sc ft ar) a n fq := by
  refine ⟨?_, ?_⟩
  · rw [ve_oo _ _ _ _ _ _ _ _ (by decide)]; exact R.1
  · rw [ve_q]; exact R.2
theorem fnR_vq {h : hc_H} {q : Nat} {F : fc_} (R : fnR h q F) (vf lt : Nat) (ol pg fn : Option Nat) (sc : Nat → Int32) (ft : Int32 × Int32) (ar : Nat → Nat → Int32) : fnR (vq_em h vf lt ol pg fn sc ft ar) q F := by
  refine ⟨?_, fun k hk => ?_, ?_, fun k hk => ?_⟩
  · rw [vq_oo _ _ _ _ _ _ _ _ _ (by decide)]; exact R.1
  · rw [vq_io _ _ _ _ _ _ _ _ _ (by omega)]; exact R.2.1 k hk
  · rw [vq_q]; exact R.2.2.1
  · rw [vq_oo _ _ _ _ _ _ _ _ _ (by decide)]; exact R.2.2.2 k hk
theorem prR_vq {h : hc_H} {a n : Nat} {fq : Nat → Option Nat} (R : prR h a n fq) (vf lt : Nat) (ol pg fn : Option Nat) (sc : Nat → Int32) (ft : Int32 × Int32) (ar : Nat → Nat → Int32) : prR (vq_em h vf lt ol pg fn sc ft ar) a n fq := by
  refine ⟨?_, ?_⟩
  · rw [vq_oo _ _ _ _ _ _ _ _ _ (by decide)]; exact R.1
  · rw [vq_q]; exact R.2
def o2x_ (x : Option sq_) : Bool ⊕ sq_ := match x with
  | none => .inl true
  | some q => .inr q
def lim_ (x : Option sq_) : Bool ⊕ sq_ := match x with
  | none => .inl true
  | some q => if 16 < q.1 then .inl false else .inr q
def xpi_ : Nat → sq_ → Bool ⊕ sq_
  | 0, q => .inr q
  | n + 1, q => xb_ (xp_ 0 q) (xpi_ n)
theorem xb_r (x : Bool ⊕ sq_) : xb_ x (fun q => .inr q) = x := by cases x <;> rfl
theorem xb_o (a : Option sq_) (f : sq_ → Option sq_) : xb_ (o2x_ a) (fun q => o2x_ (f q)) = o2x_ (a.bind f) := by cases a <;> rfl
theorem xp_lim {q : sq_} {d : Nat} (t : Int32) (hd : q.1 = nI d) (h16 : d ≤ 16) : xp_ t q = lim_ (some (pt_ t q)) := by
  unfold xp_
  show _ = if 16 < (pt_ t q).1 then Sum.inl false else Sum.inr (pt_ t q)
  rw [pt_h hd, hd]
  by_cases e : d < 16
  · rw [if_pos (show nI d < 16 from nI_lt (b := 16) e (by omega)), if_neg (show ¬ 16 < nI (d + 1) from nI_nlt (a := 16) (by omega) (by omega))]
  · rw [if_neg (show ¬ nI d < 16 from nI_nlt (b := 16) (by omega) (by omega)), if_pos (show 16 < nI (d + 1) from nI_lt (a := 16) (by omega) (by omega))]
theorem xp_ok {q : sq_} {d : Nat} (t : Int32) (hd : q.1 = nI d) (h16 : d < 16) : xp_ t q = .inr (pt_ t q) := by
  unfold xp_
  rw [hd, if_pos (show nI d < 16 from nI_lt (b := 16) h16 (by omega))]
theorem lim_ok {q : sq_} {d : Nat} (hd : q.1 = nI d) (h16 : d ≤ 16) : lim_ (some q) = .inr q := by
  show (if 16 < q.1 then Sum.inl false else Sum.inr q) = _
  rw [hd, if_neg (show ¬ 16 < nI d from nI_nlt (a := 16) (by omega) (by omega))]
theorem lim_o {a : Option sq_} (h : ∀ q, a = some q → ∃ d, d ≤ 16 ∧ q.1 = nI d) : lim_ a = o2x_ a := by
  cases a with
  | none => rfl
  | some q =>
    obtain ⟨d, h1, h2⟩ := h q rfl
    exact lim_ok h2 h1
theorem lim_p {a : Option sq_} (t : Int32) (h : ∀ q, a = some q → ∃ d, d ≤ 16 ∧ q.1 = nI d) : xb_ (o2x_ a) (xp_ t) = lim_ (a.map (pt_ t)) := by
  cases a with
  | none => rfl
  | some q =>
    obtain ⟨d, h1, h2⟩ := h q rfl
    exact xp_lim t h2 h1
theorem xpi_ok : ∀ (n : Nat) {q : sq_} {d : Nat}, q.1 = nI d → d + n ≤ 16 → xpi_ n q = .inr (pti_ n q)
  | 0, _, _, _, _ => rfl
  | n + 1, q, d, hd, h16 => by
    rw [xpi_, xp_ok 0 hd (by omega), pti_]
    exact xpi_ok n (pt_h hd) (by omega)
section VMV
variable (h : hc_H) (vf lt : Nat) (pg fn : Option Nat) (sc : Nat → Int32) (ar : Nat → Nat → Int32)
theorem jv_pre {α : Type} {m : hM α} {k : α → hM Unit} {a : α} {X : sq_ → Bool ⊕ sq_} (e : ∀ q ft, hm_bind m k (ve_em h vf lt pg fn (scv_ sc q) ft ar) = k a (ve_em h vf lt pg fn (scv_ sc q) ft ar)) (h1 : jv_ h vf lt pg fn sc ar (k a) X) : jv_ h vf lt pg fn sc ar (hm_bind m k) X := by
  refine ⟨fun q ft e0 => ?_, fun q ft e0 => ?_⟩
  · rw [e]; exact h1.1 q ft e0
  · rw [e]; exact h1.2 q ft e0
theorem jv_take1 (t : Int32) (ht : t = 0 ∨ t = 1 ∨ t = 2) : jv_ h vf lt pg fn sc ar (hm_bind (hm_on 7 (some vf) (p_Verifier_take (some vf) t)) fun _ => hm_ret ()) (fun q => o2x_ (tk_ (ct2_ t) q)) := by
  refine jv_eq _ _ _ _ _ _ _ (jv_take h vf lt pg fn sc ar t ht (jv_ret h vf lt pg fn sc ar)) (fun q => ?_)
  exact xb_r _
theorem jv_put1 (t : Int32) : jv_ h vf lt pg fn sc ar (hm_bind (hm_on 7 (some vf) (p_Verifier_put (some vf) t)) fun _ => hm_ret ()) (xp_ (if t = 2 then 1 else 0)) :=
  jv_eq _ _ _ _ _ _ _ (jv_bind h vf lt pg fn sc ar (jv_put h vf lt pg fn sc ar t) (jv_ret h vf lt pg fn sc ar)) (fun q => xb_r _)
theorem jv_tkt {m2 : hM Unit} {a : sq_ → Option sq_} {Y : sq_ → Bool ⊕ sq_} (t : Int32) (ht : t = 0 ∨ t = 1 ∨ t = 2) (h2 : jv_ h vf lt pg fn sc ar m2 (fun q => xb_ (o2x_ (a q)) Y)) : jv_ h vf lt pg fn sc ar (hm_bind (hm_on 7 (some vf) (p_Verifier_take (some vf) t)) fun _ => m2) (fun q => xb_ (o2x_ ((tk_ (ct2_ t) q).bind a)) Y) := by
  refine jv_eq _ _ _ _ _ _ _ (jv_take h vf lt pg fn sc ar t ht h2) (fun q => ?_)
  show xb_ (o2x_ (tk_ (ct2_ t) q)) _ = _
  cases tk_ (ct2_ t) q <;> rfl
theorem jv_takeInts (n : Nat) (hn : n < 1000) (kx : hM Unit) (Y : sq_ → Bool ⊕ sq_) (hk : jv_ h vf lt pg fn sc ar kx Y) : ∀ (r fu : Nat), r ≤ n → r < fu → jv_ h vf lt pg fn sc ar (p_Verifier_takeInts_2 (some vf) (nI n) kx fu (nI (n - r))) (fun q => xb_ (o2x_ (tki_ r q)) Y) := by
  intro r
  induction r with
  | zero =>
    intro fu _ hf
    obtain ⟨g, rfl⟩ : ∃ g, fu = g + 1 := ⟨fu - 1, by omega⟩
    rw [p_Verifier_takeInts_2, if_pos (by rw [Nat.sub_zero]; exact nI_le (Nat.le_refl n) (by omega))]
    exact hk
  | succ r ih =>
    intro fu hr hf
    obtain ⟨g, rfl⟩ : ∃ g, fu = g + 1 := ⟨fu - 1, by omega⟩
    rw [p_Verifier_takeInts_2, if_neg (nI_ge (by omega) (by omega)), nI_1, show n - (r + 1) + 1 = n - r by omega]
    exact jv_tkt h vf lt pg fn sc ar 1 (Or.inr (Or.inl rfl)) (ih g (by omega) (by omega))
theorem jv_takeInts_m (n : Nat) (hn : n < 1000) : jv_ h vf lt pg fn sc ar (p_Verifier_takeInts (some vf) (nI n)) (fun q => o2x_ (tki_ n q)) := by
  have k := jv_takeInts h vf lt pg fn sc ar n hn (hm_ret ()) _ (jv_ret h vf lt pg fn sc ar) n hm_fuel (Nat.le_refl n) (by unfold hm_fuel; omega)
  rw [Nat.sub_self] at k
  exact jv_eq _ _ _ _ _ _ _ k (fun q => xb_r _)
theorem jv_putInts (n : Nat) (hn : n < 1000) : ∀ (r fu : Nat), r ≤ n → r < fu → jv_ h vf lt pg fn sc ar (p_Verifier_putInts_2 (some vf) (nI n) (hm_ret ()) fu (nI (n - r))) (xpi_ r) := by
  intro r
  induction r with
  | zero =>
    intro fu _ hf
    obtain ⟨g, rfl⟩ : ∃ g, fu = g + 1 := ⟨fu - 1, by omega⟩
    rw [p_Verifier_putInts_2, if_pos (by rw [Nat.sub_zero]; exact nI_le (Nat.le_refl n) (by omega))]
    exact jv_ret h vf lt pg fn sc ar
  | succ r ih =>
    intro fu hr hf
    obtain ⟨g, rfl⟩ : ∃ g, fu = g + 1 := ⟨fu - 1, by omega⟩
    rw [p_Verifier_putInts_2, if_neg (nI_ge (by omega) (by omega)), nI_1, show n - (r + 1) + 1 = n - r by omega]
    exact jv_bind h vf lt pg fn sc ar (jv_put h vf lt pg fn sc ar 1) (ih g (by omega) (by omega))
theorem jv_putInts_m (n : Nat) (hn : n < 1000) : jv_ h vf lt pg fn sc ar (p_Verifier_putInts (some vf) (nI n)) (xpi_ n) := by
  have k := jv_putInts h vf lt pg fn sc ar n hn n hm_fuel (Nat.le_refl n) (by unfold hm_fuel; omega)
  rw [Nat.sub_self] at k
  exact k
theorem ctp_p (q : sq_) (h0 : ¬ q.1 = 0) : (if ctp_ q = 2 then (1 : Int32) else 0) = tp_ q := by
  unfold ctp_
  rw [if_neg h0]
  rcases tp_01 q with e | e <;> rw [e] <;> decide
theorem tk_any (q : sq_) : tk_ 2 q = if q.1 = 0 then none else some (dr_ q) := by
  unfold tk_
  by_cases h0 : q.1 = 0
  · rw [if_pos h0, if_pos h0]
  · rw [if_neg h0, if_neg h0, if_pos (Or.inl rfl)]
theorem s_take_ok (q : sq_) (ft : Int32 × Int32) (h0 : ¬ q.1 = 0) : p_Verifier_take (some vf) 0 (ve_em h vf lt pg fn (scv_ sc q) ft ar) = some (ctp_ q, 0, 0, ve_em h vf lt pg fn (scv_ sc (dr_ q)) ft ar) := by
  rw [s_take, if_neg (fun c => c.elim (fun c => h0 ((ctp_0 q).mp c)) (fun c => c.1 rfl))]
theorem s_take_all (q : sq_) (ft : Int32 × Int32) (t : Int32) (e0 : ¬ ft.1 = 0) : ∃ a q', p_Verifier_take (some vf) t (ve_em h vf lt pg fn (scv_ sc q) ft ar) = some (a, 0, 0, ve_em h vf lt pg fn (scv_ sc q') ft ar) := by
  rw [s_take, if_neg e0]
  split
  · exact ⟨_, _, rfl⟩
  · exact ⟨_, _, rfl⟩
theorem jv_repeatTop : jv_ h vf lt pg fn sc ar (p_Verifier_repeatTop (some vf)) (fun q => xb_ (o2x_ (tk_ 2 q)) (fun q' => xb_ (xp_ (tp_ q) q') (xp_ (tp_ q)))) := by
  have two : ∀ t, jv_ h vf lt pg fn sc ar (hm_bind (hm_on 7 (some vf) (p_Verifier_put (some vf) t)) fun _ => hm_bind (hm_on 7 (some vf) (p_Verifier_put (some vf) t)) fun _ => hm_ret ()) (fun q => xb_ (xp_ (if t = 2 then 1 else 0) q) (xp_ (if t = 2 then 1 else 0))) := fun t => jv_bind h vf lt pg fn sc ar (jv_put h vf lt pg fn sc ar t) (jv_put1 h vf lt pg fn sc ar t)
  refine ⟨fun q ft e0 => ?_, fun q ft e0 => ?_⟩
  · rw [p_Verifier_repeatTop, ve_on]
    show jr_ _ _ _ _ _ _ _ _ _ (xb_ (o2x_ (tk_ 2 q)) _)
    rw [tk_any]
    by_cases h0 : q.1 = 0
    · rw [if_pos h0]
      have k := s_take h vf lt pg fn sc ar q ft 0
      rw [if_pos (Or.inl ((ctp_0 q).mpr h0)), if_pos e0] at k
      rw [bd_0 k]
      exact (two 0).2 q (5, sc 7 + sc 8) (by decide : ¬ (5 : Int32) = 0)
    · rw [if_neg h0, bd_0 (s_take_ok h vf lt pg fn sc ar q ft h0)]
      have k := (two (ctp_ q)).1 (dr_ q) ft e0
      rw [ctp_p q h0] at k
      exact k
  · obtain ⟨a, q', e⟩ := s_take_all h vf lt pg fn sc ar q ft 0 e0
    rw [p_Verifier_repeatTop, ve_on, bd_0 e]
    exact (two a).2 q' ft e0
theorem jv_swap : jv_ h vf lt pg fn sc ar (p_Verifier_swapUpperTwo (some vf)) (fun q => xb_ (o2x_ (tk_ 2 q)) (fun q1 => xb_ (o2x_ (tk_ 2 q1)) (fun q2 => xb_ (xp_ (tp_ q) q2) (xp_ (tp_ q1))))) := by
  have two : ∀ t u, jv_ h vf lt pg fn sc ar (hm_bind (hm_on 7 (some vf) (p_Verifier_put (some vf) t)) fun _ => hm_bind (hm_on 7 (some vf) (p_Verifier_put (some vf) u)) fun _ => hm_ret ()) (fun q => xb_ (xp_ (if t = 2 then 1 else 0) q) (xp_ (if u = 2 then 1 else 0))) := fun t u => jv_bind h vf lt pg fn sc ar (jv_put h vf lt pg fn sc ar t) (jv_put1 h vf lt pg fn sc ar u)
  have rest : ∀ (a : Int32) (q : sq_) (ft : Int32 × Int32), ¬ ft.1 = 0 → ∃ q', (hm_bind (hm_on 7 (some vf) (p_Verifier_take (some vf) 0)) fun a2 => hm_bind (hm_on 7 (some vf) (p_Verifier_put (some vf) a)) fun _ => hm_bind (hm_on 7 (some vf) (p_Verifier_put (some vf) a2)) fun _ => hm_ret ()) (ve_em h vf lt pg fn (scv_ sc q) ft ar) = some ((), 0, 0, ve_em h vf lt pg fn (scv_ sc q') ft ar) := by
    intro a q ft e0
    obtain ⟨a2, q', e⟩ := s_take_all h vf lt pg fn sc ar q ft 0 e0
    rw [ve_on, bd_0 e]
    exact (two a a2).2 q' ft e0
  have no : ∀ (q : sq_) (ft : Int32 × Int32), ft.1 = 0 → q.1 = 0 → p_Verifier_take (some vf) 0 (ve_em h vf lt pg fn (scv_ sc q) ft ar) = some (0, 0, 0, ve_em h vf lt pg fn (scv_ sc q) (5, sc 7 + sc 8) ar) := by
    intro q ft e0 h0
    have k := s_take h vf lt pg fn sc ar q ft 0
    rw [if_pos (Or.inl ((ctp_0 q).mpr h0)), if_pos e0] at k
    exact k
  refine ⟨fun q ft e0 => ?_, fun q ft e0 => ?_⟩
  · rw [p_Verifier_swapUpperTwo, ve_on]
    show jr_ _ _ _ _ _ _ _ _ _ (xb_ (o2x_ (tk_ 2 q)) _)
    rw [tk_any]
    by_cases h0 : q.1 = 0
    · rw [if_pos h0, bd_0 (no q ft e0 h0)]
      exact rest 0 q (5, sc 7 + sc 8) (by decide : ¬ (5 : Int32) = 0)
    · rw [if_neg h0, bd_0 (s_take_ok h vf lt pg fn sc ar q ft h0), ve_on]
      show jr_ _ _ _ _ _ _ _ _ _ (xb_ (o2x_ (tk_ 2 (dr_ q))) _)
      rw [tk_any]
      by_cases h1 : (dr_ q).1 = 0
      · rw [if_pos h1, bd_0 (no (dr_ q) ft e0 h1)]
        exact (two (ctp_ q) 0).2 (dr_ q) (5, sc 7 + sc 8) (by decide : ¬ (5 : Int32) = 0)
      · rw [if_neg h1, bd_0 (s_take_ok h vf lt pg fn sc ar (dr_ q) ft h1)]
        have k := (two (ctp_ q) (ctp_ (dr_ q))).1 (dr_ (dr_ q)) ft e0
        rw [ctp_p q h0, ctp_p (dr_ q) h1] at k
        exact k
  · obtain ⟨a, q', e⟩ := s_take_all h vf lt pg fn sc ar q ft 0 e0
    rw [p_Verifier_swapUpperTwo, ve_on, bd_0 e]
    exact rest a q' ft e0
theorem s_typeOfLocal {q : Nat} {F : fc_} {H : hc_H} (R : fnR H q F) (x : Int32) : p_Function_typeOfLocal (some q) x H = some (if (F.1 2 >>> (x &&& 31)) &&& 1 = 1 then 2 else 1, 0, 0, H) := by
  rw [p_Function_typeOfLocal, fr_get2 R, ev_ite]
  split <;> exact ev_ret _ _
theorem and1_01 (x : Int32) : x &&& 1 = 0 ∨ x &&& 1 = 1 := by
  obtain ⟨j, hj, e⟩ := pk_andE x (m := 1) 1 (by decide)
  have : j = 0 ∨ j = 1 := by omega
  rw [e]
  rcases this with rfl | rfl
  · exact Or.inl rfl
  · exact Or.inr rfl
theorem ty_p (x : Int32) : (if (if x &&& 1 = 1 then (2 : Int32) else 1) = 2 then (1 : Int32) else 0) = x &&& 1 := by
  rcases and1_01 x with e | e <;> rw [e] <;> decide
theorem ty_t (x : Int32) : ct2_ (if x &&& 1 = 1 then (2 : Int32) else 1) = x &&& 1 := by
  rcases and1_01 x with e | e <;> rw [e] <;> decide
theorem ty_in (x : Int32) : (if x &&& 1 = 1 then (2 : Int32) else 1) = 0 ∨ (if x &&& 1 = 1 then (2 : Int32) else 1) = 1 ∨ (if x &&& 1 = 1 then (2 : Int32) else 1) = 2 := by
  split
  · exact Or.inr (Or.inr rfl)
  · exact Or.inr (Or.inl rfl)
theorem jv_call_12 {q : Nat} {F : fc_} (R : fnR h q F) (kx : hM Unit) (Y : sq_ → Bool ⊕ sq_) (hk : jv_ h vf lt pg fn sc ar kx Y) : ∀ (c fu : Nat), c < 1000 → c < fu → jv_ h vf lt pg fn sc ar (p_Verifier_callFunction_12 (some vf) (some q) kx fu (nI c + (-1))) (fun s => xb_ (o2x_ (tkc_ (F.1 2) c s)) Y) := by
  intro c
  induction c with
  | zero =>
    intro fu _ hf
    obtain ⟨g, rfl⟩ : ∃ g, fu = g + 1 := ⟨fu - 1, by omega⟩
    rw [p_Verifier_callFunction_12, if_pos (show nI 0 + (-1) < 0 by decide)]
    exact hk
  | succ c ih =>
    intro fu hc hf
    obtain ⟨g, rfl⟩ : ∃ g, fu = g + 1 := ⟨fu - 1, by omega⟩
    rw [pk_m1, p_Verifier_callFunction_12, if_neg (nI_pos (by omega))]
    refine jv_pre h vf lt pg fn sc ar (a := if (F.1 2 >>> (nI c &&& 31)) &&& 1 = 1 then 2 else 1) (fun s ft => ?_) ?_
    · rw [fr_on (fnR_ve R _ _ _ _ _ _ _), bd_0 (s_typeOfLocal (fnR_ve R _ _ _ _ _ _ _) _)]
    · have k := jv_tkt h vf lt pg fn sc ar _ (ty_in (F.1 2 >>> (nI c &&& 31))) (ih g (by omega) (by omega))
      rw [ty_t] at k
      exact k
theorem jv_call {q : Nat} {F : fc_} (R : fnR h q F) (c : Nat) (hc : c < 1000) (e0 : F.1 0 = nI c) (hr : F.1 3 = 0 ∨ F.1 3 = 1 ∨ F.1 3 = 2) : jv_ h vf lt pg fn sc ar (p_Verifier_callFunction (some vf) (some q)) (fun s => xb_ (o2x_ (tkc_ (F.1 2) c s)) (fun s => if F.1 3 ≤ 0 then .inr s else xp_ (F.1 3 - 1) s)) := by
  rw [p_Verifier_callFunction, if_neg (by intro z; cases z)]
  refine jv_pre h vf lt pg fn sc ar (a := nI c) (fun s ft => by rw [fr_get0 (fnR_ve R _ _ _ _ _ _ _), e0]) ?_
  rw [show nI c - 1 = nI c + (-1) from Int32.sub_eq_add_neg _ _]
  refine jv_call_12 h vf lt pg fn sc ar R _ _ ?_ c hm_fuel hc (by unfold hm_fuel; omega)
  refine jv_pre h vf lt pg fn sc ar (a := F.1 3) (fun s ft => by rw [fr_get3 (fnR_ve R _ _ _ _ _ _ _)]) ?_
  by_cases z : F.1 3 = 0
  · rw [if_pos z]
    refine jv_eq _ _ _ _ _ _ _ (jv_ret h vf lt pg fn sc ar) (fun q => ?_)
    rw [z, if_pos (by decide)]
  · rw [if_neg z]
    refine jv_pre h vf lt pg fn sc ar (a := F.1 3) (fun s ft => by rw [fr_get3 (fnR_ve R _ _ _ _ _ _ _)]) ?_
    have k := jv_put1 h vf lt pg fn sc ar (F.1 3)
    refine jv_eq _ _ _ _ _ _ _ k (fun q => ?_)
    rcases hr with e | e | e
    · exact absurd e z
    · rw [e, if_neg (by decide), if_neg (by decide)]; rfl
    · rw [e, if_pos rfl, if_neg (by decide)]; rfl
end VMV
