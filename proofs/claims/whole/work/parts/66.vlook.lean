/-! THE CLASS's VERIFIER: lookAt is the specification's lk_. -/
theorem s_goesToPlace (o : Int32) (H : hc_H) : p_Kinds_goesToPlace o H = some (if o = 18 ∨ o = 19 ∨ o = 20 then 1 else 0, 0, 0, H) := by
  rw [p_Kinds_goesToPlace, ev_ite]
  by_cases h0 : o = 18
  · rw [if_pos h0, if_pos (Or.inl h0), ev_z1]
  · rw [if_neg h0, ev_ite]
    by_cases h1 : o = 19
    · rw [if_pos h1, if_pos (Or.inr (Or.inl h1)), ev_z1]
    · rw [if_neg h1, ev_ite]
      by_cases h2 : o = 20
      · rw [if_pos h2, if_pos (Or.inr (Or.inr h2)), ev_z1]
      · rw [if_neg h2, if_neg (fun z => z.elim h0 (fun z => z.elim h1 h2)), ev_z0]
theorem s_goesOnBehind (o : Int32) (H : hc_H) : p_Kinds_goesOnBehind o H = some (if o = 18 ∨ o = 27 ∨ o = 28 then 0 else 1, 0, 0, H) := by
  rw [p_Kinds_goesOnBehind, ev_ite]
  by_cases h0 : o = 18
  · rw [if_pos h0, if_pos (Or.inl h0), ev_z0]
  · rw [if_neg h0, ev_ite]
    by_cases h1 : o = 27
    · rw [if_pos h1, if_pos (Or.inr (Or.inl h1)), ev_z0]
    · rw [if_neg h1, ev_ite]
      by_cases h2 : o = 28
      · rw [if_pos h2, if_pos (Or.inr (Or.inr h2)), ev_z0]
      · rw [if_neg h2, if_neg (fun z => z.elim h0 (fun z => z.elim h1 h2)), ev_z1]
theorem gtp_iff {o : Int32} (ho : ∃ j, j ≤ 29 ∧ o = nI j) : (o = 18 ∨ o = 19 ∨ o = 20) ↔ (17 < o ∧ o < 21) := by
  obtain ⟨j, hj, rfl⟩ := ho
  have e (k : Nat) (hk : k ≤ 29) : nI j = nI k ↔ j = k := nI_eq (by omega) (by omega)
  have l1 : (17 : Int32) < nI j ↔ 17 < j := nI_ltI (a := 17) (by omega) (by omega)
  have l2 : nI j < (21 : Int32) ↔ j < 21 := nI_ltI (b := 21) (by omega) (by omega)
  rw [l1, l2, show (18 : Int32) = nI 18 by decide, show (19 : Int32) = nI 19 by decide, show (20 : Int32) = nI 20 by decide, e 18 (by omega), e 19 (by omega), e 20 (by omega)]
  omega
theorem scv_of (sc : Nat → Int32) (x y : Int32) : va_up (va_up sc 9 x) 10 y = scv_ sc (x, y) := by
  funext k
  simp only [va_up, scv_]
  by_cases h1 : k = 10
  · subst h1; rfl
  · simp [h1]
/-- a function of a program, as the class has it, can be verified -/
def okf_ (FF : Nat → fc_) (np f n hn : Nat) : Prop :=
  (FF f).1 4 = nI n ∧ 1 ≤ n ∧ n ≤ 400 ∧ (FF f).1 5 = nI hn ∧ hn ≤ 6 ∧ ((FF f).1 3 = 0 ∨ (FF f).1 3 = 1 ∨ (FF f).1 3 = 2) ∧ (∀ k, k < hn → ∃ t, t < n ∧ (FF f).2.2 k 2 = nI t) ∧
  ∀ i, i < n → (∃ j, j ≤ 29 ∧ (FF f).2.1 0 i = nI j) ∧ ((FF f).2.1 0 i = 18 ∨ (FF f).2.1 0 i = 19 ∨ (FF f).2.1 0 i = 20 → ∃ t, t < n ∧ (FF f).2.1 1 i = nI t) ∧
    ((FF f).2.1 0 i = 25 → ∃ t c, t < np ∧ (FF f).2.1 1 i = nI t ∧ c < 1000 ∧ (FF t).1 0 = nI c ∧ ((FF t).1 3 = 0 ∨ (FF t).1 3 = 1 ∨ (FF t).1 3 = 2)) ∧
    ((FF f).2.1 0 i = 26 ∨ (FF f).2.1 0 i = 29 → ∃ t, t < 1000 ∧ (FF f).2.1 1 i = nI t)
/-- the program at pa has the functions FF at Q -/
def prF (h : hc_H) (pa np : Nat) (fqs : Nat → Option Nat) (Q : Nat → Nat) (FF : Nat → fc_) : Prop := prR h pa np fqs ∧ np ≤ 12 ∧ ∀ g, g < np → fqs g = some (Q g) ∧ fnR h (Q g) (FF g)
def lkc_ (FF : Nat → fc_) (f n hn i : Nat) (s : s3_) : (Int32 × Int32) ⊕ s3_ :=
  lk_ f n ((FF f).2.1 0) ((FF f).2.1 1) hn (fun k => (FF f).2.2 k 0) (fun k => (FF f).2.2 k 1) (fun k => (FF f).2.2 k 2) (fun g => (FF g).1 2) (fun g => (FF g).1 3) (fun g => (FF g).1 0) i s
section VLK
variable (h : hc_H) (vf lt pa fq : Nat)
def lj_ (n : Nat) (x7 : Int32) (ft : Int32 × Int32) (r : Option (Unit × Nat × Nat × hc_H)) (x : (Int32 × Int32) ⊕ s3_) : Prop := match x with
  | .inl e => ∃ sc' s', r = some ((), 0, 0, E3_ h vf lt pa fq sc' e s') ∧ lwb_ n sc'
  | .inr s' => ∃ sc', r = some ((), 0, 0, E3_ h vf lt pa fq sc' ft s') ∧ sc' 7 = x7 ∧ lw_ n sc' s' ∧ m1_ n s'
theorem s_V_handlers_x {F : fc_} {hn : Nat} (R : fnR h fq F) (hhn : hn ≤ 6) (e5 : F.1 5 = nI hn) (sc : Nat → Int32) (ft : Int32 × Int32) (e0 : ¬ ft.1 = 0) (s : s3_) : p_Verifier_comeToHandlers (some vf) (E3_ h vf lt pa fq sc ft s) = some ((), 0, 0, E3_ h vf lt pa fq sc ft s) := by
  have k := s_V_hd_x h vf lt pa fq R hhn e5 sc ft e0 s (hm_ret ()) hn hm_fuel (Nat.le_refl _) (by unfold hm_fuel; omega)
  rw [Nat.sub_self] at k
  exact k.trans (ev_ret _ _)
def tl2_ (vf : Nat) (a8 : Int32) : hM Unit := hm_bind (p_Kinds_goesOnBehind a8) fun a13 => if a13 = 0 then hm_ret () else hm_bind (hm_on 7 (some vf) (p_Verifier_comeToNext (some vf))) fun _ => hm_ret ()
def tl1_ (vf : Nat) (a8 a11 : Int32) : hM Unit := hm_bind (p_Kinds_goesToPlace a8) fun a12 => if a12 = 0 then tl2_ vf a8 else hm_bind (hm_geti 7 9 (some vf)) fun a14 => hm_bind (hm_geti 7 10 (some vf)) fun a15 => hm_bind (hm_on 7 (some vf) (p_Verifier_comeTo (some vf) a11 a14 a15)) fun _ => tl2_ vf a8
def tl0_ (vf : Nat) (a8 a11 : Int32) : hM Unit := hm_bind (hm_on 7 (some vf) (p_Verifier_comeToHandlers (some vf))) fun _ => tl1_ vf a8 a11
theorem tl2_x {F : fc_} (R : fnR h fq F) (sc : Nat → Int32) (ft : Int32 × Int32) (e0 : ¬ ft.1 = 0) (s : s3_) (a8 : Int32) : tl2_ vf a8 (E3_ h vf lt pa fq sc ft s) = some ((), 0, 0, E3_ h vf lt pa fq sc ft s) := by
  rw [tl2_, bd_0 (s_goesOnBehind _ _), ev_ite]
  by_cases c : (if a8 = 18 ∨ a8 = 27 ∨ a8 = 28 then (0 : Int32) else 1) = 0
  · rw [if_pos c, ev_ret]
  · rw [if_neg c, ve_on, bd_0 (s_V_next_x h vf lt pa fq R sc ft e0 s), ev_ret]
theorem tl1_x {F : fc_} (R : fnR h fq F) (sc : Nat → Int32) (ft : Int32 × Int32) (e0 : ¬ ft.1 = 0) (s : s3_) (a8 a11 : Int32) : tl1_ vf a8 a11 (E3_ h vf lt pa fq sc ft s) = some ((), 0, 0, E3_ h vf lt pa fq sc ft s) := by
  rw [tl1_, bd_0 (s_goesToPlace _ _), ev_ite]
  by_cases c : (if a8 = 18 ∨ a8 = 19 ∨ a8 = 20 then (1 : Int32) else 0) = 0
  · rw [if_pos c, tl2_x h vf lt pa fq R sc ft e0 s]
  · rw [if_neg c, ve_get9, ve_get10, ve_on, bd_0 (s_V_comeTo_x h vf lt pa fq sc ft s _ _ _ e0), tl2_x h vf lt pa fq R sc ft e0 s]
theorem tl0_x {F : fc_} {hn : Nat} (R : fnR h fq F) (hhn : hn ≤ 6) (e5 : F.1 5 = nI hn) (sc : Nat → Int32) (ft : Int32 × Int32) (e0 : ¬ ft.1 = 0) (s : s3_) (a8 a11 : Int32) : tl0_ vf a8 a11 (E3_ h vf lt pa fq sc ft s) = some ((), 0, 0, E3_ h vf lt pa fq sc ft s) := by
  rw [tl0_, ve_on, bd_0 (s_V_handlers_x h vf lt pa fq R hhn e5 sc ft e0 s), tl1_x h vf lt pa fq R sc ft e0 s]
theorem tl2_s {F : fc_} {n f i : Nat} (R : fnR h fq F) (hn4 : n ≤ 400) (e4 : F.1 4 = nI n) (hf : f < 12) (hi : i < n) (sc : Nat → Int32) (ft : Int32 × Int32) (s : s3_) (e7 : sc 7 = nI (512 * f)) (e8 : sc 8 = nI i) (e0 : ft.1 = 0) (hq : ¬ sc 9 < 0) (hm : m1_ n s) (hw : lw_ n sc s) (a8 : Int32) : lj_ h vf lt pa fq n (nI (512 * f)) ft (tl2_ vf a8 (E3_ h vf lt pa fq sc ft s)) (if a8 = 18 ∨ a8 = 27 ∨ a8 = 28 then .inr s else if i + 1 = n then .inl (8, nI (512 * f + i)) else cm_ f (i + 1) (sc 9, sc 10) s) := by
  have one : ¬ (1 : Int32) = 0 := by decide
  rw [tl2_, bd_0 (s_goesOnBehind _ _), ev_ite]
  by_cases c : a8 = 18 ∨ a8 = 27 ∨ a8 = 28
  · rw [if_pos c, if_pos c, if_pos rfl, ev_ret]
    exact ⟨sc, rfl, e7, hw, hm⟩
  · rw [if_neg c, if_neg c, if_neg one, ve_on]
    have key := s_V_next h vf lt pa fq R hn4 e4 hf hi sc ft s e7 e8 e0 hm hw
    cases ec : (if i + 1 = n then Sum.inl (8, nI (512 * f + i)) else cm_ f (i + 1) (sc 9, sc 10) s : (Int32 × Int32) ⊕ s3_) with
    | inl e =>
      rw [ec] at key
      obtain ⟨sc', s', ek, hb⟩ := key
      rw [bd_0 ek, ev_ret]
      exact ⟨sc', s', rfl, hb⟩
    | inr s' =>
      rw [ec] at key
      obtain ⟨y, ek, hw'⟩ := key
      rw [bd_0 ek, ev_ret]
      refine ⟨_, rfl, by rw [va_up_ne _ _ (by decide)]; exact e7, hw', ?_⟩
      split at ec
      · cases ec
      · exact m1_cm hm hq ec
theorem tl1_s {F : fc_} {n f i : Nat} (R : fnR h fq F) (hn4 : n ≤ 400) (e4 : F.1 4 = nI n) (hf : f < 12) (hi : i < n) (sc : Nat → Int32) (ft : Int32 × Int32) (s : s3_) (e7 : sc 7 = nI (512 * f)) (e8 : sc 8 = nI i) (e0 : ft.1 = 0) (hq : ¬ sc 9 < 0) (hm : m1_ n s) (hw : lw_ n sc s) (a8 a11 : Int32) (hj : a8 = 18 ∨ a8 = 19 ∨ a8 = 20 → ∃ t, t < n ∧ a11 = nI t) : lj_ h vf lt pa fq n (nI (512 * f)) ft (tl1_ vf a8 a11 (E3_ h vf lt pa fq sc ft s)) (bi_ (if a8 = 18 ∨ a8 = 19 ∨ a8 = 20 then cm_ f a11.toNatClampNeg (sc 9, sc 10) s else .inr s) fun s => if a8 = 18 ∨ a8 = 27 ∨ a8 = 28 then .inr s else if i + 1 = n then .inl (8, nI (512 * f + i)) else cm_ f (i + 1) (sc 9, sc 10) s) := by
  have one : ¬ (1 : Int32) = 0 := by decide
  rw [tl1_, bd_0 (s_goesToPlace _ _), ev_ite]
  by_cases c : a8 = 18 ∨ a8 = 19 ∨ a8 = 20
  · obtain ⟨t, t1, t2⟩ := hj c
    rw [if_pos c, if_pos c, if_neg one, ve_get9, ve_get10, ve_on, t2, nI_clamp (show t < 2 ^ 31 by omega)]
    have key := s_V_comeTo h vf lt pa fq R hn4 e4 t1 hf sc e7 ft e0 (sc 9, sc 10) s (hm t t1) hw
    cases ec : cm_ f t (sc 9, sc 10) s with
    | inl e =>
      rw [ec] at key
      obtain ⟨sc', s', ek, hb⟩ := key
      rw [bd_0 ek, tl2_x h vf lt pa fq R sc' e (by rw [cm_7 ec]; decide) s']
      exact ⟨sc', s', rfl, hb⟩
    | inr s' =>
      rw [ec] at key
      obtain ⟨y, ek, hw'⟩ := key
      rw [bd_0 ek]
      have := tl2_s h vf lt pa fq R hn4 e4 hf hi (va_up sc 4 y) ft s' (by rw [va_up_ne _ _ (by decide)]; exact e7) (by rw [va_up_ne _ _ (by decide)]; exact e8) e0 (by rw [va_up_ne _ _ (by decide)]; exact hq) (m1_cm hm hq ec) hw' a8
      rw [va_up_ne _ _ (show (9 : Nat) ≠ 4 by decide), va_up_ne _ _ (show (10 : Nat) ≠ 4 by decide)] at this
      exact this
  · rw [if_neg c, if_neg c, if_pos rfl]
    exact tl2_s h vf lt pa fq R hn4 e4 hf hi sc ft s e7 e8 e0 hq hm hw a8
theorem tl0_s {F : fc_} {n f hn i : Nat} (R : fnR h fq F) (hn4 : n ≤ 400) (e4 : F.1 4 = nI n) (hhn : hn ≤ 6) (e5 : F.1 5 = nI hn) (hf : f < 12) (hg : ∀ k, k < hn → ∃ t, t < n ∧ F.2.2 k 2 = nI t) (hi : i < n) (sc : Nat → Int32) (ft : Int32 × Int32) (s : s3_) (e7 : sc 7 = nI (512 * f)) (e8 : sc 8 = nI i) (e0 : ft.1 = 0) (hq : ¬ sc 9 < 0) (hm : m1_ n s) (hw : lw_ n sc s) (a8 a11 : Int32) (hj : a8 = 18 ∨ a8 = 19 ∨ a8 = 20 → ∃ t, t < n ∧ a11 = nI t) : lj_ h vf lt pa fq n (nI (512 * f)) ft (tl0_ vf a8 a11 (E3_ h vf lt pa fq sc ft s)) (bi_ (hd_ f i hn (fun k => F.2.2 k 0) (fun k => F.2.2 k 1) (fun k => F.2.2 k 2) hn s) fun s => bi_ (if a8 = 18 ∨ a8 = 19 ∨ a8 = 20 then cm_ f a11.toNatClampNeg (sc 9, sc 10) s else .inr s) fun s => if a8 = 18 ∨ a8 = 27 ∨ a8 = 28 then .inr s else if i + 1 = n then .inl (8, nI (512 * f + i)) else cm_ f (i + 1) (sc 9, sc 10) s) := by
  rw [tl0_, ve_on]
  have key := s_V_hd h vf lt pa fq R hn4 e4 hhn e5 hf hg (hm_ret ()) hn hm_fuel sc ft s (Nat.le_refl _) (by unfold hm_fuel; omega) e7 e8 e0 hm hw (i := i)
  rw [Nat.sub_self] at key
  cases ec : hd_ f i hn (fun k => F.2.2 k 0) (fun k => F.2.2 k 1) (fun k => F.2.2 k 2) hn s with
  | inl e =>
    rw [ec] at key
    obtain ⟨sc', s', ne, hb, ek⟩ := key
    have ek : p_Verifier_comeToHandlers (some vf) (E3_ h vf lt pa fq sc ft s) = some ((), 0, 0, E3_ h vf lt pa fq sc' e s') := ek
    rw [bd_0 ek, tl1_x h vf lt pa fq R sc' e ne s']
    exact ⟨sc', s', rfl, hb⟩
  | inr s' =>
    rw [ec] at key
    obtain ⟨y, ek, hw', hm'⟩ := key
    have ek : p_Verifier_comeToHandlers (some vf) (E3_ h vf lt pa fq sc ft s) = some ((), 0, 0, E3_ h vf lt pa fq (va_up sc 4 y) ft s') := ek
    rw [bd_0 ek]
    have := tl1_s h vf lt pa fq R hn4 e4 hf hi (va_up sc 4 y) ft s' (by rw [va_up_ne _ _ (by decide)]; exact e7) (by rw [va_up_ne _ _ (by decide)]; exact e8) e0 (by rw [va_up_ne _ _ (by decide)]; exact hq) hm' hw' a8 a11 hj
    rw [va_up_ne _ _ (show (9 : Nat) ≠ 4 by decide), va_up_ne _ _ (show (10 : Nat) ≠ 4 by decide)] at this
    exact this
theorem s_V_lookAt {np f n hn i d : Nat} {fqs : Nat → Option Nat} {Q : Nat → Nat} {FF : Nat → fc_} (RP : prF h pa np fqs Q FF) (hf : f < np) (hfq : Q f = fq) (ok : okf_ FF np f n hn) (hi : i < n) (sc : Nat → Int32) (ft : Int32 × Int32) (s : s3_) (e7 : sc 7 = nI (512 * f)) (e0 : ft.1 = 0) (hm : m1_ n s) (hw : lw_ n sc s) (hd : wf_ d (s.1 i, s.2.1 i)) (h16 : d ≤ 16) : lj_ h vf lt pa fq n (nI (512 * f)) ft (p_Verifier_lookAt (some vf) (nI i) (E3_ h vf lt pa fq sc ft s)) (lkc_ FF f n hn i (s.1, s.2.1, va_up s.2.2 i 0)) := by
  obtain ⟨e4, hn1, hn4, e5, hhn, hres, hg, hop⟩ := ok
  obtain ⟨ho, hj, h25, h26⟩ := hop i hi
  have R : fnR h fq (FF f) := hfq ▸ (RP.2.2 f hf).2
  have hf12 : f < 12 := Nat.lt_of_lt_of_le hf RP.2.1
  have hin : ¬ (nI i < 0 ∨ 400 ≤ (nI i).toNatClampNeg) := nI_in (by omega) (by omega)
  have hcl : (nI i).toNatClampNeg = i := nI_clamp (by omega)
  have RE := fun sc ft s => fnR_ve R vf lt (some pa) (some fq) sc ft (va3_ s)
  have hw1 : lw_ n (va_up sc 8 (nI i)) (s.1, s.2.1, va_up s.2.2 i 0) := by
    obtain ⟨w, w1, w2, w3⟩ := hw
    refine ⟨w, w1, by rw [va_up_ne _ _ (by decide)]; exact w2, fun j hj => ?_⟩
    show va_up s.2.2 i 0 j = 0
    by_cases e : j = i
    · subst e; exact va_up_self _ _ _
    · rw [va_up_ne _ _ e]; exact w3 j hj
  have hb1 : ∀ q : sq_, lwb_ n (scv_ (va_up sc 8 (nI i)) q) := by
    intro q
    obtain ⟨w, w1, w2, -⟩ := hw1
    exact ⟨w, w1, by rw [scv_4]; exact w2⟩
  have start : p_Verifier_lookAt (some vf) (nI i) (E3_ h vf lt pa fq sc ft s) = hm_bind (p_Verifier_takeAndPut (some vf) ((FF f).2.1 0 i) ((FF f).2.1 1 i)) (fun _ => tl0_ vf ((FF f).2.1 0 i) ((FF f).2.1 1 i)) (E3_ h vf lt pa fq (scv_ (va_up sc 8 (nI i)) (s.1 i, s.2.1 i)) ft (s.1, s.2.1, va_up s.2.2 i 0)) := by
    rw [p_Verifier_lookAt, ve_ref2, ve_ist6, if_neg hin, hcl, va3_u6, ve_put8, ve_ref0, ve_ild4, if_neg hin, hcl, va3_4, ve_put9, ve_ref1, ve_ild5, if_neg hin, hcl, va3_5, ve_put10, ve_ref5, fr_ref6 (RE _ _ _), fr_ild0 (RE _ _ _), if_neg hin, hcl, ve_ref5, fr_ref7 (RE _ _ _), fr_ild1 (RE _ _ _), if_neg hin, hcl, ve_on, scv_of]
    rfl
  rw [start]
  obtain ⟨X, jX, eX⟩ := jv_tap h vf lt (va_up sc 8 (nI i)) (va3_ (s.1, s.2.1, va_up s.2.2 i 0)) RP.1 RP.2.1 R hres ((FF f).2.1 0 i) ((FF f).2.1 1 i) ((FF ((FF f).2.1 1 i).toNatClampNeg).1 0) ((FF ((FF f).2.1 1 i).toNatClampNeg).1 2) ((FF ((FF f).2.1 1 i).toNatClampNeg).1 3) ho (fun c => by
    obtain ⟨t, c, t1, t2, t3, t4, t5⟩ := h25 c
    rw [t2, nI_clamp (show t < 2 ^ 31 by have := RP.2.1; omega)]
    exact ⟨t, Q t, FF t, c, rfl, t1, (RP.2.2 t t1).1, (RP.2.2 t t1).2, rfl, rfl, rfl, t3, t4, t5⟩) h26
  have key := jX.1 (s.1 i, s.2.1 i) ft e0
  rw [eX _ d hd h16] at key
  have e78 : va_up sc 8 (nI i) 7 + va_up sc 8 (nI i) 8 = nI (512 * f + i) := by rw [va_up_ne _ _ (by decide), va_up_self, e7, nI_add]
  unfold lkc_ lk_
  generalize emv : mv_ ((FF f).2.1 0 i) ((FF f).2.1 1 i) ((FF f).1 2) ((FF f).1 3) ((FF ((FF f).2.1 1 i).toNatClampNeg).1 0) ((FF ((FF f).2.1 1 i).toNatClampNeg).1 2) ((FF ((FF f).2.1 1 i).toNatClampNeg).1 3) (s.1 i, s.2.1 i) = x at key
  cases x with
  | none =>
    obtain ⟨q', ek⟩ := key
    rw [e78] at ek
    rw [bd_0 ek, tl0_x h vf lt pa fq R hhn e5 _ _ (by decide : ¬ (5 : Int32) = 0)]
    exact ⟨_, _, rfl, hb1 q'⟩
  | some q =>
    have key : jr_ h vf lt (some pa) (some fq) (va_up sc 8 (nI i)) (va3_ (s.1, s.2.1, va_up s.2.2 i 0)) _ ft (if 16 < q.1 then .inl false else .inr q) := key
    by_cases c16 : 16 < q.1
    · rw [if_pos c16] at key
      obtain ⟨q', ek⟩ := key
      rw [e78] at ek
      simp only [if_pos c16]
      rw [bd_0 ek, tl0_x h vf lt pa fq R hhn e5 _ _ (by decide : ¬ (6 : Int32) = 0)]
      exact ⟨_, _, rfl, hb1 q'⟩
    · rw [if_neg c16] at key
      have key : _ = _ := key
      simp only [if_neg c16]
      rw [bd_0 key]
      have hq0 : ¬ q.1 < 0 := by
        obtain ⟨d', g1, g2⟩ := mv_h hd.1 h16 (fun z => by
          obtain ⟨t, t1, t2⟩ := h26 z
          rw [t2, show nI t - nI t / 4 * 4 = nI (t % 4) from pk_rem (d := 4) (by omega) (by omega) (by omega), nI_clamp (by omega)]
          omega) emv
        rw [g2]
        exact nI_pos (by omega)
      have := tl0_s h vf lt pa fq R hn4 e4 hhn e5 hf12 hg hi (scv_ (va_up sc 8 (nI i)) q) ft (s.1, s.2.1, va_up s.2.2 i 0) (by rw [scv_7, va_up_ne _ _ (by decide)]; exact e7) (by rw [scv_8, va_up_self]) e0 (by rw [scv_9]; exact hq0) hm (by
        obtain ⟨w, w1, w2, w3⟩ := hw1
        exact ⟨w, w1, by rw [scv_4]; exact w2, w3⟩) ((FF f).2.1 0 i) ((FF f).2.1 1 i) hj
      rw [scv_9, scv_10] at this
      simp only [gtp_iff ho] at this
      exact this
end VLK
