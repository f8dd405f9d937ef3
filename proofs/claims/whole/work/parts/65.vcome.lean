/-! THE CLASS's VERIFIER: comeTo, comeToHandlers, comeToNext. -/
def va3_ (s : s3_) : Nat → Nat → Int32 := fun k => if k = 4 then s.1 else if k = 5 then s.2.1 else s.2.2
theorem va3_4 (s : s3_) : va3_ s 4 = s.1 := (Eq.refl _).trans (Eq.refl _)
theorem va3_5 (s : s3_) : va3_ s 5 = s.2.1 := (Eq.refl _).trans (Eq.refl _)
theorem va3_6 (s : s3_) : va3_ s 6 = s.2.2 := (Eq.refl _).trans (Eq.refl _)
section VCM
variable (h : hc_H) (vf lt pa fq : Nat)
abbrev E3_ (sc : Nat → Int32) (ft : Int32 × Int32) (s : s3_) : hc_H := ve_em h vf lt (some pa) (some fq) sc ft (va3_ s)
theorem ve_ar (pg fn : Option Nat) (sc : Nat → Int32) (ft : Int32 × Int32) {ar ar' : Nat → Nat → Int32} (e : ∀ k, 4 ≤ k → k ≤ 6 → ar k = ar' k) : ve_em h vf lt pg fn sc ft ar = ve_em h vf lt pg fn sc ft ar' := by
  refine hc_ext rfl (fun k a => ?_) (fun _ _ => rfl) (fun _ _ => rfl)
  simp only [ve_em]
  split
  · next q => rw [e k q.1.1 q.1.2]
  · rfl
theorem va3_u4 (sc : Nat → Int32) (ft : Int32 × Int32) (s : s3_) (f : Nat → Int32) : ve_em h vf lt (some pa) (some fq) sc ft (va_up (va3_ s) 4 f) = E3_ h vf lt pa fq sc ft (f, s.2) := by
  refine ve_ar h vf lt _ _ sc ft (fun k h1 h2 => ?_)
  have : k = 4 ∨ k = 5 ∨ k = 6 := by omega
  rcases this with rfl | rfl | rfl <;> rfl
theorem va3_u5 (sc : Nat → Int32) (ft : Int32 × Int32) (s : s3_) (f : Nat → Int32) : ve_em h vf lt (some pa) (some fq) sc ft (va_up (va3_ s) 5 f) = E3_ h vf lt pa fq sc ft (s.1, f, s.2.2) := by
  refine ve_ar h vf lt _ _ sc ft (fun k h1 h2 => ?_)
  have : k = 4 ∨ k = 5 ∨ k = 6 := by omega
  rcases this with rfl | rfl | rfl <;> rfl
theorem va3_u6 (sc : Nat → Int32) (ft : Int32 × Int32) (s : s3_) (f : Nat → Int32) : ve_em h vf lt (some pa) (some fq) sc ft (va_up (va3_ s) 6 f) = E3_ h vf lt pa fq sc ft (s.1, s.2.1, f) := by
  refine ve_ar h vf lt _ _ sc ft (fun k h1 h2 => ?_)
  have : k = 4 ∨ k = 5 ∨ k = 6 := by omega
  rcases this with rfl | rfl | rfl <;> rfl
theorem sc_u4 {sc : Nat → Int32} {x : Int32} (e : sc 4 = x) : va_up sc 4 x = sc := by
  funext k
  simp only [va_up]
  split
  · next q => rw [q, e]
  · rfl
theorem s_has {q : Nat} {F : fc_} {H : hc_H} (R : fnR H q F) {n : Nat} (hn : n ≤ 400) (e4 : F.1 4 = nI n) (x : Int32) : p_Function_has (some q) x H = some (if x < 0 ∨ nI n ≤ x then 0 else 1, 0, 0, H) := by
  rw [p_Function_has, ev_ite]
  by_cases h0 : x < 0
  · rw [if_pos h0, if_pos (Or.inl h0), ev_z0]
  · rw [if_neg h0, fr_get4 R, e4, ev_ite]
    by_cases h1 : nI n ≤ x
    · rw [if_pos h1, if_pos (Or.inr h1), ev_z0]
    · rw [if_neg h1, if_neg (fun z => z.elim h0 h1), ev_z1]
/-- none below sc 4 waits -/
def lw_ (n : Nat) (sc : Nat → Int32) (s : s3_) : Prop := ∃ w, w ≤ n ∧ sc 4 = nI w ∧ ∀ j, j < w → s.2.2 j = 0
/-- sc 4 is a place, or the count -/
def lwb_ (n : Nat) (sc : Nat → Int32) : Prop := ∃ w, w ≤ n ∧ sc 4 = nI w
theorem lwb_of {n : Nat} {sc : Nat → Int32} {s : s3_} (h : lw_ n sc s) : lwb_ n sc := by
  obtain ⟨w, h1, h2, -⟩ := h
  exact ⟨w, h1, h2⟩
def cj_ (n : Nat) (sc : Nat → Int32) (ft : Int32 × Int32) (r : Option (Unit × Nat × Nat × hc_H)) (x : (Int32 × Int32) ⊕ s3_) : Prop := match x with
  | .inl e => ∃ sc' s', r = some ((), 0, 0, E3_ h vf lt pa fq sc' e s') ∧ lwb_ n sc'
  | .inr s' => ∃ y, r = some ((), 0, 0, E3_ h vf lt pa fq (va_up sc 4 y) ft s') ∧ lw_ n (va_up sc 4 y) s'
theorem s_V_comeTo_x (sc : Nat → Int32) (ft : Int32 × Int32) (s : s3_) (x1 x2 x3 : Int32) (e0 : ¬ ft.1 = 0) : p_Verifier_comeTo (some vf) x1 x2 x3 (E3_ h vf lt pa fq sc ft s) = some ((), 0, 0, E3_ h vf lt pa fq sc ft s) := by
  rw [p_Verifier_comeTo, ve_ref6, ve_fk, ev_ite, if_neg e0, ev_ret]
theorem s_V_comeTo {F : fc_} {n f i : Nat} (R : fnR h fq F) (hn : n ≤ 400) (e4 : F.1 4 = nI n) (hi : i < n) (hf : f < 12) (sc : Nat → Int32) (e7 : sc 7 = nI (512 * f)) (ft : Int32 × Int32) (e0 : ft.1 = 0) (q : sq_) (s : s3_) (hs : s.1 i < 0 → s.1 i = -1) (hw : lw_ n sc s) : cj_ h vf lt pa fq n sc ft (p_Verifier_comeTo (some vf) (nI i) q.1 q.2 (E3_ h vf lt pa fq sc ft s)) (cm_ f i q s) := by
  have hin : ¬ (nI i < 0 ∨ 400 ≤ (nI i).toNatClampNeg) := nI_in (by omega) (by omega)
  have hcl : (nI i).toNatClampNeg = i := nI_clamp (by omega)
  have RE := fnR_ve R vf lt (some pa) (some fq) sc ft (va3_ s)
  obtain ⟨w, w1, w2, w3⟩ := hw
  have hh : ¬ (nI i < 0 ∨ nI n ≤ nI i) := fun z => z.elim (nI_pos (by omega)) (nI_ge hi (by omega))
  have one : ¬ (1 : Int32) = 0 := by decide
  rw [p_Verifier_comeTo, ve_ref6, ve_fk, ev_ite, if_pos e0, ve_ref5, fr_on RE, bd_0 (s_has RE hn e4 _), if_neg hh, ev_ite, if_neg one, ve_ref0, ve_ild4, if_neg hin, hcl, va3_4, ev_ite, cm_]
  by_cases h0 : s.1 i < 0
  · rw [if_pos (hs h0), if_pos h0, ve_ref0, ve_ist4, if_neg hin, hcl, va3_u4, ve_ref1, ve_ist5, if_neg hin, hcl, va3_u5, ve_ref2, ve_ist6, if_neg hin, hcl, va3_u6, ve_get3, ve_put3, ev_ret]
    have e16 : (if nI i < sc 4 then nI i else sc 4) = nI (min i w) := by
      rw [w2]
      rcases Nat.lt_or_ge i w with z | z
      · rw [if_pos (nI_lt z (by omega)), Nat.min_eq_left (by omega)]
      · rw [if_neg (nI_nlt z (by omega)), Nat.min_eq_right z]
    refine ⟨nI (min i w), by rw [e16]; rfl, min i w, by omega, va_up_self _ _ _, fun j hj => ?_⟩
    have hj1 : j < i := by omega
    have hj2 : j < w := by omega
    show va_up s.2.2 i 1 j = 0
    rw [va_up_ne _ _ (by omega)]
    exact w3 j hj2
  · rw [if_neg (fun z => h0 (by rw [z]; decide)), if_neg h0, ve_ref0, ve_ild4, if_neg hin, hcl, va3_4]
    simp only [hm_jn]
    have tl : (hm_bind (hm_getr 7 6 (some vf)) fun a9 => hm_bind (hm_geti 7 7 (some vf)) fun a10 => hm_bind (hm_on 2 a9 (p_Fault_tell a9 7 (a10 + nI i))) fun _ => hm_ret ()) (E3_ h vf lt pa fq sc ft s) = some ((), 0, 0, E3_ h vf lt pa fq sc (7, nI (512 * f + i)) s) := by
      rw [ve_ref6, ve_get7, ve_onf, bd_0 (s_tell _ _ _ _ _ _ _ _ _ _), ev_ret, if_pos e0, e7, nI_add]
    rw [ev_ite]
    by_cases h1 : s.1 i = q.1
    · rw [if_pos h1, ve_ref1, ve_ild5, if_neg hin, hcl, va3_5, ev_ite]
      by_cases h2 : s.2.1 i = q.2
      · rw [if_pos h2, if_pos ⟨h1, h2⟩, ev_ret]
        exact ⟨nI w, by rw [sc_u4 w2], w, w1, va_up_self _ _ _, w3⟩
      · rw [if_neg h2, if_neg (fun z => h2 z.2), tl]
        exact ⟨sc, s, rfl, w, w1, w2⟩
    · rw [if_neg h1, if_neg (fun z => h1 z.1), tl]
      exact ⟨sc, s, rfl, w, w1, w2⟩
theorem s_covers {q : Nat} {F : fc_} {H : hc_H} (R : fnR H q F) (k : Nat) (hk : k < 6) (x : Int32) : p_Handler_covers (some (q + 6 + k)) x H = some (if F.2.2 k 0 ≤ x ∧ x < F.2.2 k 1 then 1 else 0, 0, 0, H) := by
  rw [p_Handler_covers, fr_h0 R k hk, ev_ite]
  by_cases h0 : x < F.2.2 k 0
  · rw [if_pos h0, if_neg (fun z => Int32.not_le.mpr h0 z.1), ev_z0]
  · rw [if_neg h0, fr_h1 R k hk, ev_ite]
    by_cases h1 : F.2.2 k 1 ≤ x
    · rw [if_pos h1, if_neg (fun z => Int32.not_lt.mpr h1 z.2), ev_z0]
    · rw [if_neg h1, if_pos ⟨Int32.not_lt.mp h0, Int32.not_le.mp h1⟩, ev_z1]
/-- the handlers, from the j-th on: one turn of the loop -/
theorem s_V_hd_head {F : fc_} {hn : Nat} (R : fnR h fq F) (hhn : hn ≤ 6) (e5 : F.1 5 = nI hn) (sc : Nat → Int32) (ft : Int32 × Int32) (s : s3_) (kx : hM Unit) (fu j : Nat) (hj : j ≤ hn) : p_Verifier_comeToHandlers_2 (some vf) kx (fu + 1) (nI j) (E3_ h vf lt pa fq sc ft s) = if j = hn then kx (E3_ h vf lt pa fq sc ft s) else if F.2.2 j 0 ≤ sc 8 ∧ sc 8 < F.2.2 j 1 then (hm_bind (p_Verifier_comeTo (some vf) (F.2.2 j 2) 1 0) fun _ => p_Verifier_comeToHandlers_2 (some vf) kx fu (nI (j + 1))) (E3_ h vf lt pa fq sc ft s) else p_Verifier_comeToHandlers_2 (some vf) kx fu (nI (j + 1)) (E3_ h vf lt pa fq sc ft s) := by
  have RE := fnR_ve R vf lt (some pa) (some fq) sc ft (va3_ s)
  rw [p_Verifier_comeToHandlers_2, ve_ref5, fr_get5 RE, e5, ev_ite]
  by_cases hjn : j = hn
  · rw [if_pos hjn, if_pos (by rw [hjn]; exact nI_le (Nat.le_refl _) (by omega))]
  · have hj6 : j < 6 := by omega
    rw [if_neg hjn, if_neg (nI_ge (by omega) (by omega)), ve_ref5, fr_ref10 RE, fr_qld RE j hj6, ve_get8, fr_onh RE j hj6, bd_0 (s_covers RE j hj6 _)]
    simp only [hm_jn]
    by_cases c : F.2.2 j 0 ≤ sc 8 ∧ sc 8 < F.2.2 j 1
    · rw [if_pos c, if_pos c, ev_ite, if_neg (by decide), fr_h2 RE j hj6, ve_on, nI_1]
    · rw [if_neg c, if_neg c, ev_ite, if_pos rfl, nI_1]
theorem s_V_hd_x {F : fc_} {hn : Nat} (R : fnR h fq F) (hhn : hn ≤ 6) (e5 : F.1 5 = nI hn) (sc : Nat → Int32) (ft : Int32 × Int32) (e0 : ¬ ft.1 = 0) (s : s3_) (kx : hM Unit) : ∀ (r fu : Nat), r ≤ hn → r < fu → p_Verifier_comeToHandlers_2 (some vf) kx fu (nI (hn - r)) (E3_ h vf lt pa fq sc ft s) = kx (E3_ h vf lt pa fq sc ft s) := by
  intro r
  induction r with
  | zero =>
    intro fu _ hf
    obtain ⟨g, rfl⟩ : ∃ g, fu = g + 1 := ⟨fu - 1, by omega⟩
    rw [s_V_hd_head h vf lt pa fq R hhn e5 sc ft s kx g _ (by omega), if_pos (by omega)]
  | succ r ih =>
    intro fu hr hf
    obtain ⟨g, rfl⟩ : ∃ g, fu = g + 1 := ⟨fu - 1, by omega⟩
    rw [s_V_hd_head h vf lt pa fq R hhn e5 sc ft s kx g _ (by omega), if_neg (by omega), bd_0 (s_V_comeTo_x h vf lt pa fq sc ft s _ _ _ e0), show hn - (r + 1) + 1 = hn - r by omega, ih g (by omega) (by omega)]
    split <;> rfl
/-- what is known keeps this: not come to is -1 -/
def m1_ (n : Nat) (s : s3_) : Prop := ∀ i, i < n → s.1 i < 0 → s.1 i = -1
theorem m1_cm {n f i : Nat} {q : sq_} {s s' : s3_} (hm : m1_ n s) (hq : ¬ q.1 < 0) (e : cm_ f i q s = .inr s') : m1_ n s' := by
  unfold cm_ at e
  split at e
  · cases e
    intro j hj hl
    by_cases hji : j = i
    · subst hji
      simp only [va_up_self] at hl
      exact absurd hl hq
    · simp only [va_up_ne _ _ hji] at hl ⊢
      exact hm j hj hl
  · split at e
    · cases e; exact hm
    · cases e
theorem va_up2 (sc : Nat → Int32) (x y : Int32) : va_up (va_up sc 4 x) 4 y = va_up sc 4 y := bx_uu sc 4 x y
theorem s_V_hd {F : fc_} {n f hn i : Nat} (R : fnR h fq F) (hn4 : n ≤ 400) (e4 : F.1 4 = nI n) (hhn : hn ≤ 6) (e5 : F.1 5 = nI hn) (hf : f < 12) (hg : ∀ k, k < hn → ∃ t, t < n ∧ F.2.2 k 2 = nI t) (kx : hM Unit) : ∀ (r fu : Nat) (sc : Nat → Int32) (ft : Int32 × Int32) (s : s3_), r ≤ hn → r < fu → sc 7 = nI (512 * f) → sc 8 = nI i → ft.1 = 0 → m1_ n s → lw_ n sc s →
    match hd_ f i hn (fun k => F.2.2 k 0) (fun k => F.2.2 k 1) (fun k => F.2.2 k 2) r s with
    | .inl e => ∃ sc' s', ¬ e.1 = 0 ∧ lwb_ n sc' ∧ p_Verifier_comeToHandlers_2 (some vf) kx fu (nI (hn - r)) (E3_ h vf lt pa fq sc ft s) = kx (E3_ h vf lt pa fq sc' e s')
    | .inr s' => ∃ y, p_Verifier_comeToHandlers_2 (some vf) kx fu (nI (hn - r)) (E3_ h vf lt pa fq sc ft s) = kx (E3_ h vf lt pa fq (va_up sc 4 y) ft s') ∧ lw_ n (va_up sc 4 y) s' ∧ m1_ n s' := by
  intro r
  induction r with
  | zero =>
    intro fu sc ft s _ hfu e7 e8 e0 hm hw
    obtain ⟨g, rfl⟩ : ∃ g, fu = g + 1 := ⟨fu - 1, by omega⟩
    obtain ⟨w, w1, w2, w3⟩ := hw
    refine ⟨nI w, ?_, ?_, hm⟩
    · rw [s_V_hd_head h vf lt pa fq R hhn e5 sc ft s kx g _ (by omega), if_pos (by omega), sc_u4 w2]
    · rw [sc_u4 w2]; exact ⟨w, w1, w2, w3⟩
  | succ r ih =>
    intro fu sc ft s hr hfu e7 e8 e0 hm hw
    obtain ⟨g, rfl⟩ : ∃ g, fu = g + 1 := ⟨fu - 1, by omega⟩
    rw [s_V_hd_head h vf lt pa fq R hhn e5 sc ft s kx g _ (by omega), if_neg (by omega), show hn - (r + 1) + 1 = hn - r by omega, hd_, e8]
    by_cases c : F.2.2 (hn - (r + 1)) 0 ≤ nI i ∧ nI i < F.2.2 (hn - (r + 1)) 1
    · rw [if_pos c, if_pos c]
      obtain ⟨t, t1, t2⟩ := hg (hn - (r + 1)) (by omega)
      have key := s_V_comeTo h vf lt pa fq R hn4 e4 t1 hf sc e7 ft e0 (1, 0) s (hm t t1) hw
      rw [t2, nI_clamp (show t < 2 ^ 31 by omega)]
      cases ec : cm_ f t (1, 0) s with
      | inl e =>
        rw [ec] at key
        obtain ⟨sc', s', ek, hb⟩ := key
        have e7' : ¬ e.1 = 0 := by rw [cm_7 ec]; decide
        refine ⟨sc', s', e7', hb, ?_⟩
        rw [bd_0 ek, s_V_hd_x h vf lt pa fq R hhn e5 sc' e e7' s' kx r g (by omega) (by omega)]
      | inr s' =>
        rw [ec] at key
        obtain ⟨y, ek, hw'⟩ := key
        rw [bd_0 ek]
        have := ih g (va_up sc 4 y) ft s' (by omega) (by omega) (by rw [va_up_ne _ _ (by decide)]; exact e7) (by rw [va_up_ne _ _ (by decide)]; exact e8) e0 (m1_cm hm (by decide) ec) hw'
        simp only [va_up2] at this
        exact this
    · rw [if_neg c, if_neg c]
      exact ih g sc ft s (by omega) (by omega) e7 e8 e0 hm hw
theorem s_V_next_x {F : fc_} (R : fnR h fq F) (sc : Nat → Int32) (ft : Int32 × Int32) (e0 : ¬ ft.1 = 0) (s : s3_) : p_Verifier_comeToNext (some vf) (E3_ h vf lt pa fq sc ft s) = some ((), 0, 0, E3_ h vf lt pa fq sc ft s) := by
  have RE := fnR_ve R vf lt (some pa) (some fq) sc ft (va3_ s)
  rw [p_Verifier_comeToNext, ve_get8, ve_ref5, fr_get4 RE, ev_ite]
  split
  · rw [ve_ref6, ve_get7, ve_get8, ve_onf, bd_0 (s_tell _ _ _ _ _ _ _ _ _ _), ev_ret, if_neg e0]
  · rw [ve_get8, ve_get9, ve_get10, ve_on, bd_0 (s_V_comeTo_x h vf lt pa fq sc ft s _ _ _ e0), ev_ret]
theorem s_V_next {F : fc_} {n f i : Nat} (R : fnR h fq F) (hn4 : n ≤ 400) (e4 : F.1 4 = nI n) (hf : f < 12) (hi : i < n) (sc : Nat → Int32) (ft : Int32 × Int32) (s : s3_) (e7 : sc 7 = nI (512 * f)) (e8 : sc 8 = nI i) (e0 : ft.1 = 0) (hm : m1_ n s) (hw : lw_ n sc s) : cj_ h vf lt pa fq n sc ft (p_Verifier_comeToNext (some vf) (E3_ h vf lt pa fq sc ft s)) (if i + 1 = n then .inl (8, nI (512 * f + i)) else cm_ f (i + 1) (sc 9, sc 10) s) := by
  have RE := fnR_ve R vf lt (some pa) (some fq) sc ft (va3_ s)
  rw [p_Verifier_comeToNext, ve_get8, ve_ref5, fr_get4 RE, e4, e8, nI_1, ev_ite]
  by_cases c : i + 1 = n
  · rw [if_pos c, if_pos (by rw [c]; exact nI_le (Nat.le_refl _) (by omega)), ve_ref6, ve_get7, ve_get8, ve_onf, bd_0 (s_tell _ _ _ _ _ _ _ _ _ _), ev_ret, if_pos e0, e7, e8, nI_add]
    exact ⟨sc, s, rfl, lwb_of hw⟩
  · rw [if_neg c, if_neg (nI_ge (by omega) (by omega)), ve_get8, e8, nI_1, ve_get9, ve_get10, ve_on]
    have key := s_V_comeTo h vf lt pa fq R hn4 e4 (show i + 1 < n by omega) hf sc e7 ft e0 (sc 9, sc 10) s (hm _ (by omega)) hw
    cases ec : cm_ f (i + 1) (sc 9, sc 10) s with
    | inl e =>
      rw [ec] at key
      obtain ⟨sc', s', ek, hb⟩ := key
      rw [bd_0 ek]
      exact ⟨sc', s', rfl, hb⟩
    | inr s' =>
      rw [ec] at key
      obtain ⟨y, ek, hw'⟩ := key
      rw [bd_0 ek]
      exact ⟨y, rfl, hw'⟩
end VCM
