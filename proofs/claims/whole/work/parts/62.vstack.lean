/-! THE CLASS's VERIFIER: take, put and what is made of them. -/
def scv_ (sc : Nat → Int32) (q : sq_) : Nat → Int32 := fun k => if k = 9 then q.1 else if k = 10 then q.2 else sc k
theorem scv_9 (sc : Nat → Int32) (q : sq_) : scv_ sc q 9 = q.1 := by simp [scv_]
theorem scv_10 (sc : Nat → Int32) (q : sq_) : scv_ sc q 10 = q.2 := by simp [scv_]
theorem scv_7 (sc : Nat → Int32) (q : sq_) : scv_ sc q 7 = sc 7 := by simp [scv_]
theorem scv_8 (sc : Nat → Int32) (q : sq_) : scv_ sc q 8 = sc 8 := by simp [scv_]
theorem scv_4 (sc : Nat → Int32) (q : sq_) : scv_ sc q 4 = sc 4 := by simp [scv_]
theorem scv_u9 (sc : Nat → Int32) (q : sq_) (x : Int32) : va_up (scv_ sc q) 9 x = scv_ sc (x, q.2) := by
  funext k
  simp only [va_up, scv_]
  split <;> rfl
theorem scv_u10 (sc : Nat → Int32) (q : sq_) (x : Int32) : va_up (scv_ sc q) 10 x = scv_ sc (q.1, x) := by
  funext k
  simp only [va_up, scv_]
  by_cases h1 : k = 10
  · subst h1; rfl
  · simp [h1]
theorem scv_u4 (sc : Nat → Int32) (q : sq_) (x : Int32) : va_up (scv_ sc q) 4 x = scv_ (va_up sc 4 x) q := by
  funext k
  simp only [va_up, scv_]
  by_cases h1 : k = 4
  · subst h1; rfl
  · simp [h1]
theorem scv_u8 (sc : Nat → Int32) (q : sq_) (x : Int32) : va_up (scv_ sc q) 8 x = scv_ (va_up sc 8 x) q := by
  funext k
  simp only [va_up, scv_]
  by_cases h1 : k = 8
  · subst h1; rfl
  · simp [h1]
theorem scv_self (sc : Nat → Int32) : scv_ sc (sc 9, sc 10) = sc := by
  funext k
  simp only [scv_]
  split
  · next e => rw [e]
  · split
    · next e => rw [e]
    · rfl
/-- the type of the top in the class's numbers -/
def ctp_ (q : sq_) : Int32 := if q.1 = 0 then 0 else if tp_ q = 1 then 2 else 1
/-- the type asked for, in the specification's numbers -/
def ct2_ (t : Int32) : Int32 := if t = 0 then 2 else if t = 2 then 1 else 0
def kf_ (b : Bool) : Int32 := if b = true then 5 else 6
theorem kf_ne (b : Bool) : ¬ kf_ b = 0 := by cases b <;> decide
def xb_ (X : Bool ⊕ sq_) (k : sq_ → Bool ⊕ sq_) : Bool ⊕ sq_ := match X with
  | .inl b => .inl b
  | .inr q => k q
def xt_ (t : Int32) (q : sq_) : Bool ⊕ sq_ := match tk_ t q with
  | none => .inl true
  | some q' => .inr q'
def xp_ (t : Int32) (q : sq_) : Bool ⊕ sq_ := if q.1 < 16 then .inr (pt_ t q) else .inl false
section VST
variable (h : hc_H) (vf lt : Nat) (pg fn : Option Nat) (sc : Nat → Int32) (ar : Nat → Nat → Int32)
def jr_ (r : Option (Unit × Nat × Nat × hc_H)) (ft : Int32 × Int32) (x : Bool ⊕ sq_) : Prop := match x with
  | .inl b => ∃ q', r = some ((), 0, 0, ve_em h vf lt pg fn (scv_ sc q') (kf_ b, sc 7 + sc 8) ar)
  | .inr q2 => r = some ((), 0, 0, ve_em h vf lt pg fn (scv_ sc q2) ft ar)
def jv_ (m : hM Unit) (X : sq_ → Bool ⊕ sq_) : Prop :=
  (∀ q ft, ft.1 = 0 → jr_ h vf lt pg fn sc ar (m (ve_em h vf lt pg fn (scv_ sc q) ft ar)) ft (X q)) ∧
  ∀ q ft, ¬ ft.1 = 0 → ∃ q', m (ve_em h vf lt pg fn (scv_ sc q) ft ar) = some ((), 0, 0, ve_em h vf lt pg fn (scv_ sc q') ft ar)
theorem s_put (q : sq_) (ft : Int32 × Int32) (t : Int32) : p_Verifier_put (some vf) t (ve_em h vf lt pg fn (scv_ sc q) ft ar) = if q.1 < 16 then some ((), 0, 0, ve_em h vf lt pg fn (scv_ sc (pt_ (if t = 2 then 1 else 0) q)) ft ar) else some ((), 0, 0, ve_em h vf lt pg fn (scv_ sc q) (if ft.1 = 0 then (6, sc 7 + sc 8) else ft) ar) := by
  rw [p_Verifier_put, ve_get9, scv_9, ev_ite]
  by_cases h0 : q.1 < 16
  · rw [if_pos h0, if_pos h0]
    simp only [hm_jn]
    rw [ev_ite]
    by_cases h1 : t = 2
    · rw [if_pos h1, if_pos h1, ve_get10, ve_get9, ve_put10, ve_get9, ve_put9, ev_ret]
      simp only [scv_9, scv_10, scv_u9, scv_u10, pt_]
    · rw [if_neg h1, if_neg h1, ve_get9, ve_put9, ev_ret]
      have z : q.2 ||| ((0 : Int32) <<< (q.1 &&& 31)) = q.2 := by rw [Int32.zero_shiftLeft, Int32.or_zero]
      simp only [scv_9, scv_u9, pt_, z]
  · rw [if_neg h0, if_neg h0, ve_ref6, ve_get7, ve_get8, ve_onf, bd_0 (s_tell _ _ _ _ _ _ _ _ _ _), ev_ret, scv_7, scv_8]
theorem s_take (q : sq_) (ft : Int32 × Int32) (t : Int32) : p_Verifier_take (some vf) t (ve_em h vf lt pg fn (scv_ sc q) ft ar) = if ctp_ q = 0 ∨ (¬ t = 0 ∧ ¬ t = ctp_ q) then some (0, 0, 0, ve_em h vf lt pg fn (scv_ sc q) (if ft.1 = 0 then (5, sc 7 + sc 8) else ft) ar) else some (ctp_ q, 0, 0, ve_em h vf lt pg fn (scv_ sc (dr_ q)) ft ar) := by
  have key : ∀ z : Int32, (if z = 0 then (hm_bind (hm_getr 7 6 (some vf)) fun a3 => hm_bind (hm_geti 7 7 (some vf)) fun a4 => hm_bind (hm_geti 7 8 (some vf)) fun a5 => hm_bind (hm_on 2 a3 (p_Fault_tell a3 5 (a4 + a5))) fun _ => hm_ret 0) else (if t = 0 then (hm_bind (hm_geti 7 9 (some vf)) fun a6 => hm_bind (hm_puti 7 9 (some vf) (a6 - 1)) fun _ => hm_bind (hm_geti 7 10 (some vf)) fun a7 => hm_bind (hm_geti 7 9 (some vf)) fun a8 => hm_bind (hm_puti 7 10 (some vf) (a7 &&& (((1 : Int32) <<< (a8 &&& 31)) - 1))) fun _ => hm_ret z) else (if t = z then (hm_bind (hm_geti 7 9 (some vf)) fun a6 => hm_bind (hm_puti 7 9 (some vf) (a6 - 1)) fun _ => hm_bind (hm_geti 7 10 (some vf)) fun a7 => hm_bind (hm_geti 7 9 (some vf)) fun a8 => hm_bind (hm_puti 7 10 (some vf) (a7 &&& (((1 : Int32) <<< (a8 &&& 31)) - 1))) fun _ => hm_ret z) else (hm_bind (hm_getr 7 6 (some vf)) fun a3 => hm_bind (hm_geti 7 7 (some vf)) fun a4 => hm_bind (hm_geti 7 8 (some vf)) fun a5 => hm_bind (hm_on 2 a3 (p_Fault_tell a3 5 (a4 + a5))) fun _ => hm_ret 0)))) (ve_em h vf lt pg fn (scv_ sc q) ft ar) = if z = 0 ∨ (¬ t = 0 ∧ ¬ t = z) then some (0, 0, 0, ve_em h vf lt pg fn (scv_ sc q) (if ft.1 = 0 then (5, sc 7 + sc 8) else ft) ar) else some (z, 0, 0, ve_em h vf lt pg fn (scv_ sc (dr_ q)) ft ar) := by
    intro z
    have f5 : (hm_bind (hm_getr 7 6 (some vf)) fun a3 => hm_bind (hm_geti 7 7 (some vf)) fun a4 => hm_bind (hm_geti 7 8 (some vf)) fun a5 => hm_bind (hm_on 2 a3 (p_Fault_tell a3 5 (a4 + a5))) fun _ => hm_ret (0 : Int32)) (ve_em h vf lt pg fn (scv_ sc q) ft ar) = some (0, 0, 0, ve_em h vf lt pg fn (scv_ sc q) (if ft.1 = 0 then (5, sc 7 + sc 8) else ft) ar) := by
      rw [ve_ref6, ve_get7, ve_get8, ve_onf, bd_0 (s_tell _ _ _ _ _ _ _ _ _ _), ev_ret, scv_7, scv_8]
    have f6 : (hm_bind (hm_geti 7 9 (some vf)) fun a6 => hm_bind (hm_puti 7 9 (some vf) (a6 - 1)) fun _ => hm_bind (hm_geti 7 10 (some vf)) fun a7 => hm_bind (hm_geti 7 9 (some vf)) fun a8 => hm_bind (hm_puti 7 10 (some vf) (a7 &&& (((1 : Int32) <<< (a8 &&& 31)) - 1))) fun _ => hm_ret z) (ve_em h vf lt pg fn (scv_ sc q) ft ar) = some (z, 0, 0, ve_em h vf lt pg fn (scv_ sc (dr_ q)) ft ar) := by
      rw [ve_get9, ve_put9, ve_get10, ve_get9, ve_put10, ev_ret]
      simp only [scv_9, scv_10, scv_u9, scv_u10, dr_]
    rw [ev_ite]
    by_cases h0 : z = 0
    · rw [if_pos h0, if_pos (Or.inl h0), f5]
    · rw [if_neg h0, ev_ite]
      by_cases h1 : t = 0
      · rw [if_pos h1, if_neg (fun c => c.elim h0 (fun c => c.1 h1)), f6]
      · rw [if_neg h1, ev_ite]
        by_cases h2 : t = z
        · rw [if_pos h2, if_neg (fun c => c.elim h0 (fun c => c.2 h2)), f6]
        · rw [if_neg h2, if_pos (Or.inr ⟨h1, h2⟩), f5]
  simp only [p_Verifier_take, hm_jn]
  rw [ve_get9, scv_9, ev_ite]
  by_cases h0 : q.1 = 0
  · rw [if_pos h0, show ctp_ q = 0 from if_pos h0]
    exact key 0
  · rw [if_neg h0, ve_get10, ve_get9, scv_9, scv_10, ev_ite]
    by_cases h1 : tp_ q = 1
    · rw [if_pos (show (q.2 >>> ((q.1 - 1) &&& 31)) &&& 1 = 1 from h1), show ctp_ q = 2 from (if_neg h0).trans (if_pos h1)]
      exact key 2
    · rw [if_neg (show ¬ (q.2 >>> ((q.1 - 1) &&& 31)) &&& 1 = 1 from h1), show ctp_ q = 1 from (if_neg h0).trans (if_neg h1)]
      exact key 1
theorem ctp_0 (q : sq_) : ctp_ q = 0 ↔ q.1 = 0 := by
  unfold ctp_
  by_cases h0 : q.1 = 0
  · rw [if_pos h0]; exact ⟨fun _ => h0, fun _ => rfl⟩
  · rw [if_neg h0]
    refine ⟨fun z => ?_, fun z => absurd z h0⟩
    split at z <;> exact absurd z (by decide)
theorem ctp_t (q : sq_) (h0 : ¬ q.1 = 0) (t : Int32) (ht : t = 0 ∨ t = 1 ∨ t = 2) : (ct2_ t = 2 ∨ ct2_ t = tp_ q) ↔ ¬ (¬ t = 0 ∧ ¬ t = ctp_ q) := by
  unfold ctp_ ct2_
  rw [if_neg h0]
  rcases ht with rfl | rfl | rfl <;> rcases tp_01 q with e | e <;> rw [e] <;> decide
theorem jv_ret : jv_ h vf lt pg fn sc ar (hm_ret ()) (fun q => .inr q) := ⟨fun q ft _ => ev_ret _ _, fun q ft _ => ⟨q, ev_ret _ _⟩⟩
theorem jv_bind {m m2 : hM Unit} {X Y : sq_ → Bool ⊕ sq_} (h1 : jv_ h vf lt pg fn sc ar m X) (h2 : jv_ h vf lt pg fn sc ar m2 Y) : jv_ h vf lt pg fn sc ar (hm_bind (hm_on 7 (some vf) m) fun _ => m2) (fun q => xb_ (X q) Y) := by
  refine ⟨fun q ft e0 => ?_, fun q ft e0 => ?_⟩
  · have k1 := h1.1 q ft e0
    rw [ve_on]
    show jr_ _ _ _ _ _ _ _ _ _ (xb_ (X q) Y)
    cases ex : X q with
    | inl b =>
      rw [ex] at k1
      obtain ⟨q', e1⟩ := k1
      rw [bd_0 e1]
      exact h2.2 q' (kf_ b, sc 7 + sc 8) (kf_ne b)
    | inr q2 =>
      rw [ex] at k1
      rw [bd_0 k1]
      exact h2.1 q2 ft e0
  · obtain ⟨q', e1⟩ := h1.2 q ft e0
    rw [ve_on, bd_0 e1]
    exact h2.2 q' ft e0
theorem jv_put (t : Int32) : jv_ h vf lt pg fn sc ar (p_Verifier_put (some vf) t) (xp_ (if t = 2 then 1 else 0)) := by
  refine ⟨fun q ft e0 => ?_, fun q ft e0 => ?_⟩
  · rw [s_put, xp_]
    by_cases h0 : q.1 < 16
    · rw [if_pos h0, if_pos h0]; rfl
    · rw [if_neg h0, if_neg h0, if_pos e0]
      exact ⟨q, rfl⟩
  · rw [s_put]
    by_cases h0 : q.1 < 16
    · rw [if_pos h0]; exact ⟨_, rfl⟩
    · rw [if_neg h0, if_neg e0]; exact ⟨_, rfl⟩
/-- the take with what comes behind it: the type that it answers is not used -/
theorem jv_take {m2 : hM Unit} {Y : sq_ → Bool ⊕ sq_} (t : Int32) (ht : t = 0 ∨ t = 1 ∨ t = 2) (h2 : jv_ h vf lt pg fn sc ar m2 Y) : jv_ h vf lt pg fn sc ar (hm_bind (hm_on 7 (some vf) (p_Verifier_take (some vf) t)) fun _ => m2) (fun q => xb_ (xt_ (ct2_ t) q) Y) := by
  refine ⟨fun q ft e0 => ?_, fun q ft e0 => ?_⟩
  · rw [ve_on]
    have k := s_take h vf lt pg fn sc ar q ft t
    rw [if_pos e0] at k
    show jr_ _ _ _ _ _ _ _ _ _ (xb_ (xt_ (ct2_ t) q) Y)
    unfold xt_ tk_
    by_cases h0 : q.1 = 0
    · rw [if_pos h0]
      rw [if_pos (Or.inl ((ctp_0 q).mpr h0))] at k
      rw [bd_0 k]
      exact h2.2 q (5, sc 7 + sc 8) (by decide : ¬ (5 : Int32) = 0)
    · rw [if_neg h0]
      by_cases h1 : ct2_ t = 2 ∨ ct2_ t = tp_ q
      · rw [if_pos h1]
        rw [if_neg (fun c => c.elim (fun c => h0 ((ctp_0 q).mp c)) ((ctp_t q h0 t ht).mp h1))] at k
        rw [bd_0 k]
        exact h2.1 _ ft e0
      · rw [if_neg h1]
        rw [if_pos (Or.inr (Decidable.not_not.mp (fun c => h1 ((ctp_t q h0 t ht).mpr c))))] at k
        rw [bd_0 k]
        exact h2.2 q (5, sc 7 + sc 8) (by decide : ¬ (5 : Int32) = 0)
  · rw [ve_on]
    have k := s_take h vf lt pg fn sc ar q ft t
    rw [if_neg e0] at k
    by_cases h0 : ctp_ q = 0 ∨ (¬ t = 0 ∧ ¬ t = ctp_ q)
    · rw [if_pos h0] at k
      rw [bd_0 k]
      exact h2.2 q ft e0
    · rw [if_neg h0] at k
      rw [bd_0 k]
      exact h2.2 _ ft e0
theorem jv_eq {m : hM Unit} {X Y : sq_ → Bool ⊕ sq_} (h1 : jv_ h vf lt pg fn sc ar m X) (e : ∀ q, X q = Y q) : jv_ h vf lt pg fn sc ar m Y := by
  rw [show Y = X from funext fun q => (e q).symm]; exact h1
end VST
