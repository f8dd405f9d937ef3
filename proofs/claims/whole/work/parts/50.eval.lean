/-! EVALUATION of programs over a heap: rows that simp uses. -/
def hm_tk {α : Type} (c s : Nat) (o : Option (α × Nat × Nat × hc_H)) : Option (α × Nat × Nat × hc_H) := match o with
  | none => none
  | some (b, C, S, h) => some (b, c + C, s + S, h)
theorem hm_tk_0 {α : Type} (o : Option (α × Nat × Nat × hc_H)) : hm_tk 0 0 o = o := by
  rcases o with _ | ⟨b, C, S, h⟩
  · rfl
  · simp [hm_tk]
theorem hm_tk_some {α : Type} (c s C S : Nat) (b : α) (h : hc_H) : hm_tk c s (some (b, C, S, h)) = some (b, c + C, s + S, h) := rfl
theorem hm_tk_none {α : Type} (c s : Nat) : hm_tk c s (none : Option (α × Nat × Nat × hc_H)) = none := rfl
theorem hm_tk_tk {α : Type} (a b c d : Nat) (o : Option (α × Nat × Nat × hc_H)) : hm_tk a b (hm_tk c d o) = hm_tk (a + c) (b + d) o := by
  rcases o with _ | ⟨x, C, S, h⟩
  · rfl
  · simp [hm_tk, Nat.add_assoc]
theorem bd_ok {α β : Type} {m : hM α} {k : α → hM β} {h h1 : hc_H} {a : α} {c s : Nat} (hm : m h = some (a, c, s, h1)) : hm_bind m k h = hm_tk c s (k a h1) := by
  unfold hm_bind
  rw [hm]
  rfl
theorem bd_0 {α β : Type} {m : hM α} {k : α → hM β} {h h1 : hc_H} {a : α} (hm : m h = some (a, 0, 0, h1)) : hm_bind m k h = k a h1 := by rw [bd_ok hm, hm_tk_0]
theorem bd_ret {α β : Type} (a : α) (k : α → hM β) (h : hc_H) : hm_bind (hm_ret a) k h = k a h := bd_0 rfl
theorem bd_geti {β : Type} (ci k : Nat) (r : Option Nat) (kont : Int32 → hM β) (h : hc_H) : hm_bind (hm_geti ci k r) kont h = match hc_fld h ci k r with
    | some (.inl v) => kont v h
    | _ => none := by
  unfold hm_bind hm_geti
  rcases hc_fld h ci k r with _ | v | v | v <;> first | rfl | exact hm_tk_0 _
theorem bd_getr {β : Type} (ci k : Nat) (r : Option Nat) (kont : Option Nat → hM β) (h : hc_H) : hm_bind (hm_getr ci k r) kont h = match hc_fld h ci k r with
    | some (.inr (.inr v)) => kont v h
    | _ => none := by
  unfold hm_bind hm_getr
  rcases hc_fld h ci k r with _ | v | v | v <;> first | rfl | exact hm_tk_0 _
theorem ev_fld (h : hc_H) (ci k a : Nat) : hc_fld h ci k (some a) = match h.2.2.2 ci a with
    | some fs => fs[k]?
    | none => none := (Eq.refl _).trans (Eq.refl _)
theorem bd_put {β : Type} (ci k a : Nat) (v : lc_V) (kont : Unit → hM β) (h : hc_H) : hm_bind (hm_put ci k (some a) v) kont h = match h.2.2.2 ci a with
    | some fs => if k < fs.length then kont () (hc_up h a (.inr (.inr (ci, fs.set k v)))) else none
    | none => none := by
  unfold hm_bind hm_put
  dsimp only
  rcases h.2.2.2 ci a with _ | fs
  · rfl
  · dsimp only
    by_cases hk : k < fs.length
    · rw [if_pos hk, if_pos hk]; exact hm_tk_0 _
    · rw [if_neg hk, if_neg hk]
theorem bd_puti {β : Type} (ci k a : Nat) (v : Int32) (kont : Unit → hM β) (h : hc_H) : hm_bind (hm_puti ci k (some a) v) kont h = match h.2.2.2 ci a with
    | some fs => if k < fs.length then kont () (hc_up h a (.inr (.inr (ci, fs.set k (vi_ v))))) else none
    | none => none := bd_put ci k a (vi_ v) kont h
theorem bd_putr {β : Type} (ci k a : Nat) (v : Option Nat) (kont : Unit → hM β) (h : hc_H) : hm_bind (hm_putr ci k (some a) v) kont h = match h.2.2.2 ci a with
    | some fs => if k < fs.length then kont () (hc_up h a (.inr (.inr (ci, fs.set k (vr_ v))))) else none
    | none => none := bd_put ci k a (vr_ v) kont h
theorem bd_putz {β : Type} (ci k a : Nat) (v : Int32) (hv : v = 0 ∨ v = 1) (kont : Unit → hM β) (h : hc_H) : hm_bind (hm_putz ci k (some a) v) kont h = match h.2.2.2 ci a with
    | some fs => if k < fs.length then kont () (hc_up h a (.inr (.inr (ci, fs.set k (vi_ v))))) else none
    | none => none := by
  unfold hm_putz
  rw [if_pos hv]
  exact bd_put ci k a (vi_ v) kont h
theorem bd_ild {β : Type} (kd a : Nat) (i : Int32) (kont : Int32 → hM β) (h : hc_H) : hm_bind (hm_ild kd (some a) i) kont h = match h.2.1 kd a with
    | some q => if i < 0 ∨ q.1 ≤ i.toNatClampNeg then none else kont (q.2 i.toNatClampNeg) h
    | none => none := by
  unfold hm_bind hm_ild hc_iar
  dsimp only
  rcases h.2.1 kd a with _ | ⟨n, f⟩
  · rfl
  · dsimp only
    by_cases hk : i < 0 ∨ n ≤ i.toNatClampNeg
    · rw [if_pos hk, if_pos hk]
    · rw [if_neg hk, if_neg hk]; exact hm_tk_0 _
theorem bd_ist {β : Type} (kd a : Nat) (i x : Int32) (kont : Unit → hM β) (h : hc_H) : hm_bind (hm_ist kd (some a) i x) kont h = match h.2.1 kd a with
    | some q => if i < 0 ∨ q.1 ≤ i.toNatClampNeg then none else kont () (hc_up h a (.inl (kd, q.1, va_up q.2 i.toNatClampNeg x)))
    | none => none := by
  unfold hm_bind hm_ist hc_iar
  dsimp only
  rcases h.2.1 kd a with _ | ⟨n, f⟩
  · rfl
  · dsimp only
    by_cases hk : i < 0 ∨ n ≤ i.toNatClampNeg
    · rw [if_pos hk, if_pos hk]
    · rw [if_neg hk, if_neg hk]; exact hm_tk_0 _
theorem bd_qld {β : Type} (kd a : Nat) (i : Int32) (kont : Option Nat → hM β) (h : hc_H) : hm_bind (hm_qld kd (some a) i) kont h = match h.2.2.1 kd a with
    | some q => if i < 0 ∨ q.1 ≤ i.toNatClampNeg then none else kont (q.2 i.toNatClampNeg) h
    | none => none := by
  unfold hm_bind hm_qld hc_qar
  dsimp only
  rcases h.2.2.1 kd a with _ | ⟨n, f⟩
  · rfl
  · dsimp only
    by_cases hk : i < 0 ∨ n ≤ i.toNatClampNeg
    · rw [if_pos hk, if_pos hk]
    · rw [if_neg hk, if_neg hk]; exact hm_tk_0 _
theorem bd_leni {β : Type} (kd a : Nat) (kont : Int32 → hM β) (h : hc_H) : hm_bind (hm_leni kd (some a)) kont h = match h.2.1 kd a with
    | some q => kont (Int32.ofNat q.1) h
    | none => none := by
  unfold hm_bind hm_leni hc_iar
  dsimp only
  rcases h.2.1 kd a with _ | ⟨n, f⟩
  · rfl
  · exact hm_tk_0 _
theorem bd_on {α β : Type} (ci a : Nat) (m : hM α) (kont : α → hM β) (h : hc_H) : hm_bind (hm_on ci (some a) m) kont h = if (h.2.2.2 ci a).isSome = true then hm_bind m kont h else none := by
  unfold hm_bind hm_on
  by_cases hk : (h.2.2.2 ci a).isSome = true
  · rw [if_pos hk]
    have : hc_isO h ci (some a) = true := hk
    simp only [this, if_true]
  · rw [if_neg hk]
    have : ¬ hc_isO h ci (some a) = true := hk
    simp [this]
theorem ev_z0 (h : hc_H) : hm_z 0 h = some (0, 0, 0, h) := by simp [hm_z, hm_ret]
theorem ev_z1 (h : hc_H) : hm_z 1 h = some (1, 0, 0, h) := by simp [hm_z, hm_ret]
theorem ev_ret {α : Type} (a : α) (h : hc_H) : hm_ret a h = some (a, 0, 0, h) := (Eq.refl _).trans (Eq.refl _)
theorem ev_ite {α : Type} (c : Prop) [Decidable c] (m n : hM α) (h : hc_H) : (if c then m else n) h = if c then m h else n h := by split <;> rfl
-- what a heap holds behind a change
theorem up_o1 (h : hc_H) (a : Nat) (o : Nat × List lc_V) : (hc_up h a (.inr (.inr o))).1 = h.1 := (Eq.refl _).trans (Eq.refl _)
theorem up_o2 (h : hc_H) (a : Nat) (o : Nat × List lc_V) : (hc_up h a (.inr (.inr o))).2.1 = h.2.1 := (Eq.refl _).trans (Eq.refl _)
theorem up_o3 (h : hc_H) (a : Nat) (o : Nat × List lc_V) : (hc_up h a (.inr (.inr o))).2.2.1 = h.2.2.1 := (Eq.refl _).trans (Eq.refl _)
theorem up_o4 (h : hc_H) (a k b : Nat) (o : Nat × List lc_V) : (hc_up h a (.inr (.inr o))).2.2.2 k b = if k = o.1 ∧ b = a then some o.2 else h.2.2.2 k b := (Eq.refl _).trans (Eq.refl _)
theorem up_i1 (h : hc_H) (a : Nat) (o : Nat × Nat × (Nat → Int32)) : (hc_up h a (.inl o)).1 = h.1 := (Eq.refl _).trans (Eq.refl _)
theorem up_i2 (h : hc_H) (a k b : Nat) (o : Nat × Nat × (Nat → Int32)) : (hc_up h a (.inl o)).2.1 k b = if k = o.1 ∧ b = a then some o.2 else h.2.1 k b := (Eq.refl _).trans (Eq.refl _)
theorem up_i3 (h : hc_H) (a : Nat) (o : Nat × Nat × (Nat → Int32)) : (hc_up h a (.inl o)).2.2.1 = h.2.2.1 := (Eq.refl _).trans (Eq.refl _)
theorem up_i4 (h : hc_H) (a : Nat) (o : Nat × Nat × (Nat → Int32)) : (hc_up h a (.inl o)).2.2.2 = h.2.2.2 := (Eq.refl _).trans (Eq.refl _)
theorem hc_ext {h h' : hc_H} (e1 : h.1 = h'.1) (e2 : ∀ k a, h.2.1 k a = h'.2.1 k a) (e3 : ∀ k a, h.2.2.1 k a = h'.2.2.1 k a) (e4 : ∀ k a, h.2.2.2 k a = h'.2.2.2 k a) : h = h' := by
  obtain ⟨a, b, c, d⟩ := h
  obtain ⟨a', b', c', d'⟩ := h'
  simp only at e1 e2 e3 e4
  subst e1
  have q2 : b = b' := funext fun k => funext fun a => e2 k a
  have q3 : c = c' := funext fun k => funext fun a => e3 k a
  have q4 : d = d' := funext fun k => funext fun a => e4 k a
  subst q2; subst q3; subst q4
  rfl
