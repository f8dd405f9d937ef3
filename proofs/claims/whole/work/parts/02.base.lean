/-! THE LAYER: a heap as functions, programs over it in a small monad, and one judgement for the machine at a place of a method. -/
-- values: an int, a long, a reference that may be null
abbrev lc_V : Type := Int32 ⊕ Int64 ⊕ Option Nat
abbrev vi_ (x : Int32) : lc_V := .inl x
abbrev vl_ (x : Int64) : lc_V := .inr (.inl x)
abbrev vr_ (r : Option Nat) : lc_V := .inr (.inr r)
def lc_val (v : lc_V) : Value := match v with
  | .inl x => .int x
  | .inr (.inl x) => .long x
  | .inr (.inr r) => va_rf r
def lc_two (v : lc_V) : Bool := match v with
  | .inr (.inl _) => true
  | _ => false
theorem lc_cat (v : lc_V) : (lc_val v).category = if lc_two v = true then 2 else 1 := by
  rcases v with x | x | r
  · rfl
  · rfl
  · cases r <;> rfl
theorem lc_cat1 {v : lc_V} (h : lc_two v = false) : (lc_val v).category = 1 := by rw [lc_cat, h]; rfl
theorem lc_cat2 {v : lc_V} (h : lc_two v = true) : (lc_val v).category = 2 := by rw [lc_cat, h]; rfl
theorem lc_cat_eq (v : lc_V) : ((lc_val v).category == 2) = lc_two v := by
  rw [lc_cat]
  cases lc_two v <;> rfl
def lc_w (st : List lc_V) : Nat := (st.map fun v => if lc_two v = true then 2 else 1).sum
theorem lc_w_eq (st : List lc_V) : ((st.map lc_val).map fun v => v.category).sum = lc_w st := by
  unfold lc_w
  rw [List.map_map]
  congr 2
  funext v
  exact lc_cat v
-- a cell: an array of ints or of references (number of its kind, length, contents), or an object (number of its class, fields)
abbrev hc_E : Type := (Nat × Nat × (Nat → Int32)) ⊕ (Nat × Nat × (Nat → Option Nat)) ⊕ (Nat × List lc_V)
-- a heap: how many cells the machine has; what is known of them, kind by kind
abbrev hc_H : Type := Nat × (Nat → Nat → Option (Nat × (Nat → Int32))) × (Nat → Nat → Option (Nat × (Nat → Option Nat))) × (Nat → Nat → Option (List lc_V))
-- tables: places of classes and fields, of array classes; the classes; the kinds of arrays; links to private members of nest mates; classes that arrays are made over
abbrev hc_G : Type := va_G × (Nat → ClassId) × List vw_C × List FieldType × List (String × Nat × MethodName × String) × List String
def hc_em (dA : Nat → ClassId) (e : hc_E) : va_E := match e with
  | .inl q => .inl (dA q.1, q.2.1, .inl q.2.2)
  | .inr (.inl q) => .inl (dA q.1, q.2.1, .inr (.inr (.inr (.inr q.2.2))))
  | .inr (.inr o) => .inr (o.1, o.2.map lc_val)
def hc_fit (tys : List FieldType) (e : hc_E) : Prop := match e with
  | .inl q => ∀ ty, tys[q.1]? = some ty → ∀ j, fits ty (.int (q.2.2 j)) = true
  | _ => True
def hc_kd (e : hc_E) : Nat × Nat := match e with
  | .inl q => (0, q.1)
  | .inr (.inl q) => (1, q.1)
  | .inr (.inr o) => (2, o.1)
def hc_has (h : hc_H) (a : Nat) (e : hc_E) : Prop := match e with
  | .inl q => h.2.1 q.1 a = some q.2
  | .inr (.inl q) => h.2.2.1 q.1 a = some q.2
  | .inr (.inr o) => h.2.2.2 o.1 a = some o.2
def hc_P (G : hc_G) (h : hc_H) (H : Heap) : Prop := H.size = h.1 ∧ (∀ (a : Nat) (e : hc_E), hc_has h a e → va_at G.1 G.2.2.1 (a, hc_em G.2.1 e) H ∧ hc_fit G.2.2.2.1 e) ∧ ∀ (a : Nat) (e e' : hc_E), hc_has h a e → hc_has h a e' → hc_kd e = hc_kd e'
def hc_A (h : hc_H) : Nat → Prop := fun q => (∃ e, hc_has h q e) ∨ h.1 ≤ q
def hc_in (h0 h : hc_H) : Prop := ∀ a e, hc_has h a e → hc_A h0 a
def hc_K (G : hc_G) (U : State) : Prop := (∀ (c : Nat) (q : vw_C), G.2.2.1[c]? = some q → u_Kn U q.1 q.2.1 q.2.2 (G.1.1 c) (G.1.2 c)) ∧ (∀ (k : Nat) (ty : FieldType), G.2.2.2.1[k]? = some ty → ArrOfT U (G.2.1 k) ty ∧ va_RA U (G.2.1 k) ty) ∧ (∀ q ∈ G.2.2.2.2.1, va_Nw (.methodLinkNest q.1 q.2.1 q.2.2.1 q.2.2.2) U) ∧ ∀ E ∈ G.2.2.2.2.2, va_AO E U
theorem hc_K.warm {G : hc_G} {u U : State} (hW : u.WarmedH U.vm) (h : hc_K G u) : hc_K G U := ⟨fun c q hq => u_Kn_moved hW.alike (h.1 c q hq), fun k q hk => ⟨arrOfT_moved hW.alike (h.2.1 k q hk).1, (h.2.1 k q hk).2.moved hW.alike⟩, fun q hq => va_Nw.warmM hW (h.2.2.1 q hq), fun E hE => va_AO.moved hW.alike (h.2.2.2 E hE)⟩
def hc_up (h : hc_H) (a : Nat) (e : hc_E) : hc_H := match e with
  | .inl q => (h.1, fun k' a' => if k' = q.1 ∧ a' = a then some q.2 else h.2.1 k' a', h.2.2.1, h.2.2.2)
  | .inr (.inl q) => (h.1, h.2.1, fun k' a' => if k' = q.1 ∧ a' = a then some q.2 else h.2.2.1 k' a', h.2.2.2)
  | .inr (.inr o) => (h.1, h.2.1, h.2.2.1, fun k' a' => if k' = o.1 ∧ a' = a then some o.2 else h.2.2.2 k' a')
def hc_nw (h : hc_H) (e : hc_E) : hc_H := (h.1 + 1, (hc_up h h.1 e).2)
theorem hc_up_has {h : hc_H} {a b : Nat} {e e' : hc_E} (hh : hc_has (hc_up h a e) b e') : (b = a ∧ e' = e) ∨ (hc_has h b e' ∧ ¬ (b = a ∧ hc_kd e' = hc_kd e)) := by
  rcases e with q | q | q <;> rcases e' with q' | q' | q' <;> simp only [hc_has, hc_up, hc_kd] at hh ⊢
  · by_cases hc : q'.1 = q.1 ∧ b = a
    · rw [if_pos hc] at hh
      refine Or.inl ⟨hc.2, ?_⟩
      have := Option.some.inj hh
      exact congrArg Sum.inl (Prod.ext hc.1 this.symm)
    · rw [if_neg hc] at hh
      exact Or.inr ⟨hh, fun z => hc ⟨(Prod.mk.inj z.2).2, z.1⟩⟩
  · exact Or.inr ⟨hh, fun z => by cases z.2⟩
  · exact Or.inr ⟨hh, fun z => by cases z.2⟩
  · exact Or.inr ⟨hh, fun z => by cases z.2⟩
  · by_cases hc : q'.1 = q.1 ∧ b = a
    · rw [if_pos hc] at hh
      refine Or.inl ⟨hc.2, ?_⟩
      have := Option.some.inj hh
      exact congrArg (fun z => Sum.inr (Sum.inl z)) (Prod.ext hc.1 this.symm)
    · rw [if_neg hc] at hh
      exact Or.inr ⟨hh, fun z => hc ⟨(Prod.mk.inj z.2).2, z.1⟩⟩
  · exact Or.inr ⟨hh, fun z => by cases z.2⟩
  · exact Or.inr ⟨hh, fun z => by cases z.2⟩
  · exact Or.inr ⟨hh, fun z => by cases z.2⟩
  · by_cases hc : q'.1 = q.1 ∧ b = a
    · rw [if_pos hc] at hh
      refine Or.inl ⟨hc.2, ?_⟩
      have := Option.some.inj hh
      exact congrArg (fun z => Sum.inr (Sum.inr z)) (Prod.ext hc.1 this.symm)
    · rw [if_neg hc] at hh
      exact Or.inr ⟨hh, fun z => hc ⟨(Prod.mk.inj z.2).2, z.1⟩⟩
theorem hc_up_1 (h : hc_H) (a : Nat) (e : hc_E) : (hc_up h a e).1 = h.1 := by rcases e with q | q | q <;> rfl
theorem hc_nw_has {h : hc_H} {b : Nat} {e e' : hc_E} (hh : hc_has (hc_nw h e) b e') : hc_has (hc_up h h.1 e) b e' := by
  rcases e' with q' | q' | q' <;> exact hh
theorem hc_P.lt {G : hc_G} {h : hc_H} {H : Heap} (hP : hc_P G h H) {a : Nat} {e : hc_E} (ha : hc_has h a e) : a < H.size := (hP.2.1 a e ha).1.lt
theorem hc_P.set {G : hc_G} {h : hc_H} {H H1 : Heap} (hP : hc_P G h H) {a : Nat} {e0 e : hc_E} (ha : hc_has h a e0) (hk : hc_kd e0 = hc_kd e) (he : va_at G.1 G.2.2.1 (a, hc_em G.2.1 e) H1) (hf : hc_fit G.2.2.2.1 e) (z : H1.size = H.size) (oq : ∀ q : Nat, q ≠ a → H1[q]? = H[q]?) : hc_P G (hc_up h a e) H1 := by
  have key : ∀ b e', hc_has (hc_up h a e) b e' → (b = a ∧ e' = e) ∨ (hc_has h b e' ∧ b ≠ a) := by
    intro b e' hb
    rcases hc_up_has hb with h1 | ⟨h1, h2⟩
    · exact Or.inl h1
    · refine Or.inr ⟨h1, fun z => h2 ⟨z, ?_⟩⟩
      subst z
      exact (hP.2.2 b e' e0 h1 ha).trans hk
  refine ⟨(z.trans hP.1).trans (hc_up_1 h a e).symm, fun b e' hb => ?_, fun b e1 e2 h1 h2 => ?_⟩
  · rcases key b e' hb with ⟨rfl, rfl⟩ | ⟨h1, h2⟩
    · exact ⟨he, hf⟩
    · exact ⟨(hP.2.1 b e' h1).1.kept (oq b h2), (hP.2.1 b e' h1).2⟩
  · rcases key b e1 h1 with ⟨r1, rfl⟩ | ⟨q1, q2⟩ <;> rcases key b e2 h2 with ⟨r2, rfl⟩ | ⟨q3, q4⟩
    · rfl
    · exact absurd r1 q4
    · exact absurd r2 q2
    · exact hP.2.2 b e1 e2 q1 q3
theorem hc_P.push {G : hc_G} {h : hc_H} {H H1 : Heap} (hP : hc_P G h H) {e : hc_E} (he : va_at G.1 G.2.2.1 (h.1, hc_em G.2.1 e) H1) (hf : hc_fit G.2.2.2.1 e) (z : H1.size = H.size + 1) (oq : ∀ q : Nat, q < H.size → H1[q]? = H[q]?) : hc_P G (hc_nw h e) H1 := by
  have key : ∀ b e', hc_has (hc_nw h e) b e' → (b = h.1 ∧ e' = e) ∨ (hc_has h b e' ∧ b < H.size) := by
    intro b e' hb
    rcases hc_up_has (hc_nw_has hb) with h1 | ⟨h1, h2⟩
    · exact Or.inl h1
    · exact Or.inr ⟨h1, hP.lt h1⟩
  have hz := hP.1
  refine ⟨by rw [z, hP.1]; rfl, fun b e' hb => ?_, fun b e1 e2 h1 h2 => ?_⟩
  · rcases key b e' hb with ⟨rfl, rfl⟩ | ⟨h1, h2⟩
    · exact ⟨he, hf⟩
    · exact ⟨(hP.2.1 b e' h1).1.kept (oq b h2), (hP.2.1 b e' h1).2⟩
  · rcases key b e1 h1 with ⟨r1, rfl⟩ | ⟨q1, q2⟩ <;> rcases key b e2 h2 with ⟨r2, rfl⟩ | ⟨q3, q4⟩
    · rfl
    · omega
    · omega
    · exact hP.2.2 b e1 e2 q1 q3
theorem hc_in.set {h0 h : hc_H} {a : Nat} {e0 e : hc_E} (hI : hc_in h0 h) (ha : hc_has h a e0) : hc_in h0 (hc_up h a e) := by
  intro b e' hb
  rcases hc_up_has hb with ⟨rfl, rfl⟩ | ⟨h1, -⟩
  · exact hI b e0 ha
  · exact hI b e' h1
theorem hc_in.push {h0 h : hc_H} {e : hc_E} (hI : hc_in h0 h) (hz : h0.1 ≤ h.1) : hc_in h0 (hc_nw h e) := by
  intro b e' hb
  rcases hc_up_has (hc_nw_has hb) with ⟨rfl, rfl⟩ | ⟨h1, -⟩
  · exact Or.inr hz
  · exact hI b e' h1
-- programs: what they answer, how many cells and slots they made, the heap behind them
abbrev hM (α : Type) : Type := hc_H → Option (α × Nat × Nat × hc_H)
def hm_ret {α : Type} (a : α) : hM α := fun h => some (a, 0, 0, h)
def hm_fail {α : Type} : hM α := fun _ => none
def hm_bind {α β : Type} (m : hM α) (k : α → hM β) : hM β := fun h => match m h with
  | none => none
  | some (a, c1, s1, h1) => match k a h1 with
    | none => none
    | some (b, c2, s2, h2) => some (b, c1 + c2, s1 + s2, h2)
theorem hm_bind_inv {α β : Type} {m : hM α} {k : α → hM β} {h h2 : hc_H} {b : β} {C S : Nat} (hr : hm_bind m k h = some (b, C, S, h2)) : ∃ a c1 s1 h1 c2 s2, m h = some (a, c1, s1, h1) ∧ k a h1 = some (b, c2, s2, h2) ∧ C = c1 + c2 ∧ S = s1 + s2 := by
  unfold hm_bind at hr
  split at hr
  · cases hr
  · next a c1 s1 h1 hm =>
    split at hr
    · cases hr
    · next b' c2 s2 h2' hk =>
      cases hr
      exact ⟨a, c1, s1, h1, c2, s2, hm, hk, rfl, rfl⟩
def hc_fld (h : hc_H) (ci k : Nat) (r : Option Nat) : Option lc_V := match r with
  | none => none
  | some a => match h.2.2.2 ci a with
    | some fs => fs[k]?
    | none => none
theorem hc_fld_inv {h : hc_H} {ci k : Nat} {r : Option Nat} {v : lc_V} (hr : hc_fld h ci k r = some v) : ∃ a fs, r = some a ∧ h.2.2.2 ci a = some fs ∧ fs[k]? = some v := by
  unfold hc_fld at hr
  split at hr
  · cases hr
  · next a =>
    split at hr
    · next fs hc => exact ⟨a, fs, rfl, hc, hr⟩
    · cases hr
def hm_geti (ci k : Nat) (r : Option Nat) : hM Int32 := fun h => match hc_fld h ci k r with
  | some (.inl v) => some (v, 0, 0, h)
  | _ => none
def hm_getr (ci k : Nat) (r : Option Nat) : hM (Option Nat) := fun h => match hc_fld h ci k r with
  | some (.inr (.inr v)) => some (v, 0, 0, h)
  | _ => none
def hm_put (ci k : Nat) (r : Option Nat) (v : lc_V) : hM Unit := fun h => match r with
  | none => none
  | some a => match h.2.2.2 ci a with
    | some fs => if k < fs.length then some ((), 0, 0, hc_up h a (.inr (.inr (ci, fs.set k v)))) else none
    | none => none
def hm_puti (ci k : Nat) (r : Option Nat) (v : Int32) : hM Unit := hm_put ci k r (vi_ v)
def hm_putr (ci k : Nat) (r : Option Nat) (v : Option Nat) : hM Unit := hm_put ci k r (vr_ v)
def hm_putz (ci k : Nat) (r : Option Nat) (v : Int32) : hM Unit := if v = 0 ∨ v = 1 then hm_put ci k r (vi_ v) else hm_fail
theorem hm_put_inv {ci k : Nat} {r : Option Nat} {v : lc_V} {h h1 : hc_H} {u : Unit} {c s : Nat} (hr : hm_put ci k r v h = some (u, c, s, h1)) : ∃ a fs, r = some a ∧ h.2.2.2 ci a = some fs ∧ k < fs.length ∧ c = 0 ∧ s = 0 ∧ h1 = hc_up h a (.inr (.inr (ci, fs.set k v))) := by
  unfold hm_put at hr
  split at hr
  · cases hr
  · next a =>
    split at hr
    · next fs hc =>
      split at hr
      · next hk =>
        cases hr
        exact ⟨a, fs, rfl, hc, hk, rfl, rfl, rfl⟩
      · cases hr
    · cases hr
def hc_iar (h : hc_H) (kd : Nat) (r : Option Nat) : Option (Nat × Nat × (Nat → Int32)) := match r with
  | none => none
  | some a => match h.2.1 kd a with
    | some q => some (a, q)
    | none => none
theorem hc_iar_inv {h : hc_H} {kd : Nat} {r : Option Nat} {a n : Nat} {f : Nat → Int32} (hr : hc_iar h kd r = some (a, n, f)) : r = some a ∧ h.2.1 kd a = some (n, f) := by
  unfold hc_iar at hr
  split at hr
  · cases hr
  · next a' =>
    split at hr
    · next q hc => cases hr; exact ⟨rfl, hc⟩
    · cases hr
def hc_qar (h : hc_H) (kd : Nat) (r : Option Nat) : Option (Nat × Nat × (Nat → Option Nat)) := match r with
  | none => none
  | some a => match h.2.2.1 kd a with
    | some q => some (a, q)
    | none => none
theorem hc_qar_inv {h : hc_H} {kd : Nat} {r : Option Nat} {a n : Nat} {f : Nat → Option Nat} (hr : hc_qar h kd r = some (a, n, f)) : r = some a ∧ h.2.2.1 kd a = some (n, f) := by
  unfold hc_qar at hr
  split at hr
  · cases hr
  · next a' =>
    split at hr
    · next q hc => cases hr; exact ⟨rfl, hc⟩
    · cases hr
def hm_ild (kd : Nat) (r : Option Nat) (i : Int32) : hM Int32 := fun h => match hc_iar h kd r with
  | some (_, n, f) => if i < 0 ∨ n ≤ i.toNatClampNeg then none else some (f i.toNatClampNeg, 0, 0, h)
  | none => none
def hm_ist (kd : Nat) (r : Option Nat) (i x : Int32) : hM Unit := fun h => match hc_iar h kd r with
  | some (a, n, f) => if i < 0 ∨ n ≤ i.toNatClampNeg then none else some ((), 0, 0, hc_up h a (.inl (kd, n, va_up f i.toNatClampNeg x)))
  | none => none
def hm_qld (kd : Nat) (r : Option Nat) (i : Int32) : hM (Option Nat) := fun h => match hc_qar h kd r with
  | some (_, n, f) => if i < 0 ∨ n ≤ i.toNatClampNeg then none else some (f i.toNatClampNeg, 0, 0, h)
  | none => none
def hc_isO (h : hc_H) (ci : Nat) (r : Option Nat) : Bool := match r with
  | none => false
  | some a => (h.2.2.2 ci a).isSome
theorem hc_isO_inv {h : hc_H} {ci : Nat} {r : Option Nat} (hr : hc_isO h ci r = true) : ∃ a fs, r = some a ∧ h.2.2.2 ci a = some fs := by
  unfold hc_isO at hr
  split at hr
  · cases hr
  · next a =>
    obtain ⟨fs, hfs⟩ := Option.isSome_iff_exists.mp hr
    exact ⟨a, fs, rfl, hfs⟩
def hm_qst (kd ci : Nat) (r : Option Nat) (i : Int32) (v : Option Nat) : hM Unit := fun h => match hc_qar h kd r with
  | some (a, n, f) => if (i < 0 ∨ n ≤ i.toNatClampNeg) ∨ hc_isO h ci v = false then none else some ((), 0, 0, hc_up h a (.inr (.inl (kd, n, va_up f i.toNatClampNeg v))))
  | none => none
def hm_leni (kd : Nat) (r : Option Nat) : hM Int32 := fun h => match hc_iar h kd r with
  | some (_, n, _) => some (Int32.ofNat n, 0, 0, h)
  | none => none
def hm_lenq (kd : Nat) (r : Option Nat) : hM Int32 := fun h => match hc_qar h kd r with
  | some (_, n, _) => some (Int32.ofNat n, 0, 0, h)
  | none => none
def hm_new (ci N : Nat) (fs : List lc_V) : hM Nat := fun h => some (h.1, 1, N, hc_nw h (.inr (.inr (ci, fs))))
def hm_newi (kd : Nat) (n : Int32) : hM Nat := fun h => if n < 0 ∨ 134217728 < n.toNatClampNeg then none else some (h.1, 1, n.toNatClampNeg, hc_nw h (.inl (kd, n.toNatClampNeg, fun _ => 0)))
def hm_newq (kd : Nat) (n : Int32) : hM Nat := fun h => if n < 0 ∨ 134217728 < n.toNatClampNeg then none else some (h.1, 1, n.toNatClampNeg, hc_nw h (.inr (.inl (kd, n.toNatClampNeg, fun _ => none))))
def hm_copy (k1 k2 : Nat) (r1 : Option Nat) (sp : Int32) (r2 : Option Nat) (dp n : Int32) : hM Unit := fun h => match hc_iar h k1 r1, hc_iar h k2 r2 with
  | some (_, n0, f), some (a, n1, g) => if (sp < 0 ∨ dp < 0 ∨ n < 0) ∨ n0 < sp.toNatClampNeg + n.toNatClampNeg ∨ n1 < dp.toNatClampNeg + n.toNatClampNeg then none else some ((), 0, 0, hc_up h a (.inl (k2, n1, va_cpy f g sp.toNatClampNeg dp.toNatClampNeg n.toNatClampNeg)))
  | _, _ => none
-- a call of a method on an object of the class ci
def hm_on {α : Type} (ci : Nat) (r : Option Nat) (m : hM α) : hM α := fun h => if hc_isO h ci r = true then m h else none
def hm_z (v : Int32) : hM Int32 := if v = 0 ∨ v = 1 then hm_ret v else hm_fail
def hm_ne {α : Type} (y : Int32) (m : hM α) : hM α := if y = 0 then hm_fail else m
def hm_fuel : Nat := 1000000
-- a place that several roads come to
abbrev hm_jn {K β : Type} (k : K) (f : K → hM β) : hM β := f k
/-! THE JUDGEMENT hj_J: the machine stands at pc of a method with locals lv and stack st over the heap h, C cells and S slots are still to come; it comes to Q. -/
abbrev hj_F : Type := Program × Launch × Env × Room × State × MethodId × Array Value × List Frame × Method × Code
def hj_J (p : Program) (l : Launch) (e : Env) (R : Room) (s : State) (m : MethodId) (args : Array Value) (below : List Frame) (meth : Method) (c : Code) (G : hc_G) (h0 : hc_H) (nL : Nat) (Q : State → Prop) (C S : Nat) (h : hc_H) (pc : Nat) (lv : List (Nat × lc_V)) (st : List lc_V) : Prop :=
  ∀ (H : Heap) (locs : List Loc) (cells slots : Nat) (ls : Array Slot), hc_P G h H → hc_in h0 h → va_S (hc_A h0) s.heap H locs → h0.1 = s.heap.size → cells + C ≤ R.cells → slots + S ≤ R.slots → lv_has ls nL (lv.map fun q => (q.1, lc_val q.2)) →
    W p l e R s m args below meth c H locs cells slots Q (F0 m pc ls (st.map lc_val))
/-- what stays the same all through a method -/
def hj_C (p : Program) (s : State) (m : MethodId) (args : Array Value) (meth : Method) (c : Code) (G : hc_G) (cc : ByteArray) (nL : Nat) (ret : Option FieldType) (own nm : String) (Ts : List Cond) : Prop :=
  p.tables.exec = Jvm.exec ∧ c.code = cc ∧ c.maxLocals = nL ∧ meth.sig.returnType = ret ∧ meth.locks = false ∧ meth.name = nm ∧ s.vm.findClass own = some m.cls ∧ (∀ w ∈ Ts, w.before args s = true) ∧ hc_K G s
/-- what the tables say of a class -/
def hc_cls (Ts : List Cond) (cl : List vw_C) (ci : Nat) (C : String) (T : u_T) (N : Nat) (ty : Nat → FieldType) : Prop :=
  cl[ci]? = some (C, T, N) ∧ (∀ w ∈ u_ws C T N, w ∈ Ts) ∧ (∀ k, k < N → parseFieldDescriptor (T k).2.2.1 = some (ty k)) ∧ (∀ a, a < N → ∀ b, b < N → a ≠ b → (T a).2.1 ≠ (T b).2.1)
section HJ
variable {p : Program} {l : Launch} {e : Env} {R : Room} {s : State} {m : MethodId} {args : Array Value} {below : List Frame} {meth : Method} {c : Code} {G : hc_G} {h0 h h2 : hc_H} {nL : Nat} {Q : State → Prop} {C S pc : Nat} {lv lv' : List (Nat × lc_V)} {st : List lc_V}
variable {cc : ByteArray} {ret : Option FieldType} {own nm : String} {Ts : List Cond}
theorem hj_get_at {ls : Array Slot} {j i : Nat} {v : lc_V} (hl : lv_has ls nL (lv.map fun q => (q.1, lc_val q.2))) (hk : lv[j]? = some (i, v)) : ls[i]? = some (.val (lc_val v)) :=
  hl.2.2 (i, lc_val v) (List.mem_map.mpr ⟨(i, v), List.mem_of_getElem? hk, rfl⟩)
theorem hj_filt1 (lv : List (Nat × lc_V)) (i : Nat) : (lv.map fun q => (q.1, lc_val q.2)).filter (fun q => !(q.1 == i) && !(q.1 + 1 == i && q.2.category == 2)) = (lv.filter (fun q => !(q.1 == i) && !(q.1 + 1 == i && lc_two q.2))).map fun q => (q.1, lc_val q.2) := by
  rw [List.filter_map]
  congr 2
  funext q
  simp only [Function.comp, lc_cat_eq]
theorem hj_filt2 (lv : List (Nat × lc_V)) (i : Nat) : (lv.map fun q => (q.1, lc_val q.2)).filter (fun q => !(q.1 == i) && (!(q.1 == i + 1) && !(q.1 + 1 == i && q.2.category == 2))) = (lv.filter (fun q => !(q.1 == i) && (!(q.1 == i + 1) && !(q.1 + 1 == i && lc_two q.2)))).map fun q => (q.1, lc_val q.2) := by
  rw [List.filter_map]
  congr 2
  funext q
  simp only [Function.comp, lc_cat_eq]
-- constants
theorem hj_iconst (hC : hj_C p s m args meth c G cc nL ret own nm Ts) {n : Int} {v : Int32} (hd : decode cc pc = .ok (.iconst n, 1)) (hv : Int32.ofInt n = v) (kk : hj_J p l e R s m args below meth c G h0 nL Q C S h (pc + 1) lv (vi_ v :: st)) : hj_J p l e R s m args below meth c G h0 nL Q C S h pc lv st :=
  fun H locs cells slots ls hP hI hS hz hc hs hl => lv_iconst hC.1 hC.2.1 hd hv (kk H locs cells slots ls hP hI hS hz hc hs hl)
theorem hj_bipush (hC : hj_C p s m args meth c G cc nL ret own nm Ts) {n : Int} {v : Int32} (hd : decode cc pc = .ok (.bipush n, 2)) (hv : (Int8.ofInt n).toInt32 = v) (kk : hj_J p l e R s m args below meth c G h0 nL Q C S h (pc + 2) lv (vi_ v :: st)) : hj_J p l e R s m args below meth c G h0 nL Q C S h pc lv st :=
  fun H locs cells slots ls hP hI hS hz hc hs hl => lv_bipush hC.1 hC.2.1 hd hv (kk H locs cells slots ls hP hI hS hz hc hs hl)
theorem hj_sipush (hC : hj_C p s m args meth c G cc nL ret own nm Ts) {n : Int} {v : Int32} (hd : decode cc pc = .ok (.sipush n, 3)) (hv : (Int16.ofInt n).toInt32 = v) (kk : hj_J p l e R s m args below meth c G h0 nL Q C S h (pc + 3) lv (vi_ v :: st)) : hj_J p l e R s m args below meth c G h0 nL Q C S h pc lv st :=
  fun H locs cells slots ls hP hI hS hz hc hs hl => lv_sipush hC.1 hC.2.1 hd hv (kk H locs cells slots ls hP hI hS hz hc hs hl)
theorem hj_ldc (hC : hj_C p s m args meth c G cc nL ret own nm Ts) {index : Nat} {v : Int32} (hw : Cond.constant own index v ∈ Ts) (hd : decode cc pc = .ok (.ldc index, 2)) (kk : hj_J p l e R s m args below meth c G h0 nL Q C S h (pc + 2) lv (vi_ v :: st)) : hj_J p l e R s m args below meth c G h0 nL Q C S h pc lv st :=
  fun H locs cells slots ls hP hI hS hz hc hs hl => lv_ldc hC.1 hC.2.1 hC.2.2.2.2.2.2.1 (hC.2.2.2.2.2.2.2.1 _ hw) hd (kk H locs cells slots ls hP hI hS hz hc hs hl)
theorem hj_ldc2 (hC : hj_C p s m args meth c G cc nL ret own nm Ts) {index : Nat} {v : Int64} (hw : Cond.constantLong own index v ∈ Ts) (hd : decode cc pc = .ok (.ldc2_w index, 3)) (kk : hj_J p l e R s m args below meth c G h0 nL Q C S h (pc + 3) lv (vl_ v :: st)) : hj_J p l e R s m args below meth c G h0 nL Q C S h pc lv st :=
  fun H locs cells slots ls hP hI hS hz hc hs hl => lv_ldc2 hC.1 hC.2.1 hC.2.2.2.2.2.2.1 (hC.2.2.2.2.2.2.2.1 _ hw) hd (kk H locs cells slots ls hP hI hS hz hc hs hl)
theorem hj_lconst (hC : hj_C p s m args meth c G cc nL ret own nm Ts) {n : Fin 2} {v : Int64} (hd : decode cc pc = .ok (.lconst n, 1)) (hv : Int64.ofNat (n : Nat) = v) (kk : hj_J p l e R s m args below meth c G h0 nL Q C S h (pc + 1) lv (vl_ v :: st)) : hj_J p l e R s m args below meth c G h0 nL Q C S h pc lv st :=
  fun H locs cells slots ls hP hI hS hz hc hs hl => lv_lconst hC.1 hC.2.1 hd hv (kk H locs cells slots ls hP hI hS hz hc hs hl)
theorem hj_null (hC : hj_C p s m args meth c G cc nL ret own nm Ts) (hd : decode cc pc = .ok (.aconst_null, 1)) (kk : hj_J p l e R s m args below meth c G h0 nL Q C S h (pc + 1) lv (vr_ none :: st)) : hj_J p l e R s m args below meth c G h0 nL Q C S h pc lv st :=
  fun H locs cells slots ls hP hI hS hz hc hs hl => lv_null hC.1 hC.2.1 hd (kk H locs cells slots ls hP hI hS hz hc hs hl)
-- loads
theorem hj_iload_n (hC : hj_C p s m args meth c G cc nL ret own nm Ts) {k : Fin 4} {i : Nat} {x : Int32} (j : Nat) (hd : decode cc pc = .ok (.iload_n k, 1)) (hi : (k : Nat) = i) (hk : lv[j]? = some (i, vi_ x)) (kk : hj_J p l e R s m args below meth c G h0 nL Q C S h (pc + 1) lv (vi_ x :: st)) : hj_J p l e R s m args below meth c G h0 nL Q C S h pc lv st :=
  fun H locs cells slots ls hP hI hS hz hc hs hl => lv_iload_n hC.1 hC.2.1 hd hi (hj_get_at hl hk) (kk H locs cells slots ls hP hI hS hz hc hs hl)
theorem hj_iload (hC : hj_C p s m args meth c G cc nL ret own nm Ts) {i : Nat} {x : Int32} (j : Nat) (hd : decode cc pc = .ok (.iload i, 2)) (hk : lv[j]? = some (i, vi_ x)) (kk : hj_J p l e R s m args below meth c G h0 nL Q C S h (pc + 2) lv (vi_ x :: st)) : hj_J p l e R s m args below meth c G h0 nL Q C S h pc lv st :=
  fun H locs cells slots ls hP hI hS hz hc hs hl => lv_iload hC.1 hC.2.1 hd (hj_get_at hl hk) (kk H locs cells slots ls hP hI hS hz hc hs hl)
theorem hj_lload_n (hC : hj_C p s m args meth c G cc nL ret own nm Ts) {k : Fin 4} {i : Nat} {x : Int64} (j : Nat) (hd : decode cc pc = .ok (.lload_n k, 1)) (hi : (k : Nat) = i) (hk : lv[j]? = some (i, vl_ x)) (kk : hj_J p l e R s m args below meth c G h0 nL Q C S h (pc + 1) lv (vl_ x :: st)) : hj_J p l e R s m args below meth c G h0 nL Q C S h pc lv st :=
  fun H locs cells slots ls hP hI hS hz hc hs hl => lv_lload_n hC.1 hC.2.1 hd hi (hj_get_at hl hk) (kk H locs cells slots ls hP hI hS hz hc hs hl)
theorem hj_lload (hC : hj_C p s m args meth c G cc nL ret own nm Ts) {i : Nat} {x : Int64} (j : Nat) (hd : decode cc pc = .ok (.lload i, 2)) (hk : lv[j]? = some (i, vl_ x)) (kk : hj_J p l e R s m args below meth c G h0 nL Q C S h (pc + 2) lv (vl_ x :: st)) : hj_J p l e R s m args below meth c G h0 nL Q C S h pc lv st :=
  fun H locs cells slots ls hP hI hS hz hc hs hl => lv_lload hC.1 hC.2.1 hd (hj_get_at hl hk) (kk H locs cells slots ls hP hI hS hz hc hs hl)
theorem hj_aload_n (hC : hj_C p s m args meth c G cc nL ret own nm Ts) {k : Fin 4} {i : Nat} {r : Option Nat} (j : Nat) (hd : decode cc pc = .ok (.aload_n k, 1)) (hi : (k : Nat) = i) (hk : lv[j]? = some (i, vr_ r)) (kk : hj_J p l e R s m args below meth c G h0 nL Q C S h (pc + 1) lv (vr_ r :: st)) : hj_J p l e R s m args below meth c G h0 nL Q C S h pc lv st := by
  intro H locs cells slots ls hP hI hS hz hc hs hl
  cases r with
  | none => exact lv_aload_nN hC.1 hC.2.1 hd hi (hj_get_at hl hk) (kk H locs cells slots ls hP hI hS hz hc hs hl)
  | some a => exact lv_aload_n hC.1 hC.2.1 hd hi (hj_get_at hl hk) (kk H locs cells slots ls hP hI hS hz hc hs hl)
theorem hj_aload (hC : hj_C p s m args meth c G cc nL ret own nm Ts) {i : Nat} {r : Option Nat} (j : Nat) (hd : decode cc pc = .ok (.aload i, 2)) (hk : lv[j]? = some (i, vr_ r)) (kk : hj_J p l e R s m args below meth c G h0 nL Q C S h (pc + 2) lv (vr_ r :: st)) : hj_J p l e R s m args below meth c G h0 nL Q C S h pc lv st := by
  intro H locs cells slots ls hP hI hS hz hc hs hl
  cases r with
  | none => exact lv_aloadN hC.1 hC.2.1 hd (hj_get_at hl hk) (kk H locs cells slots ls hP hI hS hz hc hs hl)
  | some a => exact lv_aload hC.1 hC.2.1 hd (hj_get_at hl hk) (kk H locs cells slots ls hP hI hS hz hc hs hl)
-- stores
theorem hj_istore_n (hC : hj_C p s m args meth c G cc nL ret own nm Ts) {k : Fin 4} {i : Nat} {x : Int32} (hd : decode cc pc = .ok (.istore_n k, 1)) (hi : (k : Nat) = i) (hn : i < nL) (hv : (i, vi_ x) :: lv.filter (fun q => !(q.1 == i) && !(q.1 + 1 == i && lc_two q.2)) = lv') (kk : hj_J p l e R s m args below meth c G h0 nL Q C S h (pc + 1) lv' st) : hj_J p l e R s m args below meth c G h0 nL Q C S h pc lv (vi_ x :: st) :=
  fun H locs cells slots ls hP hI hS hz hc hs hl => lv_istore_n hC.1 hC.2.1 hd hi hl hn (lv' := lv'.map fun q => (q.1, lc_val q.2)) (by rw [hj_filt1, ← hv]; rfl) (fun ls' hl' => kk H locs cells slots ls' hP hI hS hz hc hs hl')
theorem hj_istore (hC : hj_C p s m args meth c G cc nL ret own nm Ts) {i : Nat} {x : Int32} (hd : decode cc pc = .ok (.istore i, 2)) (hn : i < nL) (hv : (i, vi_ x) :: lv.filter (fun q => !(q.1 == i) && !(q.1 + 1 == i && lc_two q.2)) = lv') (kk : hj_J p l e R s m args below meth c G h0 nL Q C S h (pc + 2) lv' st) : hj_J p l e R s m args below meth c G h0 nL Q C S h pc lv (vi_ x :: st) :=
  fun H locs cells slots ls hP hI hS hz hc hs hl => lv_istore hC.1 hC.2.1 hd hl hn (lv' := lv'.map fun q => (q.1, lc_val q.2)) (by rw [hj_filt1, ← hv]; rfl) (fun ls' hl' => kk H locs cells slots ls' hP hI hS hz hc hs hl')
theorem hj_lstore_n (hC : hj_C p s m args meth c G cc nL ret own nm Ts) {k : Fin 4} {i : Nat} {x : Int64} (hd : decode cc pc = .ok (.lstore_n k, 1)) (hi : (k : Nat) = i) (hn : i + 1 < nL) (hv : (i, vl_ x) :: lv.filter (fun q => !(q.1 == i) && (!(q.1 == i + 1) && !(q.1 + 1 == i && lc_two q.2))) = lv') (kk : hj_J p l e R s m args below meth c G h0 nL Q C S h (pc + 1) lv' st) : hj_J p l e R s m args below meth c G h0 nL Q C S h pc lv (vl_ x :: st) :=
  fun H locs cells slots ls hP hI hS hz hc hs hl => lv_lstore_n hC.1 hC.2.1 hd hi hl hn (lv' := lv'.map fun q => (q.1, lc_val q.2)) (by rw [hj_filt2, ← hv]; rfl) (fun ls' hl' => kk H locs cells slots ls' hP hI hS hz hc hs hl')
theorem hj_lstore (hC : hj_C p s m args meth c G cc nL ret own nm Ts) {i : Nat} {x : Int64} (hd : decode cc pc = .ok (.lstore i, 2)) (hn : i + 1 < nL) (hv : (i, vl_ x) :: lv.filter (fun q => !(q.1 == i) && (!(q.1 == i + 1) && !(q.1 + 1 == i && lc_two q.2))) = lv') (kk : hj_J p l e R s m args below meth c G h0 nL Q C S h (pc + 2) lv' st) : hj_J p l e R s m args below meth c G h0 nL Q C S h pc lv (vl_ x :: st) :=
  fun H locs cells slots ls hP hI hS hz hc hs hl => lv_lstore hC.1 hC.2.1 hd hl hn (lv' := lv'.map fun q => (q.1, lc_val q.2)) (by rw [hj_filt2, ← hv]; rfl) (fun ls' hl' => kk H locs cells slots ls' hP hI hS hz hc hs hl')
theorem hj_astore_n (hC : hj_C p s m args meth c G cc nL ret own nm Ts) {k : Fin 4} {i : Nat} {r : Option Nat} (hd : decode cc pc = .ok (.astore_n k, 1)) (hi : (k : Nat) = i) (hn : i < nL) (hv : (i, vr_ r) :: lv.filter (fun q => !(q.1 == i) && !(q.1 + 1 == i && lc_two q.2)) = lv') (kk : hj_J p l e R s m args below meth c G h0 nL Q C S h (pc + 1) lv' st) : hj_J p l e R s m args below meth c G h0 nL Q C S h pc lv (vr_ r :: st) := by
  intro H locs cells slots ls hP hI hS hz hc hs hl
  cases r with
  | none => exact lv_astore_nN hC.1 hC.2.1 hd hi hl hn (lv' := lv'.map fun q => (q.1, lc_val q.2)) (by rw [hj_filt1, ← hv]; rfl) (fun ls' hl' => kk H locs cells slots ls' hP hI hS hz hc hs hl')
  | some a => exact lv_astore_n hC.1 hC.2.1 hd hi hl hn (lv' := lv'.map fun q => (q.1, lc_val q.2)) (by rw [hj_filt1, ← hv]; rfl) (fun ls' hl' => kk H locs cells slots ls' hP hI hS hz hc hs hl')
theorem hj_astore (hC : hj_C p s m args meth c G cc nL ret own nm Ts) {i : Nat} {r : Option Nat} (hd : decode cc pc = .ok (.astore i, 2)) (hn : i < nL) (hv : (i, vr_ r) :: lv.filter (fun q => !(q.1 == i) && !(q.1 + 1 == i && lc_two q.2)) = lv') (kk : hj_J p l e R s m args below meth c G h0 nL Q C S h (pc + 2) lv' st) : hj_J p l e R s m args below meth c G h0 nL Q C S h pc lv (vr_ r :: st) := by
  intro H locs cells slots ls hP hI hS hz hc hs hl
  cases r with
  | none => exact lv_astoreN hC.1 hC.2.1 hd hl hn (lv' := lv'.map fun q => (q.1, lc_val q.2)) (by rw [hj_filt1, ← hv]; rfl) (fun ls' hl' => kk H locs cells slots ls' hP hI hS hz hc hs hl')
  | some a => exact lv_astore hC.1 hC.2.1 hd hl hn (lv' := lv'.map fun q => (q.1, lc_val q.2)) (by rw [hj_filt1, ← hv]; rfl) (fun ls' hl' => kk H locs cells slots ls' hP hI hS hz hc hs hl')
theorem hj_iinc (hC : hj_C p s m args meth c G cc nL ret own nm Ts) {i : Nat} {n : Int} {x v : Int32} (j : Nat) (hd : decode cc pc = .ok (.iinc i n, 3)) (hk : lv[j]? = some (i, vi_ x)) (hx : x + Int32.ofInt n = v) (hn : i < nL) (hv : (i, vi_ v) :: lv.filter (fun q => !(q.1 == i) && !(q.1 + 1 == i && lc_two q.2)) = lv') (kk : hj_J p l e R s m args below meth c G h0 nL Q C S h (pc + 3) lv' st) : hj_J p l e R s m args below meth c G h0 nL Q C S h pc lv st :=
  fun H locs cells slots ls hP hI hS hz hc hs hl => lv_iinc hC.1 hC.2.1 hd hl (k := j) (by rw [List.getElem?_map, hk]; rfl) hx hn (lv' := lv'.map fun q => (q.1, lc_val q.2)) (by rw [hj_filt1, ← hv]; rfl) (fun ls' hl' => kk H locs cells slots ls' hP hI hS hz hc hs hl')
/-- fewer locals, in another order -/
theorem hj_sub (ks : List Nat) (hk : ks.filterMap (fun k => lv[k]?) = lv') (kk : hj_J p l e R s m args below meth c G h0 nL Q C S h pc lv' st) : hj_J p l e R s m args below meth c G h0 nL Q C S h pc lv st := by
  intro H locs cells slots ls hP hI hS hz hc hs hl
  refine kk H locs cells slots ls hP hI hS hz hc hs ⟨hl.1, hl.2.1, fun q hq => ?_⟩
  obtain ⟨q', hq', rfl⟩ := List.mem_map.mp hq
  rw [← hk] at hq'
  obtain ⟨k, -, hk'⟩ := List.mem_filterMap.mp hq'
  exact hl.2.2 _ (List.mem_map.mpr ⟨q', List.mem_of_getElem? hk', rfl⟩)
-- the stack
theorem hj_dup (hC : hj_C p s m args meth c G cc nL ret own nm Ts) {v : lc_V} (hd : decode cc pc = .ok (.dup, 1)) (hv : lc_two v = false) (kk : hj_J p l e R s m args below meth c G h0 nL Q C S h (pc + 1) lv (v :: v :: st)) : hj_J p l e R s m args below meth c G h0 nL Q C S h pc lv (v :: st) :=
  fun H locs cells slots ls hP hI hS hz hc hs hl => lv_dup hC.1 hC.2.1 hd (lc_cat1 hv) (kk H locs cells slots ls hP hI hS hz hc hs hl)
theorem hj_pop (hC : hj_C p s m args meth c G cc nL ret own nm Ts) {v : lc_V} (hd : decode cc pc = .ok (.pop, 1)) (hv : lc_two v = false) (kk : hj_J p l e R s m args below meth c G h0 nL Q C S h (pc + 1) lv st) : hj_J p l e R s m args below meth c G h0 nL Q C S h pc lv (v :: st) :=
  fun H locs cells slots ls hP hI hS hz hc hs hl => lv_pop hC.1 hC.2.1 hd (lc_cat1 hv) (kk H locs cells slots ls hP hI hS hz hc hs hl)
theorem hj_dup_x1 (hC : hj_C p s m args meth c G cc nL ret own nm Ts) {v w : lc_V} (hd : decode cc pc = .ok (.dup_x1, 1)) (hv : lc_two v = false) (hw : lc_two w = false) (kk : hj_J p l e R s m args below meth c G h0 nL Q C S h (pc + 1) lv (v :: w :: v :: st)) : hj_J p l e R s m args below meth c G h0 nL Q C S h pc lv (v :: w :: st) :=
  fun H locs cells slots ls hP hI hS hz hc hs hl => lv_dup_x1 hC.1 hC.2.1 hd (lc_cat1 hv) (lc_cat1 hw) (kk H locs cells slots ls hP hI hS hz hc hs hl)
theorem hj_dup_x2 (hC : hj_C p s m args meth c G cc nL ret own nm Ts) {v w x : lc_V} (hd : decode cc pc = .ok (.dup_x2, 1)) (hv : lc_two v = false) (hw : lc_two w = false) (hx : lc_two x = false) (kk : hj_J p l e R s m args below meth c G h0 nL Q C S h (pc + 1) lv (v :: w :: x :: v :: st)) : hj_J p l e R s m args below meth c G h0 nL Q C S h pc lv (v :: w :: x :: st) :=
  fun H locs cells slots ls hP hI hS hz hc hs hl => lv_dup_x2 hC.1 hC.2.1 hd (lc_cat1 hv) (lc_cat1 hw) (lc_cat1 hx) (kk H locs cells slots ls hP hI hS hz hc hs hl)
theorem hj_dup2 (hC : hj_C p s m args meth c G cc nL ret own nm Ts) {v w : lc_V} (hd : decode cc pc = .ok (.dup2, 1)) (hv : lc_two v = false) (hw : lc_two w = false) (kk : hj_J p l e R s m args below meth c G h0 nL Q C S h (pc + 1) lv (v :: w :: v :: w :: st)) : hj_J p l e R s m args below meth c G h0 nL Q C S h pc lv (v :: w :: st) :=
  fun H locs cells slots ls hP hI hS hz hc hs hl => lv_dup2_11 hC.1 hC.2.1 hd (lc_cat1 hv) (lc_cat1 hw) (kk H locs cells slots ls hP hI hS hz hc hs hl)
theorem hj_iadd (hC : hj_C p s m args meth c G cc nL ret own nm Ts) {x y : Int32} (hd : decode cc pc = .ok (.iadd, 1)) (kk : hj_J p l e R s m args below meth c G h0 nL Q C S h (pc + 1) lv (vi_ (x + y) :: st)) : hj_J p l e R s m args below meth c G h0 nL Q C S h pc lv (vi_ y :: vi_ x :: st) :=
  fun H locs cells slots ls hP hI hS hz hc hs hl => lv_iadd hC.1 hC.2.1 hd (kk H locs cells slots ls hP hI hS hz hc hs hl)
theorem hj_isub (hC : hj_C p s m args meth c G cc nL ret own nm Ts) {x y : Int32} (hd : decode cc pc = .ok (.isub, 1)) (kk : hj_J p l e R s m args below meth c G h0 nL Q C S h (pc + 1) lv (vi_ (x - y) :: st)) : hj_J p l e R s m args below meth c G h0 nL Q C S h pc lv (vi_ y :: vi_ x :: st) :=
  fun H locs cells slots ls hP hI hS hz hc hs hl => lv_isub hC.1 hC.2.1 hd (kk H locs cells slots ls hP hI hS hz hc hs hl)
theorem hj_imul (hC : hj_C p s m args meth c G cc nL ret own nm Ts) {x y : Int32} (hd : decode cc pc = .ok (.imul, 1)) (kk : hj_J p l e R s m args below meth c G h0 nL Q C S h (pc + 1) lv (vi_ (x * y) :: st)) : hj_J p l e R s m args below meth c G h0 nL Q C S h pc lv (vi_ y :: vi_ x :: st) :=
  fun H locs cells slots ls hP hI hS hz hc hs hl => lv_imul hC.1 hC.2.1 hd (kk H locs cells slots ls hP hI hS hz hc hs hl)
theorem hj_iand (hC : hj_C p s m args meth c G cc nL ret own nm Ts) {x y : Int32} (hd : decode cc pc = .ok (.iand, 1)) (kk : hj_J p l e R s m args below meth c G h0 nL Q C S h (pc + 1) lv (vi_ (x &&& y) :: st)) : hj_J p l e R s m args below meth c G h0 nL Q C S h pc lv (vi_ y :: vi_ x :: st) :=
  fun H locs cells slots ls hP hI hS hz hc hs hl => lv_iand hC.1 hC.2.1 hd (kk H locs cells slots ls hP hI hS hz hc hs hl)
theorem hj_ior (hC : hj_C p s m args meth c G cc nL ret own nm Ts) {x y : Int32} (hd : decode cc pc = .ok (.ior, 1)) (kk : hj_J p l e R s m args below meth c G h0 nL Q C S h (pc + 1) lv (vi_ (x ||| y) :: st)) : hj_J p l e R s m args below meth c G h0 nL Q C S h pc lv (vi_ y :: vi_ x :: st) :=
  fun H locs cells slots ls hP hI hS hz hc hs hl => lv_ior hC.1 hC.2.1 hd (kk H locs cells slots ls hP hI hS hz hc hs hl)
theorem hj_ixor (hC : hj_C p s m args meth c G cc nL ret own nm Ts) {x y : Int32} (hd : decode cc pc = .ok (.ixor, 1)) (kk : hj_J p l e R s m args below meth c G h0 nL Q C S h (pc + 1) lv (vi_ (x ^^^ y) :: st)) : hj_J p l e R s m args below meth c G h0 nL Q C S h pc lv (vi_ y :: vi_ x :: st) :=
  fun H locs cells slots ls hP hI hS hz hc hs hl => lv_ixor hC.1 hC.2.1 hd (kk H locs cells slots ls hP hI hS hz hc hs hl)
theorem hj_ladd (hC : hj_C p s m args meth c G cc nL ret own nm Ts) {x y : Int64} (hd : decode cc pc = .ok (.ladd, 1)) (kk : hj_J p l e R s m args below meth c G h0 nL Q C S h (pc + 1) lv (vl_ (x + y) :: st)) : hj_J p l e R s m args below meth c G h0 nL Q C S h pc lv (vl_ y :: vl_ x :: st) :=
  fun H locs cells slots ls hP hI hS hz hc hs hl => lv_ladd hC.1 hC.2.1 hd (kk H locs cells slots ls hP hI hS hz hc hs hl)
theorem hj_lsub (hC : hj_C p s m args meth c G cc nL ret own nm Ts) {x y : Int64} (hd : decode cc pc = .ok (.lsub, 1)) (kk : hj_J p l e R s m args below meth c G h0 nL Q C S h (pc + 1) lv (vl_ (x - y) :: st)) : hj_J p l e R s m args below meth c G h0 nL Q C S h pc lv (vl_ y :: vl_ x :: st) :=
  fun H locs cells slots ls hP hI hS hz hc hs hl => lv_lsub hC.1 hC.2.1 hd (kk H locs cells slots ls hP hI hS hz hc hs hl)
theorem hj_lmul (hC : hj_C p s m args meth c G cc nL ret own nm Ts) {x y : Int64} (hd : decode cc pc = .ok (.lmul, 1)) (kk : hj_J p l e R s m args below meth c G h0 nL Q C S h (pc + 1) lv (vl_ (x * y) :: st)) : hj_J p l e R s m args below meth c G h0 nL Q C S h pc lv (vl_ y :: vl_ x :: st) :=
  fun H locs cells slots ls hP hI hS hz hc hs hl => lv_lmul hC.1 hC.2.1 hd (kk H locs cells slots ls hP hI hS hz hc hs hl)
theorem hj_land (hC : hj_C p s m args meth c G cc nL ret own nm Ts) {x y : Int64} (hd : decode cc pc = .ok (.land, 1)) (kk : hj_J p l e R s m args below meth c G h0 nL Q C S h (pc + 1) lv (vl_ (x &&& y) :: st)) : hj_J p l e R s m args below meth c G h0 nL Q C S h pc lv (vl_ y :: vl_ x :: st) :=
  fun H locs cells slots ls hP hI hS hz hc hs hl => lv_land hC.1 hC.2.1 hd (kk H locs cells slots ls hP hI hS hz hc hs hl)
theorem hj_lor (hC : hj_C p s m args meth c G cc nL ret own nm Ts) {x y : Int64} (hd : decode cc pc = .ok (.lor, 1)) (kk : hj_J p l e R s m args below meth c G h0 nL Q C S h (pc + 1) lv (vl_ (x ||| y) :: st)) : hj_J p l e R s m args below meth c G h0 nL Q C S h pc lv (vl_ y :: vl_ x :: st) :=
  fun H locs cells slots ls hP hI hS hz hc hs hl => lv_lor hC.1 hC.2.1 hd (kk H locs cells slots ls hP hI hS hz hc hs hl)
theorem hj_lxor (hC : hj_C p s m args meth c G cc nL ret own nm Ts) {x y : Int64} (hd : decode cc pc = .ok (.lxor, 1)) (kk : hj_J p l e R s m args below meth c G h0 nL Q C S h (pc + 1) lv (vl_ (x ^^^ y) :: st)) : hj_J p l e R s m args below meth c G h0 nL Q C S h pc lv (vl_ y :: vl_ x :: st) :=
  fun H locs cells slots ls hP hI hS hz hc hs hl => lv_lxor hC.1 hC.2.1 hd (kk H locs cells slots ls hP hI hS hz hc hs hl)
theorem hj_ineg (hC : hj_C p s m args meth c G cc nL ret own nm Ts) {x : Int32} (hd : decode cc pc = .ok (.ineg, 1)) (kk : hj_J p l e R s m args below meth c G h0 nL Q C S h (pc + 1) lv (vi_ (-x) :: st)) : hj_J p l e R s m args below meth c G h0 nL Q C S h pc lv (vi_ x :: st) :=
  fun H locs cells slots ls hP hI hS hz hc hs hl => lv_ineg hC.1 hC.2.1 hd (kk H locs cells slots ls hP hI hS hz hc hs hl)
theorem hj_ishl (hC : hj_C p s m args meth c G cc nL ret own nm Ts) {x y : Int32} (hd : decode cc pc = .ok (.ishl, 1)) (kk : hj_J p l e R s m args below meth c G h0 nL Q C S h (pc + 1) lv (vi_ (x <<< (y &&& 31)) :: st)) : hj_J p l e R s m args below meth c G h0 nL Q C S h pc lv (vi_ y :: vi_ x :: st) :=
  fun H locs cells slots ls hP hI hS hz hc hs hl => lv_ishl hC.1 hC.2.1 hd (kk H locs cells slots ls hP hI hS hz hc hs hl)
theorem hj_ishr (hC : hj_C p s m args meth c G cc nL ret own nm Ts) {x y : Int32} (hd : decode cc pc = .ok (.ishr, 1)) (kk : hj_J p l e R s m args below meth c G h0 nL Q C S h (pc + 1) lv (vi_ (x >>> (y &&& 31)) :: st)) : hj_J p l e R s m args below meth c G h0 nL Q C S h pc lv (vi_ y :: vi_ x :: st) :=
  fun H locs cells slots ls hP hI hS hz hc hs hl => lv_ishr hC.1 hC.2.1 hd (kk H locs cells slots ls hP hI hS hz hc hs hl)
theorem hj_i2l (hC : hj_C p s m args meth c G cc nL ret own nm Ts) {x : Int32} (hd : decode cc pc = .ok (.i2l, 1)) (kk : hj_J p l e R s m args below meth c G h0 nL Q C S h (pc + 1) lv (vl_ (x.toInt64) :: st)) : hj_J p l e R s m args below meth c G h0 nL Q C S h pc lv (vi_ x :: st) :=
  fun H locs cells slots ls hP hI hS hz hc hs hl => lv_i2l hC.1 hC.2.1 hd rfl (kk H locs cells slots ls hP hI hS hz hc hs hl)
theorem hj_i2b (hC : hj_C p s m args meth c G cc nL ret own nm Ts) {x : Int32} (hd : decode cc pc = .ok (.i2b, 1)) (kk : hj_J p l e R s m args below meth c G h0 nL Q C S h (pc + 1) lv (vi_ (x.toInt8.toInt32) :: st)) : hj_J p l e R s m args below meth c G h0 nL Q C S h pc lv (vi_ x :: st) :=
  fun H locs cells slots ls hP hI hS hz hc hs hl => lv_i2b hC.1 hC.2.1 hd rfl (kk H locs cells slots ls hP hI hS hz hc hs hl)
theorem hj_l2i (hC : hj_C p s m args meth c G cc nL ret own nm Ts) {x : Int64} (hd : decode cc pc = .ok (.l2i, 1)) (kk : hj_J p l e R s m args below meth c G h0 nL Q C S h (pc + 1) lv (vi_ (x.toInt32) :: st)) : hj_J p l e R s m args below meth c G h0 nL Q C S h pc lv (vl_ x :: st) :=
  fun H locs cells slots ls hP hI hS hz hc hs hl => lv_l2i hC.1 hC.2.1 hd rfl (kk H locs cells slots ls hP hI hS hz hc hs hl)
theorem hj_i2c (hC : hj_C p s m args meth c G cc nL ret own nm Ts) {x : Int32} (hd : decode cc pc = .ok (.i2c, 1)) (kk : hj_J p l e R s m args below meth c G h0 nL Q C S h (pc + 1) lv (vi_ ((x.toUInt32 % 65536).toInt32) :: st)) : hj_J p l e R s m args below meth c G h0 nL Q C S h pc lv (vi_ x :: st) :=
  fun H locs cells slots ls hP hI hS hz hc hs hl => lv_i2c hC.1 hC.2.1 hd rfl (kk H locs cells slots ls hP hI hS hz hc hs hl)
theorem hj_i2s (hC : hj_C p s m args meth c G cc nL ret own nm Ts) {x : Int32} (hd : decode cc pc = .ok (.i2s, 1)) (kk : hj_J p l e R s m args below meth c G h0 nL Q C S h (pc + 1) lv (vi_ (x.toInt16.toInt32) :: st)) : hj_J p l e R s m args below meth c G h0 nL Q C S h pc lv (vi_ x :: st) :=
  fun H locs cells slots ls hP hI hS hz hc hs hl => lv_i2s hC.1 hC.2.1 hd rfl (kk H locs cells slots ls hP hI hS hz hc hs hl)
theorem hj_iushr (hC : hj_C p s m args meth c G cc nL ret own nm Ts) {x y : Int32} (hd : decode cc pc = .ok (.iushr, 1)) (kk : hj_J p l e R s m args below meth c G h0 nL Q C S h (pc + 1) lv (vi_ ((x.toUInt32 >>> (y.toUInt32 &&& Int32.toUInt32 31)).toInt32) :: st)) : hj_J p l e R s m args below meth c G h0 nL Q C S h pc lv (vi_ y :: vi_ x :: st) :=
  fun H locs cells slots ls hP hI hS hz hc hs hl => lv_iushr hC.1 hC.2.1 hd rfl (kk H locs cells slots ls hP hI hS hz hc hs hl)
theorem hj_lushr (hC : hj_C p s m args meth c G cc nL ret own nm Ts) {x : Int64} {y : Int32} (hd : decode cc pc = .ok (.lushr, 1)) (kk : hj_J p l e R s m args below meth c G h0 nL Q C S h (pc + 1) lv (vl_ ((x.toUInt64 >>> (y.toInt64.toUInt64 &&& Int64.toUInt64 63)).toInt64) :: st)) : hj_J p l e R s m args below meth c G h0 nL Q C S h pc lv (vi_ y :: vl_ x :: st) :=
  fun H locs cells slots ls hP hI hS hz hc hs hl => lv_lushr hC.1 hC.2.1 hd rfl (kk H locs cells slots ls hP hI hS hz hc hs hl)
theorem hj_lshl (hC : hj_C p s m args meth c G cc nL ret own nm Ts) {x : Int64} {y : Int32} (hd : decode cc pc = .ok (.lshl, 1)) (kk : hj_J p l e R s m args below meth c G h0 nL Q C S h (pc + 1) lv (vl_ (x <<< (y.toInt64 &&& 63)) :: st)) : hj_J p l e R s m args below meth c G h0 nL Q C S h pc lv (vi_ y :: vl_ x :: st) :=
  fun H locs cells slots ls hP hI hS hz hc hs hl => lv_lshl hC.1 hC.2.1 hd rfl (kk H locs cells slots ls hP hI hS hz hc hs hl)
theorem hj_lshr (hC : hj_C p s m args meth c G cc nL ret own nm Ts) {x : Int64} {y : Int32} (hd : decode cc pc = .ok (.lshr, 1)) (kk : hj_J p l e R s m args below meth c G h0 nL Q C S h (pc + 1) lv (vl_ (x >>> (y.toInt64 &&& 63)) :: st)) : hj_J p l e R s m args below meth c G h0 nL Q C S h pc lv (vi_ y :: vl_ x :: st) :=
  fun H locs cells slots ls hP hI hS hz hc hs hl => lv_lshr hC.1 hC.2.1 hd rfl (kk H locs cells slots ls hP hI hS hz hc hs hl)
theorem hj_irem (hC : hj_C p s m args meth c G cc nL ret own nm Ts) {β : Type} {b : β} {x y : Int32} {mm : hM β} (hd : decode cc pc = .ok (.irem, 1)) (hr : hm_ne y mm h = some (b, C, S, h2)) (kk : ¬ y = 0 → mm h = some (b, C, S, h2) → hj_J p l e R s m args below meth c G h0 nL Q C S h (pc + 1) lv (vi_ (x - x / y * y) :: st)) : hj_J p l e R s m args below meth c G h0 nL Q C S h pc lv (vi_ y :: vi_ x :: st) := by
  unfold hm_ne at hr
  by_cases hy : y = 0
  · rw [if_pos hy] at hr; cases hr
  · rw [if_neg hy] at hr
    exact fun H locs cells slots ls hP hI hS hz hc hs hl => lv_irem hC.1 hC.2.1 hd hy (kk hy hr H locs cells slots ls hP hI hS hz hc hs hl)
theorem hj_idiv (hC : hj_C p s m args meth c G cc nL ret own nm Ts) {β : Type} {b : β} {x y : Int32} {mm : hM β} (hd : decode cc pc = .ok (.idiv, 1)) (hr : hm_ne y mm h = some (b, C, S, h2)) (kk : ¬ y = 0 → mm h = some (b, C, S, h2) → hj_J p l e R s m args below meth c G h0 nL Q C S h (pc + 1) lv (vi_ (x / y) :: st)) : hj_J p l e R s m args below meth c G h0 nL Q C S h pc lv (vi_ y :: vi_ x :: st) := by
  unfold hm_ne at hr
  by_cases hy : y = 0
  · rw [if_pos hy] at hr; cases hr
  · rw [if_neg hy] at hr
    exact fun H locs cells slots ls hP hI hS hz hc hs hl => lv_idiv hC.1 hC.2.1 hd hy (kk hy hr H locs cells slots ls hP hI hS hz hc hs hl)
theorem hj_if_eq (hC : hj_C p s m args meth c G cc nL ret own nm Ts) {β : Type} {b : β} {x : Int32} {mA mB : hM β} {off : Int} (tgt : Nat) (hd : decode cc pc = .ok (.ifCond .eq off, 3)) (ht : (pc : Int) + off = (tgt : Int)) (hr : (if x = 0 then mA else mB) h = some (b, C, S, h2)) (kt : x = 0 → mA h = some (b, C, S, h2) → hj_J p l e R s m args below meth c G h0 nL Q C S h tgt lv st) (kf : ¬ (x = 0) → mB h = some (b, C, S, h2) → hj_J p l e R s m args below meth c G h0 nL Q C S h (pc + 3) lv st) : hj_J p l e R s m args below meth c G h0 nL Q C S h pc lv (vi_ x :: st) := by
  intro H locs cells slots ls hP hI hS hz hc hs hl
  refine lv_if_eq (tgt := tgt) hC.1 hC.2.1 hd ht (fun q => ?_) (fun q => ?_)
  · exact kt q (by rw [if_pos q] at hr; exact hr) H locs cells slots ls hP hI hS hz hc hs hl
  · exact kf q (by rw [if_neg q] at hr; exact hr) H locs cells slots ls hP hI hS hz hc hs hl
theorem hj_icmp_eq (hC : hj_C p s m args meth c G cc nL ret own nm Ts) {β : Type} {b : β} {x y : Int32} {mA mB : hM β} {off : Int} (tgt : Nat) (hd : decode cc pc = .ok (.if_icmp .eq off, 3)) (ht : (pc : Int) + off = (tgt : Int)) (hr : (if x = y then mA else mB) h = some (b, C, S, h2)) (kt : x = y → mA h = some (b, C, S, h2) → hj_J p l e R s m args below meth c G h0 nL Q C S h tgt lv st) (kf : ¬ (x = y) → mB h = some (b, C, S, h2) → hj_J p l e R s m args below meth c G h0 nL Q C S h (pc + 3) lv st) : hj_J p l e R s m args below meth c G h0 nL Q C S h pc lv (vi_ y :: vi_ x :: st) := by
  intro H locs cells slots ls hP hI hS hz hc hs hl
  refine lv_icmp_eq (tgt := tgt) hC.1 hC.2.1 hd ht (fun q => ?_) (fun q => ?_)
  · exact kt q (by rw [if_pos q] at hr; exact hr) H locs cells slots ls hP hI hS hz hc hs hl
  · exact kf q (by rw [if_neg q] at hr; exact hr) H locs cells slots ls hP hI hS hz hc hs hl
theorem hj_if_lt (hC : hj_C p s m args meth c G cc nL ret own nm Ts) {β : Type} {b : β} {x : Int32} {mA mB : hM β} {off : Int} (tgt : Nat) (hd : decode cc pc = .ok (.ifCond .lt off, 3)) (ht : (pc : Int) + off = (tgt : Int)) (hr : (if x < 0 then mA else mB) h = some (b, C, S, h2)) (kt : x < 0 → mA h = some (b, C, S, h2) → hj_J p l e R s m args below meth c G h0 nL Q C S h tgt lv st) (kf : ¬ (x < 0) → mB h = some (b, C, S, h2) → hj_J p l e R s m args below meth c G h0 nL Q C S h (pc + 3) lv st) : hj_J p l e R s m args below meth c G h0 nL Q C S h pc lv (vi_ x :: st) := by
  intro H locs cells slots ls hP hI hS hz hc hs hl
  refine lv_if_lt (tgt := tgt) hC.1 hC.2.1 hd ht (fun q => ?_) (fun q => ?_)
  · exact kt q (by rw [if_pos q] at hr; exact hr) H locs cells slots ls hP hI hS hz hc hs hl
  · exact kf q (by rw [if_neg q] at hr; exact hr) H locs cells slots ls hP hI hS hz hc hs hl
theorem hj_icmp_lt (hC : hj_C p s m args meth c G cc nL ret own nm Ts) {β : Type} {b : β} {x y : Int32} {mA mB : hM β} {off : Int} (tgt : Nat) (hd : decode cc pc = .ok (.if_icmp .lt off, 3)) (ht : (pc : Int) + off = (tgt : Int)) (hr : (if x < y then mA else mB) h = some (b, C, S, h2)) (kt : x < y → mA h = some (b, C, S, h2) → hj_J p l e R s m args below meth c G h0 nL Q C S h tgt lv st) (kf : ¬ (x < y) → mB h = some (b, C, S, h2) → hj_J p l e R s m args below meth c G h0 nL Q C S h (pc + 3) lv st) : hj_J p l e R s m args below meth c G h0 nL Q C S h pc lv (vi_ y :: vi_ x :: st) := by
  intro H locs cells slots ls hP hI hS hz hc hs hl
  refine lv_icmp_lt (tgt := tgt) hC.1 hC.2.1 hd ht (fun q => ?_) (fun q => ?_)
  · exact kt q (by rw [if_pos q] at hr; exact hr) H locs cells slots ls hP hI hS hz hc hs hl
  · exact kf q (by rw [if_neg q] at hr; exact hr) H locs cells slots ls hP hI hS hz hc hs hl
theorem hj_if_ge (hC : hj_C p s m args meth c G cc nL ret own nm Ts) {β : Type} {b : β} {x : Int32} {mA mB : hM β} {off : Int} (tgt : Nat) (hd : decode cc pc = .ok (.ifCond .ge off, 3)) (ht : (pc : Int) + off = (tgt : Int)) (hr : (if 0 ≤ x then mA else mB) h = some (b, C, S, h2)) (kt : 0 ≤ x → mA h = some (b, C, S, h2) → hj_J p l e R s m args below meth c G h0 nL Q C S h tgt lv st) (kf : ¬ (0 ≤ x) → mB h = some (b, C, S, h2) → hj_J p l e R s m args below meth c G h0 nL Q C S h (pc + 3) lv st) : hj_J p l e R s m args below meth c G h0 nL Q C S h pc lv (vi_ x :: st) := by
  intro H locs cells slots ls hP hI hS hz hc hs hl
  refine lv_if_ge (tgt := tgt) hC.1 hC.2.1 hd ht (fun q => ?_) (fun q => ?_)
  · exact kt q (by rw [if_pos q] at hr; exact hr) H locs cells slots ls hP hI hS hz hc hs hl
  · exact kf q (by rw [if_neg q] at hr; exact hr) H locs cells slots ls hP hI hS hz hc hs hl
theorem hj_icmp_ge (hC : hj_C p s m args meth c G cc nL ret own nm Ts) {β : Type} {b : β} {x y : Int32} {mA mB : hM β} {off : Int} (tgt : Nat) (hd : decode cc pc = .ok (.if_icmp .ge off, 3)) (ht : (pc : Int) + off = (tgt : Int)) (hr : (if y ≤ x then mA else mB) h = some (b, C, S, h2)) (kt : y ≤ x → mA h = some (b, C, S, h2) → hj_J p l e R s m args below meth c G h0 nL Q C S h tgt lv st) (kf : ¬ (y ≤ x) → mB h = some (b, C, S, h2) → hj_J p l e R s m args below meth c G h0 nL Q C S h (pc + 3) lv st) : hj_J p l e R s m args below meth c G h0 nL Q C S h pc lv (vi_ y :: vi_ x :: st) := by
  intro H locs cells slots ls hP hI hS hz hc hs hl
  refine lv_icmp_ge (tgt := tgt) hC.1 hC.2.1 hd ht (fun q => ?_) (fun q => ?_)
  · exact kt q (by rw [if_pos q] at hr; exact hr) H locs cells slots ls hP hI hS hz hc hs hl
  · exact kf q (by rw [if_neg q] at hr; exact hr) H locs cells slots ls hP hI hS hz hc hs hl
theorem hj_if_gt (hC : hj_C p s m args meth c G cc nL ret own nm Ts) {β : Type} {b : β} {x : Int32} {mA mB : hM β} {off : Int} (tgt : Nat) (hd : decode cc pc = .ok (.ifCond .gt off, 3)) (ht : (pc : Int) + off = (tgt : Int)) (hr : (if 0 < x then mA else mB) h = some (b, C, S, h2)) (kt : 0 < x → mA h = some (b, C, S, h2) → hj_J p l e R s m args below meth c G h0 nL Q C S h tgt lv st) (kf : ¬ (0 < x) → mB h = some (b, C, S, h2) → hj_J p l e R s m args below meth c G h0 nL Q C S h (pc + 3) lv st) : hj_J p l e R s m args below meth c G h0 nL Q C S h pc lv (vi_ x :: st) := by
  intro H locs cells slots ls hP hI hS hz hc hs hl
  refine lv_if_gt (tgt := tgt) hC.1 hC.2.1 hd ht (fun q => ?_) (fun q => ?_)
  · exact kt q (by rw [if_pos q] at hr; exact hr) H locs cells slots ls hP hI hS hz hc hs hl
  · exact kf q (by rw [if_neg q] at hr; exact hr) H locs cells slots ls hP hI hS hz hc hs hl
theorem hj_icmp_gt (hC : hj_C p s m args meth c G cc nL ret own nm Ts) {β : Type} {b : β} {x y : Int32} {mA mB : hM β} {off : Int} (tgt : Nat) (hd : decode cc pc = .ok (.if_icmp .gt off, 3)) (ht : (pc : Int) + off = (tgt : Int)) (hr : (if y < x then mA else mB) h = some (b, C, S, h2)) (kt : y < x → mA h = some (b, C, S, h2) → hj_J p l e R s m args below meth c G h0 nL Q C S h tgt lv st) (kf : ¬ (y < x) → mB h = some (b, C, S, h2) → hj_J p l e R s m args below meth c G h0 nL Q C S h (pc + 3) lv st) : hj_J p l e R s m args below meth c G h0 nL Q C S h pc lv (vi_ y :: vi_ x :: st) := by
  intro H locs cells slots ls hP hI hS hz hc hs hl
  refine lv_icmp_gt (tgt := tgt) hC.1 hC.2.1 hd ht (fun q => ?_) (fun q => ?_)
  · exact kt q (by rw [if_pos q] at hr; exact hr) H locs cells slots ls hP hI hS hz hc hs hl
  · exact kf q (by rw [if_neg q] at hr; exact hr) H locs cells slots ls hP hI hS hz hc hs hl
theorem hj_if_le (hC : hj_C p s m args meth c G cc nL ret own nm Ts) {β : Type} {b : β} {x : Int32} {mA mB : hM β} {off : Int} (tgt : Nat) (hd : decode cc pc = .ok (.ifCond .le off, 3)) (ht : (pc : Int) + off = (tgt : Int)) (hr : (if x ≤ 0 then mA else mB) h = some (b, C, S, h2)) (kt : x ≤ 0 → mA h = some (b, C, S, h2) → hj_J p l e R s m args below meth c G h0 nL Q C S h tgt lv st) (kf : ¬ (x ≤ 0) → mB h = some (b, C, S, h2) → hj_J p l e R s m args below meth c G h0 nL Q C S h (pc + 3) lv st) : hj_J p l e R s m args below meth c G h0 nL Q C S h pc lv (vi_ x :: st) := by
  intro H locs cells slots ls hP hI hS hz hc hs hl
  refine lv_if_le (tgt := tgt) hC.1 hC.2.1 hd ht (fun q => ?_) (fun q => ?_)
  · exact kt q (by rw [if_pos q] at hr; exact hr) H locs cells slots ls hP hI hS hz hc hs hl
  · exact kf q (by rw [if_neg q] at hr; exact hr) H locs cells slots ls hP hI hS hz hc hs hl
theorem hj_icmp_le (hC : hj_C p s m args meth c G cc nL ret own nm Ts) {β : Type} {b : β} {x y : Int32} {mA mB : hM β} {off : Int} (tgt : Nat) (hd : decode cc pc = .ok (.if_icmp .le off, 3)) (ht : (pc : Int) + off = (tgt : Int)) (hr : (if x ≤ y then mA else mB) h = some (b, C, S, h2)) (kt : x ≤ y → mA h = some (b, C, S, h2) → hj_J p l e R s m args below meth c G h0 nL Q C S h tgt lv st) (kf : ¬ (x ≤ y) → mB h = some (b, C, S, h2) → hj_J p l e R s m args below meth c G h0 nL Q C S h (pc + 3) lv st) : hj_J p l e R s m args below meth c G h0 nL Q C S h pc lv (vi_ y :: vi_ x :: st) := by
  intro H locs cells slots ls hP hI hS hz hc hs hl
  refine lv_icmp_le (tgt := tgt) hC.1 hC.2.1 hd ht (fun q => ?_) (fun q => ?_)
  · exact kt q (by rw [if_pos q] at hr; exact hr) H locs cells slots ls hP hI hS hz hc hs hl
  · exact kf q (by rw [if_neg q] at hr; exact hr) H locs cells slots ls hP hI hS hz hc hs hl
theorem hj_goto (hC : hj_C p s m args meth c G cc nL ret own nm Ts) {off : Int} (tgt : Nat) (hd : decode cc pc = .ok (.goto off, 3)) (ht : (pc : Int) + off = (tgt : Int)) (kk : hj_J p l e R s m args below meth c G h0 nL Q C S h tgt lv st) : hj_J p l e R s m args below meth c G h0 nL Q C S h pc lv st :=
  fun H locs cells slots ls hP hI hS hz hc hs hl => lv_goto (tgt := tgt) hC.1 hC.2.1 hd ht (kk H locs cells slots ls hP hI hS hz hc hs hl)
theorem hj_ifnull (hC : hj_C p s m args meth c G cc nL ret own nm Ts) {β : Type} {b : β} {r : Option Nat} {mA mB : hM β} {off : Int} (tgt : Nat) (hd : decode cc pc = .ok (.ifnull off, 3)) (ht : (pc : Int) + off = (tgt : Int)) (hr : (if r = none then mA else mB) h = some (b, C, S, h2)) (kt : r = none → mA h = some (b, C, S, h2) → hj_J p l e R s m args below meth c G h0 nL Q C S h tgt lv st) (kf : ¬ (r = none) → mB h = some (b, C, S, h2) → hj_J p l e R s m args below meth c G h0 nL Q C S h (pc + 3) lv st) : hj_J p l e R s m args below meth c G h0 nL Q C S h pc lv (vr_ r :: st) := by
  intro H locs cells slots ls hP hI hS hz hc hs hl
  cases r with
  | none => exact lv_ifnullN (tgt := tgt) hC.1 hC.2.1 hd ht (kt rfl (by rw [if_pos rfl] at hr; exact hr) H locs cells slots ls hP hI hS hz hc hs hl)
  | some a => exact lv_ifnull hC.1 hC.2.1 hd (kf (fun q => by cases q) (by rw [if_neg (fun q => by cases q)] at hr; exact hr) H locs cells slots ls hP hI hS hz hc hs hl)
theorem hj_tableIn (hC : hj_C p s m args meth c G cc nL ret own nm Ts) {dflt lo hi off : Int} {offs : Array Int} {len : Nat} {x : Int32} (tgt : Nat) (hd : decode cc pc = .ok (.tableswitch dflt lo hi offs, len)) (hb1 : ¬ x.toInt < lo) (hb2 : ¬ hi < x.toInt) (ho : offs[(x.toInt - lo).toNat]? = some off) (ht : (pc : Int) + off = (tgt : Int)) (kk : hj_J p l e R s m args below meth c G h0 nL Q C S h tgt lv st) : hj_J p l e R s m args below meth c G h0 nL Q C S h pc lv (vi_ x :: st) :=
  fun H locs cells slots ls hP hI hS hz hc hs hl => lv_tableIn (tgt := tgt) hC.1 hC.2.1 hd hb1 hb2 ho ht (kk H locs cells slots ls hP hI hS hz hc hs hl)
theorem hj_tableOut (hC : hj_C p s m args meth c G cc nL ret own nm Ts) {dflt lo hi : Int} {offs : Array Int} {len : Nat} {x : Int32} (tgt : Nat) (hd : decode cc pc = .ok (.tableswitch dflt lo hi offs, len)) (hlt : x.toInt < lo ∨ hi < x.toInt) (ht : (pc : Int) + dflt = (tgt : Int)) (kk : hj_J p l e R s m args below meth c G h0 nL Q C S h tgt lv st) : hj_J p l e R s m args below meth c G h0 nL Q C S h pc lv (vi_ x :: st) :=
  fun H locs cells slots ls hP hI hS hz hc hs hl => lv_tableOut (tgt := tgt) hC.1 hC.2.1 hd hlt ht (kk H locs cells slots ls hP hI hS hz hc hs hl)
theorem hj_tableDf (hC : hj_C p s m args meth c G cc nL ret own nm Ts) {dflt lo hi : Int} {offs : Array Int} {len : Nat} {x : Int32} (tgt : Nat) (hd : decode cc pc = .ok (.tableswitch dflt lo hi offs, len)) (hlt : (x.toInt < lo ∨ hi < x.toInt) ∨ (¬ x.toInt < lo ∧ ¬ hi < x.toInt ∧ offs[(x.toInt - lo).toNat]? = some dflt)) (ht : (pc : Int) + dflt = (tgt : Int)) (kk : hj_J p l e R s m args below meth c G h0 nL Q C S h tgt lv st) : hj_J p l e R s m args below meth c G h0 nL Q C S h pc lv (vi_ x :: st) := by
  rcases hlt with q | ⟨q1, q2, q3⟩
  · exact hj_tableOut hC tgt hd q ht kk
  · exact hj_tableIn hC tgt hd q1 q2 q3 ht kk
theorem hj_lookup (hC : hj_C p s m args meth c G cc nL ret own nm Ts) {dflt off : Int} {ps : Array (Int × Int)} {len : Nat} {x : Int32} (tgt : Nat) (hd : decode cc pc = .ok (.lookupswitch dflt ps, len)) (hp : (ps.toList.zip (ps.toList.drop 1)).all (fun (a, next) => a.1 < next.1) = true) (ho : Op.lookupswitch.offset ps.toList dflt x.toInt = off) (ht : (pc : Int) + off = (tgt : Int)) (kk : hj_J p l e R s m args below meth c G h0 nL Q C S h tgt lv st) : hj_J p l e R s m args below meth c G h0 nL Q C S h pc lv (vi_ x :: st) :=
  fun H locs cells slots ls hP hI hS hz hc hs hl => lv_lookup (tgt := tgt) hC.1 hC.2.1 hd hp ho ht (kk H locs cells slots ls hP hI hS hz hc hs hl)
theorem hj_if_ne (hC : hj_C p s m args meth c G cc nL ret own nm Ts) {β : Type} {b : β} {x : Int32} {mA mB : hM β} {off : Int} (tgt : Nat) (hd : decode cc pc = .ok (.ifCond .ne off, 3)) (ht : (pc : Int) + off = (tgt : Int)) (hr : (if x = 0 then mB else mA) h = some (b, C, S, h2)) (kt : ¬ x = 0 → mA h = some (b, C, S, h2) → hj_J p l e R s m args below meth c G h0 nL Q C S h tgt lv st) (kf : x = 0 → mB h = some (b, C, S, h2) → hj_J p l e R s m args below meth c G h0 nL Q C S h (pc + 3) lv st) : hj_J p l e R s m args below meth c G h0 nL Q C S h pc lv (vi_ x :: st) := by
  intro H locs cells slots ls hP hI hS hz hc hs hl
  refine lv_if_ne (tgt := tgt) hC.1 hC.2.1 hd ht (fun q => ?_) (fun q => ?_)
  · exact kt q (by rw [if_neg q] at hr; exact hr) H locs cells slots ls hP hI hS hz hc hs hl
  · exact kf q (by rw [if_pos q] at hr; exact hr) H locs cells slots ls hP hI hS hz hc hs hl
theorem hj_icmp_ne (hC : hj_C p s m args meth c G cc nL ret own nm Ts) {β : Type} {b : β} {x y : Int32} {mA mB : hM β} {off : Int} (tgt : Nat) (hd : decode cc pc = .ok (.if_icmp .ne off, 3)) (ht : (pc : Int) + off = (tgt : Int)) (hr : (if x = y then mB else mA) h = some (b, C, S, h2)) (kt : ¬ x = y → mA h = some (b, C, S, h2) → hj_J p l e R s m args below meth c G h0 nL Q C S h tgt lv st) (kf : x = y → mB h = some (b, C, S, h2) → hj_J p l e R s m args below meth c G h0 nL Q C S h (pc + 3) lv st) : hj_J p l e R s m args below meth c G h0 nL Q C S h pc lv (vi_ y :: vi_ x :: st) := by
  intro H locs cells slots ls hP hI hS hz hc hs hl
  refine lv_icmp_ne (tgt := tgt) hC.1 hC.2.1 hd ht (fun q => ?_) (fun q => ?_)
  · exact kt q (by rw [if_neg q] at hr; exact hr) H locs cells slots ls hP hI hS hz hc hs hl
  · exact kf q (by rw [if_pos q] at hr; exact hr) H locs cells slots ls hP hI hS hz hc hs hl
theorem hj_ifnonnull (hC : hj_C p s m args meth c G cc nL ret own nm Ts) {β : Type} {b : β} {r : Option Nat} {mA mB : hM β} {off : Int} (tgt : Nat) (hd : decode cc pc = .ok (.ifnonnull off, 3)) (ht : (pc : Int) + off = (tgt : Int)) (hr : (if r = none then mB else mA) h = some (b, C, S, h2)) (kt : ¬ r = none → mA h = some (b, C, S, h2) → hj_J p l e R s m args below meth c G h0 nL Q C S h tgt lv st) (kf : r = none → mB h = some (b, C, S, h2) → hj_J p l e R s m args below meth c G h0 nL Q C S h (pc + 3) lv st) : hj_J p l e R s m args below meth c G h0 nL Q C S h pc lv (vr_ r :: st) := by
  intro H locs cells slots ls hP hI hS hz hc hs hl
  cases r with
  | none => exact lv_ifnonnullN hC.1 hC.2.1 hd (kf rfl (by rw [if_pos rfl] at hr; exact hr) H locs cells slots ls hP hI hS hz hc hs hl)
  | some a => exact lv_ifnonnull (tgt := tgt) hC.1 hC.2.1 hd ht (kt (fun q => by cases q) (by rw [if_neg (fun q => by cases q)] at hr; exact hr) H locs cells slots ls hP hI hS hz hc hs hl)
theorem hj_jn (_hC : hj_C p s m args meth c G cc nL ret own nm Ts) {β : Type} {b : β} {K : Type} {kd : K} {f : K → hM β} (P : K → Prop) (hr : hm_jn kd f h = some (b, C, S, h2)) (hP : P kd) (kk : ∀ k, P k → f k h = some (b, C, S, h2) → hj_J p l e R s m args below meth c G h0 nL Q C S h pc lv st) : hj_J p l e R s m args below meth c G h0 nL Q C S h pc lv st := kk kd hP hr
-- heap rows
theorem hj_one {D : va_G} {cl : List vw_C} {x : Nat × va_E} {H : Heap} (hx : va_at D cl x H) : va_P D cl [x] H := by
  intro j q hq
  have hj : j < 1 := (List.getElem?_eq_some_iff.mp hq).1
  rw [show j = 0 by omega] at hq
  cases hq
  exact hx
theorem hj_K (hC : hj_C p s m args meth c G cc nL ret own nm Ts) : va_K G.1 G.2.2.1 [] s := ⟨hC.2.2.2.2.2.2.2.2.1, fun k q hk => by simp at hk⟩
theorem hj_Kt (hC : hj_C p s m args meth c G cc nL ret own nm Ts) {kd : Nat} {ty : FieldType} (hk : G.2.2.2.1[kd]? = some ty) : va_K G.1 G.2.2.1 [(G.2.1 kd, ty)] s := by
  refine ⟨hC.2.2.2.2.2.2.2.2.1, fun j q hq => ?_⟩
  have hj : j < 1 := (List.getElem?_eq_some_iff.mp hq).1
  rw [show j = 0 by omega] at hq
  cases hq
  exact hC.2.2.2.2.2.2.2.2.2.1 kd ty hk
theorem hj_rd (hC : hj_C p s m args meth c G cc nL ret own nm Ts) {ci k N index a : Nat} {Cn ref : String} {T : u_T} {ty : Nat → FieldType} (hcl : hc_cls Ts G.2.2.1 ci Cn T N ty) (hk : k < N) (hw : Cond.fieldLink own index ref (T k).2.1 (T k).2.2.1 ∈ Ts) (href : (T k).1 = ref) (hd : decode cc pc = .ok (.getfield index, 3)) {fs : List lc_V} {v : lc_V} (ha : h.2.2.2 ci a = some fs) (hv : fs[k]? = some v) (kk : hj_J p l e R s m args below meth c G h0 nL Q C S h (pc + 3) lv (v :: st)) : hj_J p l e R s m args below meth c G h0 nL Q C S h pc lv (vr_ (some a) :: st) :=
  fun H locs cells slots ls hP hI hS hz hc hs hl => va_get (D := G.1) (cl := G.2.2.1) (tys := []) (ws := [(a, .inr (ci, fs.map lc_val))]) hC.1 hC.2.1 hC.2.2.2.2.2.2.2.1 hcl.2.1 hC.2.2.2.2.2.2.1 (hj_K hC) (hj_one (hP.2.1 a (.inr (.inr (ci, fs))) ha).1) 0 rfl hcl.1 k hk (hC.2.2.2.2.2.2.2.1 _ hw) (fun x hx => by rw [← href]; exact hx) (by rw [List.getElem?_map, hv]; rfl) hd (kk H locs cells slots ls hP hI hS hz hc hs hl)
theorem hj_geti (hC : hj_C p s m args meth c G cc nL ret own nm Ts) {β : Type} {b : β} {ci k N index : Nat} {Cn ref : String} {T : u_T} {ty : Nat → FieldType} {r : Option Nat} {kont : Int32 → hM β} (hcl : hc_cls Ts G.2.2.1 ci Cn T N ty) (hk : k < N) (hw : Cond.fieldLink own index ref (T k).2.1 (T k).2.2.1 ∈ Ts) (href : (T k).1 = ref) (hd : decode cc pc = .ok (.getfield index, 3)) (hr : hm_bind (hm_geti ci k r) kont h = some (b, C, S, h2)) (kk : ∀ v, kont v h = some (b, C, S, h2) → hj_J p l e R s m args below meth c G h0 nL Q C S h (pc + 3) lv (vi_ v :: st)) : hj_J p l e R s m args below meth c G h0 nL Q C S h pc lv (vr_ r :: st) := by
  obtain ⟨v, c1, s1, h1, c2, s2, hm, hk2, rfl, rfl⟩ := hm_bind_inv hr
  unfold hm_geti at hm
  split at hm
  · next w hw2 =>
    cases hm
    obtain ⟨a, fs, rfl, ha, hv⟩ := hc_fld_inv hw2
    simp only [Nat.zero_add] at kk ⊢
    exact hj_rd hC hcl hk hw href hd ha hv (kk _ hk2)
  · cases hm
theorem hj_getr (hC : hj_C p s m args meth c G cc nL ret own nm Ts) {β : Type} {b : β} {ci k N index : Nat} {Cn ref : String} {T : u_T} {ty : Nat → FieldType} {r : Option Nat} {kont : Option Nat → hM β} (hcl : hc_cls Ts G.2.2.1 ci Cn T N ty) (hk : k < N) (hw : Cond.fieldLink own index ref (T k).2.1 (T k).2.2.1 ∈ Ts) (href : (T k).1 = ref) (hd : decode cc pc = .ok (.getfield index, 3)) (hr : hm_bind (hm_getr ci k r) kont h = some (b, C, S, h2)) (kk : ∀ v, kont v h = some (b, C, S, h2) → hj_J p l e R s m args below meth c G h0 nL Q C S h (pc + 3) lv (vr_ v :: st)) : hj_J p l e R s m args below meth c G h0 nL Q C S h pc lv (vr_ r :: st) := by
  obtain ⟨v, c1, s1, h1, c2, s2, hm, hk2, rfl, rfl⟩ := hm_bind_inv hr
  unfold hm_getr at hm
  split at hm
  · next w hw2 =>
    cases hm
    obtain ⟨a, fs, rfl, ha, hv⟩ := hc_fld_inv hw2
    simp only [Nat.zero_add] at kk ⊢
    exact hj_rd hC hcl hk hw href hd ha hv (kk _ hk2)
  · cases hm
theorem hj_wr (hC : hj_C p s m args meth c G cc nL ret own nm Ts) {ci k N index a : Nat} {Cn ref : String} {T : u_T} {ty : Nat → FieldType} (hcl : hc_cls Ts G.2.2.1 ci Cn T N ty) (hk : k < N) (hw : Cond.fieldLink own index ref (T k).2.1 (T k).2.2.1 ∈ Ts) (href : (T k).1 = ref) (hfin : (T k).2.2.2 = false ∨ ((T k).2.2.2 = true ∧ nm = "<init>" ∧ (T k).1 = own)) {w : lc_V} (hn : narrow (ty k) (lc_val w) = lc_val w) (hfit : fits (ty k) (lc_val w) = true) (hd : decode cc pc = .ok (.putfield index, 3)) {fs : List lc_V} (ha : h.2.2.2 ci a = some fs) (hlen : k < fs.length) (kk : hj_J p l e R s m args below meth c G h0 nL Q C S (hc_up h a (.inr (.inr (ci, fs.set k w)))) (pc + 3) lv st) : hj_J p l e R s m args below meth c G h0 nL Q C S h pc lv (w :: vr_ (some a) :: st) := by
  intro H locs cells slots ls hP hI hS hz hc hs hl
  have hK := hj_K hC
  obtain ⟨hcc, hin, hty, hnm⟩ := hcl
  have hts := hC.2.2.2.2.2.2.2.1
  have hown := hC.2.2.2.2.2.2.1
  have hap := va_apart (own := own) hts hin ty hty hnm hK hcc
  have ha' : hc_has h a (.inr (.inr (ci, fs))) := ha
  obtain ⟨⟨r, hr1, cell, q1, q2, q3, q4⟩, -⟩ := hP.2.1 a _ ha'
  have hr : r = (Cn, T, N) := Option.some.inj (hr1.symm.trans hcc)
  subst hr
  obtain ⟨hSl, hfc, kC, hkC, hkind⟩ := hK.1 ci _ hcc
  obtain ⟨cf, kf, fi, f, hi, hsl⟩ := hSl k hk
  have hi2 : s.fieldFound? ref (T k).2.1 (T k).2.2.1 = some (cf, kf, fi, f) := by rw [← href]; exact hi
  have hst := (u_facts hfc hkC (u_lays hts hin hk) hi).1
  have fin : ∀ H' : Heap, H'[a]? = some (cell.setSlot f.slot (lc_val w)) → H'.size = H.size → (∀ q, q ≠ a → H'[q]? = H[q]?) → W p l e R s m args below meth c H' (locs ++ [⟨a, f.slot⟩]) cells slots Q (F0 m (pc + 3) ls (st.map lc_val)) := by
    intro H' e1 e2 e3
    rw [hsl] at e1 ⊢
    refine kk H' _ cells slots ls (hP.set ha' rfl ?_ trivial e2 e3) (hI.set ha') (hS.put e2 e3 (hI a _ ha')) hz hc hs hl
    refine ⟨_, hcc, ?_⟩
    rw [List.map_set]
    exact t_OB.to (V := updV (vp_V (fs.map lc_val)) k (lc_val w)) ⟨_, e1, q2, q3, t_set q4 hap hk (lc_val w)⟩ (fun j _ => vp_updV_set (by rw [List.length_map]; exact hlen) (lc_val w) j)
  rcases hfin with hfin | ⟨hfin, hnm2, hown2⟩
  · have hlay := hts _ (hin _ (u_in_lay hk))
    unfold u_lay at hlay
    rw [if_neg (by rw [hfin]; decide)] at hlay
    have h6 := u_store hfc hkC hkind hlay hi (hty k hk) hn hfit
    exact W.putK hC.1 hC.2.1 (f := f) ⟨hown, hts _ hw, ⟨_, _, _, hi2⟩, hst⟩ (by rw [q2]; exact h6) q1 q3 (by rw [hsl]; exact k2_hasslot (q4 k hk)) rfl rfl hd fin
  · have hlay := hts _ (hin _ (u_in_lay hk))
    unfold u_lay at hlay
    rw [if_pos hfin] at hlay
    have hcf : m.cls = cf := by
      obtain ⟨_, _, c', _, _, _, -, -, hf', -, -, -, hown3, -⟩ := Cond.laysFinal_spec hlay
      have e1 : c' = cf := by have := hi.symm.trans hf'; simp at this; exact this.1.symm
      rw [hown2] at hown3
      rw [← e1]; exact Option.some.inj (hown.symm.trans hown3)
    have h6 := u_fits hfc hkC hkind (Or.inr hlay) hi (hty k hk) hn hfit
    exact W.putFinK hC.1 hC.2.1 hown (hts _ hw) hi2 hst hcf (hC.2.2.2.2.2.1.trans hnm2) (by rw [q2]; exact h6) q1 q3 (by rw [hsl]; exact k2_hasslot (q4 k hk)) rfl rfl hd fin
theorem hj_put (hC : hj_C p s m args meth c G cc nL ret own nm Ts) {β : Type} {b : β} {ci k N index : Nat} {Cn ref : String} {T : u_T} {ty : Nat → FieldType} {r : Option Nat} {w : lc_V} {kont : Unit → hM β} (hcl : hc_cls Ts G.2.2.1 ci Cn T N ty) (hk : k < N) (hw : Cond.fieldLink own index ref (T k).2.1 (T k).2.2.1 ∈ Ts) (href : (T k).1 = ref) (hfin : (T k).2.2.2 = false ∨ ((T k).2.2.2 = true ∧ nm = "<init>" ∧ (T k).1 = own)) (hn : narrow (ty k) (lc_val w) = lc_val w) (hfit : fits (ty k) (lc_val w) = true) (hd : decode cc pc = .ok (.putfield index, 3)) (hr : hm_bind (hm_put ci k r w) kont h = some (b, C, S, h2)) (kk : ∀ h', kont () h' = some (b, C, S, h2) → hj_J p l e R s m args below meth c G h0 nL Q C S h' (pc + 3) lv st) : hj_J p l e R s m args below meth c G h0 nL Q C S h pc lv (w :: vr_ r :: st) := by
  obtain ⟨⟨⟩, c1, s1, h1, c2, s2, hm, hk2, rfl, rfl⟩ := hm_bind_inv hr
  obtain ⟨a, fs, rfl, ha, hlen, rfl, rfl, rfl⟩ := hm_put_inv hm
  simp only [Nat.zero_add] at kk ⊢
  exact hj_wr hC hcl hk hw href hfin hn hfit hd ha hlen (kk _ hk2)
theorem hj_puti (hC : hj_C p s m args meth c G cc nL ret own nm Ts) {β : Type} {b : β} {ci k N index : Nat} {Cn ref : String} {T : u_T} {ty : Nat → FieldType} {r : Option Nat} {x : Int32} {kont : Unit → hM β} (hcl : hc_cls Ts G.2.2.1 ci Cn T N ty) (hk : k < N) (hw : Cond.fieldLink own index ref (T k).2.1 (T k).2.2.1 ∈ Ts) (href : (T k).1 = ref) (hfin : (T k).2.2.2 = false ∨ ((T k).2.2.2 = true ∧ nm = "<init>" ∧ (T k).1 = own)) (hty : ty k = .int) (hd : decode cc pc = .ok (.putfield index, 3)) (hr : hm_bind (hm_puti ci k r x) kont h = some (b, C, S, h2)) (kk : ∀ h', kont () h' = some (b, C, S, h2) → hj_J p l e R s m args below meth c G h0 nL Q C S h' (pc + 3) lv st) : hj_J p l e R s m args below meth c G h0 nL Q C S h pc lv (vi_ x :: vr_ r :: st) :=
  hj_put hC hcl hk hw href hfin (by rw [hty]; rfl) (by rw [hty]; rfl) hd hr kk
theorem hj_putz (hC : hj_C p s m args meth c G cc nL ret own nm Ts) {β : Type} {b : β} {ci k N index : Nat} {Cn ref : String} {T : u_T} {ty : Nat → FieldType} {r : Option Nat} {x : Int32} {kont : Unit → hM β} (hcl : hc_cls Ts G.2.2.1 ci Cn T N ty) (hk : k < N) (hw : Cond.fieldLink own index ref (T k).2.1 (T k).2.2.1 ∈ Ts) (href : (T k).1 = ref) (hfin : (T k).2.2.2 = false ∨ ((T k).2.2.2 = true ∧ nm = "<init>" ∧ (T k).1 = own)) (hty : ty k = .boolean) (hd : decode cc pc = .ok (.putfield index, 3)) (hr : hm_bind (hm_putz ci k r x) kont h = some (b, C, S, h2)) (kk : ∀ h', kont () h' = some (b, C, S, h2) → hj_J p l e R s m args below meth c G h0 nL Q C S h' (pc + 3) lv st) : hj_J p l e R s m args below meth c G h0 nL Q C S h pc lv (vi_ x :: vr_ r :: st) := by
  unfold hm_putz at hr
  by_cases hx : x = 0 ∨ x = 1
  · rw [if_pos hx] at hr
    refine hj_put hC hcl hk hw href hfin ?_ ?_ hd hr kk
    · rw [hty]; rcases hx with rfl | rfl <;> decide
    · rw [hty]; rcases hx with rfl | rfl <;> decide
  · rw [if_neg hx] at hr
    cases hr
theorem hj_putr (hC : hj_C p s m args meth c G cc nL ret own nm Ts) {β : Type} {b : β} {ci k N index : Nat} {Cn ref : String} {T : u_T} {ty : Nat → FieldType} {r x : Option Nat} {kont : Unit → hM β} (hcl : hc_cls Ts G.2.2.1 ci Cn T N ty) (hk : k < N) (hw : Cond.fieldLink own index ref (T k).2.1 (T k).2.2.1 ∈ Ts) (href : (T k).1 = ref) (hfin : (T k).2.2.2 = false ∨ ((T k).2.2.2 = true ∧ nm = "<init>" ∧ (T k).1 = own)) (hty : (ty k).isReference = true) (hd : decode cc pc = .ok (.putfield index, 3)) (hr : hm_bind (hm_putr ci k r x) kont h = some (b, C, S, h2)) (kk : ∀ h', kont () h' = some (b, C, S, h2) → hj_J p l e R s m args below meth c G h0 nL Q C S h' (pc + 3) lv st) : hj_J p l e R s m args below meth c G h0 nL Q C S h pc lv (vr_ x :: vr_ r :: st) := by
  refine hj_put hC hcl hk hw href hfin ?_ ?_ hd hr kk
  · cases hk9 : ty k <;> rw [hk9] at hty <;> first | (cases hty; done) | (cases x <;> rfl)
  · cases hk9 : ty k <;> rw [hk9] at hty <;> first | (cases hty; done) | (cases x <;> rfl)
-- arrays
theorem hj_ild_inv {kd : Nat} {r : Option Nat} {i v : Int32} {h h1 : hc_H} {c1 s1 : Nat} (hm : hm_ild kd r i h = some (v, c1, s1, h1)) : ∃ a n f, r = some a ∧ h.2.1 kd a = some (n, f) ∧ vp_in i n ∧ v = f i.toNatClampNeg ∧ c1 = 0 ∧ s1 = 0 ∧ h1 = h := by
  unfold hm_ild at hm
  split at hm
  · next a n f ha =>
    obtain ⟨h1, h2⟩ := hc_iar_inv ha
    split at hm
    · cases hm
    · next hin =>
      cases hm
      exact ⟨_, _, _, h1, h2, hin, rfl, rfl, rfl, rfl⟩
  · cases hm
theorem hj_ist_inv {kd : Nat} {r : Option Nat} {i x : Int32} {h h1 : hc_H} {u : Unit} {c1 s1 : Nat} (hm : hm_ist kd r i x h = some (u, c1, s1, h1)) : ∃ a n f, r = some a ∧ h.2.1 kd a = some (n, f) ∧ vp_in i n ∧ c1 = 0 ∧ s1 = 0 ∧ h1 = hc_up h a (.inl (kd, n, va_up f i.toNatClampNeg x)) := by
  unfold hm_ist at hm
  split at hm
  · next a n f ha =>
    obtain ⟨h1, h2⟩ := hc_iar_inv ha
    split at hm
    · cases hm
    · next hin =>
      cases hm
      exact ⟨_, _, _, h1, h2, hin, rfl, rfl, rfl⟩
  · cases hm
theorem hj_iald (hC : hj_C p s m args meth c G cc nL ret own nm Ts) {β : Type} {b : β} {kd : Nat} {r : Option Nat} {i : Int32} {kont : Int32 → hM β} (ht : G.2.2.2.1[kd]? = some .int) (hd : decode cc pc = .ok (.iaload, 1)) (hr : hm_bind (hm_ild kd r i) kont h = some (b, C, S, h2)) (kk : ∀ v, kont v h = some (b, C, S, h2) → hj_J p l e R s m args below meth c G h0 nL Q C S h (pc + 1) lv (vi_ v :: st)) : hj_J p l e R s m args below meth c G h0 nL Q C S h pc lv (vi_ i :: vr_ r :: st) := by
  obtain ⟨v, c1, s1, h1, c2, s2, hm, hk2, rfl, rfl⟩ := hm_bind_inv hr
  obtain ⟨a, n, f, rfl, ha, hin, rfl, rfl, rfl, rfl⟩ := hj_ild_inv hm
  simp only [Nat.zero_add] at kk ⊢
  exact fun H locs cells slots ls hP hI hS hz hc hs hl => va_iald (D := G.1) (cl := G.2.2.1) (tys := [(G.2.1 kd, .int)]) (ws := [(a, .inl (G.2.1 kd, n, .inl f))]) hC.1 hC.2.1 (hj_Kt hC ht) (hj_one (hP.2.1 a (.inl (kd, n, f)) ha).1) 0 0 rfl rfl hin hd (kk _ hk2 H locs cells slots ls hP hI hS hz (by omega) (by omega) hl)
theorem hj_bald (hC : hj_C p s m args meth c G cc nL ret own nm Ts) {β : Type} {b : β} {kd : Nat} {r : Option Nat} {i : Int32} {kont : Int32 → hM β} (ht : G.2.2.2.1[kd]? = some .byte) (hd : decode cc pc = .ok (.baload, 1)) (hr : hm_bind (hm_ild kd r i) kont h = some (b, C, S, h2)) (kk : ∀ v, kont v h = some (b, C, S, h2) → hj_J p l e R s m args below meth c G h0 nL Q C S h (pc + 1) lv (vi_ v :: st)) : hj_J p l e R s m args below meth c G h0 nL Q C S h pc lv (vi_ i :: vr_ r :: st) := by
  obtain ⟨v, c1, s1, h1, c2, s2, hm, hk2, rfl, rfl⟩ := hm_bind_inv hr
  obtain ⟨a, n, f, rfl, ha, hin, rfl, rfl, rfl, rfl⟩ := hj_ild_inv hm
  simp only [Nat.zero_add] at kk ⊢
  exact fun H locs cells slots ls hP hI hS hz hc hs hl => va_bald (D := G.1) (cl := G.2.2.1) (tys := [(G.2.1 kd, .byte)]) (ws := [(a, .inl (G.2.1 kd, n, .inl f))]) hC.1 hC.2.1 (hj_Kt hC ht) (hj_one (hP.2.1 a (.inl (kd, n, f)) ha).1) 0 0 rfl rfl hin hd (kk _ hk2 H locs cells slots ls hP hI hS hz (by omega) (by omega) hl)
theorem hj_zald (hC : hj_C p s m args meth c G cc nL ret own nm Ts) {β : Type} {b : β} {kd : Nat} {r : Option Nat} {i : Int32} {kont : Int32 → hM β} (ht : G.2.2.2.1[kd]? = some .boolean) (hd : decode cc pc = .ok (.baload, 1)) (hr : hm_bind (hm_ild kd r i) kont h = some (b, C, S, h2)) (kk : ∀ v, kont v h = some (b, C, S, h2) → hj_J p l e R s m args below meth c G h0 nL Q C S h (pc + 1) lv (vi_ v :: st)) : hj_J p l e R s m args below meth c G h0 nL Q C S h pc lv (vi_ i :: vr_ r :: st) := by
  obtain ⟨v, c1, s1, h1, c2, s2, hm, hk2, rfl, rfl⟩ := hm_bind_inv hr
  obtain ⟨a, n, f, rfl, ha, hin, rfl, rfl, rfl, rfl⟩ := hj_ild_inv hm
  simp only [Nat.zero_add] at kk ⊢
  exact fun H locs cells slots ls hP hI hS hz hc hs hl => va_zald (D := G.1) (cl := G.2.2.1) (tys := [(G.2.1 kd, .boolean)]) (ws := [(a, .inl (G.2.1 kd, n, .inl f))]) hC.1 hC.2.1 (hj_Kt hC ht) (hj_one (hP.2.1 a (.inl (kd, n, f)) ha).1) 0 0 rfl rfl hin hd (kk _ hk2 H locs cells slots ls hP hI hS hz (by omega) (by omega) hl)
theorem hj_upd (f : Nat → Int32) (j : Nat) (x : Int32) : updV (fun q => Value.int (f q)) j (.int x) = fun q => Value.int (va_up f j x q) := by
  funext q
  by_cases hq : q = j
  · subst hq; simp [updV, va_up]
  · simp [updV, va_up, hq]
theorem hj_fitU {tys : List FieldType} {kd n j : Nat} {f : Nat → Int32} {x : Int32} (hf : hc_fit tys (.inl (kd, n, f))) (hx : ∀ ty, tys[kd]? = some ty → fits ty (.int x) = true) : hc_fit tys (.inl (kd, n, va_up f j x)) := by
  intro ty ht q
  show fits ty (.int (va_up f j x q)) = true
  by_cases hq : q = j
  · subst hq; rw [va_up_self]; exact hx ty ht
  · rw [va_up_ne f x hq]; exact hf ty ht q
theorem hj_iast (hC : hj_C p s m args meth c G cc nL ret own nm Ts) {β : Type} {b : β} {kd : Nat} {r : Option Nat} {i x : Int32} {kont : Unit → hM β} (ht : G.2.2.2.1[kd]? = some .int) (hd : decode cc pc = .ok (.iastore, 1)) (hr : hm_bind (hm_ist kd r i x) kont h = some (b, C, S, h2)) (kk : ∀ h', kont () h' = some (b, C, S, h2) → hj_J p l e R s m args below meth c G h0 nL Q C S h' (pc + 1) lv st) : hj_J p l e R s m args below meth c G h0 nL Q C S h pc lv (vi_ x :: vi_ i :: vr_ r :: st) := by
  obtain ⟨⟨⟩, c1, s1, h1, c2, s2, hm, hk2, rfl, rfl⟩ := hm_bind_inv hr
  obtain ⟨a, n, f, rfl, ha, hin, rfl, rfl, rfl⟩ := hj_ist_inv hm
  have ha' : hc_has h a (.inl (kd, n, f)) := ha
  simp only [Nat.zero_add] at kk ⊢
  intro H locs cells slots ls hP hI hS hz hc hs hl
  refine W.iast hC.1 hC.2.1 (hP.2.1 a _ ha').1 ((hC.2.2.2.2.2.2.2.2.2.1 kd _ ht).1 n (fun j => .int (f j))) (fun q => by cases q) (by show ¬ (i < 0 ∨ (arrV _ _ _).slots.size ≤ _); rw [arrV_size]; exact hin) rfl rfl hd fun H1 e1 e2 e3 => ?_
  refine kk _ hk2 H1 _ cells slots ls (hP.set ha' rfl (show H1[a]? = some (vp_cell _ _) from ?_) (hj_fitU (hP.2.1 a _ ha').2 (fun ty h9 => by cases ht.symm.trans h9; rfl)) e2 e3) (hI.set ha') (hS.put e2 e3 (hI a _ ha')) hz (by omega) (by omega) hl
  rw [e1]
  exact congrArg some ((arrV_store _ _ _ _ _).trans (by rw [hj_upd]; rfl))
theorem hj_bast (hC : hj_C p s m args meth c G cc nL ret own nm Ts) {β : Type} {b : β} {kd : Nat} {r : Option Nat} {i x : Int32} {kont : Unit → hM β} (ht : G.2.2.2.1[kd]? = some .byte) (hd : decode cc pc = .ok (.bastore, 1)) (hr : hm_bind (hm_ist kd r i x.toInt8.toInt32) kont h = some (b, C, S, h2)) (kk : ∀ h', kont () h' = some (b, C, S, h2) → hj_J p l e R s m args below meth c G h0 nL Q C S h' (pc + 1) lv st) : hj_J p l e R s m args below meth c G h0 nL Q C S h pc lv (vi_ x :: vi_ i :: vr_ r :: st) := by
  obtain ⟨⟨⟩, c1, s1, h1, c2, s2, hm, hk2, rfl, rfl⟩ := hm_bind_inv hr
  obtain ⟨a, n, f, rfl, ha, hin, rfl, rfl, rfl⟩ := hj_ist_inv hm
  have ha' : hc_has h a (.inl (kd, n, f)) := ha
  simp only [Nat.zero_add] at kk ⊢
  intro H locs cells slots ls hP hI hS hz hc hs hl
  refine W.bast hC.1 hC.2.1 (hP.2.1 a _ ha').1 ((hC.2.2.2.2.2.2.2.2.2.1 kd _ ht).1 n (fun j => .int (f j))) (fun q => by cases q) (by show ¬ (i < 0 ∨ (arrV _ _ _).slots.size ≤ _); rw [arrV_size]; exact hin) rfl rfl hd fun H1 e1 e2 e3 => ?_
  refine kk _ hk2 H1 _ cells slots ls (hP.set ha' rfl (show H1[a]? = some (vp_cell _ _) from ?_) (hj_fitU (hP.2.1 a _ ha').2 (fun ty h9 => by cases ht.symm.trans h9; exact pk_fb x)) e2 e3) (hI.set ha') (hS.put e2 e3 (hI a _ ha')) hz (by omega) (by omega) hl
  rw [e1]
  exact congrArg some ((arrV_store _ _ _ _ _).trans (by rw [narrow_byte, hj_upd]; rfl))
theorem hj_fz : ∀ x : Int32, fits .boolean (.int (x &&& 1)) = true := by
  intro x
  obtain ⟨j, hj, e⟩ := pk_andE x (m := 1) 1 (by decide)
  rw [e]
  have : j = 0 ∨ j = 1 := by omega
  rcases this with rfl | rfl <;> decide
theorem hj_zast (hC : hj_C p s m args meth c G cc nL ret own nm Ts) {β : Type} {b : β} {kd : Nat} {r : Option Nat} {i x : Int32} {kont : Unit → hM β} (ht : G.2.2.2.1[kd]? = some .boolean) (hd : decode cc pc = .ok (.bastore, 1)) (hr : hm_bind (hm_ist kd r i (x &&& 1)) kont h = some (b, C, S, h2)) (kk : ∀ h', kont () h' = some (b, C, S, h2) → hj_J p l e R s m args below meth c G h0 nL Q C S h' (pc + 1) lv st) : hj_J p l e R s m args below meth c G h0 nL Q C S h pc lv (vi_ x :: vi_ i :: vr_ r :: st) := by
  obtain ⟨⟨⟩, c1, s1, h1, c2, s2, hm, hk2, rfl, rfl⟩ := hm_bind_inv hr
  obtain ⟨a, n, f, rfl, ha, hin, rfl, rfl, rfl⟩ := hj_ist_inv hm
  have ha' : hc_has h a (.inl (kd, n, f)) := ha
  simp only [Nat.zero_add] at kk ⊢
  intro H locs cells slots ls hP hI hS hz hc hs hl
  refine W.zast hC.1 hC.2.1 (hP.2.1 a _ ha').1 ((hC.2.2.2.2.2.2.2.2.2.1 kd _ ht).1 n (fun j => .int (f j))) (fun q => by cases q) (by show ¬ (i < 0 ∨ (arrV _ _ _).slots.size ≤ _); rw [arrV_size]; exact hin) rfl rfl hd fun H1 e1 e2 e3 => ?_
  refine kk _ hk2 H1 _ cells slots ls (hP.set ha' rfl (show H1[a]? = some (vp_cell _ _) from ?_) (hj_fitU (hP.2.1 a _ ha').2 (fun ty h9 => by cases ht.symm.trans h9; exact hj_fz x)) e2 e3) (hI.set ha') (hS.put e2 e3 (hI a _ ha')) hz (by omega) (by omega) hl
  rw [e1]
  exact congrArg some ((arrV_store _ _ _ _ _).trans (by rw [show narrow .boolean (.int x) = .int (x &&& 1) from rfl, hj_upd]; rfl))
theorem hj_qld_inv {kd : Nat} {r v : Option Nat} {i : Int32} {h h1 : hc_H} {c1 s1 : Nat} (hm : hm_qld kd r i h = some (v, c1, s1, h1)) : ∃ a n f, r = some a ∧ h.2.2.1 kd a = some (n, f) ∧ vp_in i n ∧ v = f i.toNatClampNeg ∧ c1 = 0 ∧ s1 = 0 ∧ h1 = h := by
  unfold hm_qld at hm
  split at hm
  · next a n f ha =>
    obtain ⟨h1, h2⟩ := hc_qar_inv ha
    split at hm
    · cases hm
    · next hin =>
      cases hm
      exact ⟨_, _, _, h1, h2, hin, rfl, rfl, rfl, rfl⟩
  · cases hm
theorem hj_aald (hC : hj_C p s m args meth c G cc nL ret own nm Ts) {β : Type} {b : β} {kd : Nat} {r : Option Nat} {i : Int32} {E : String} {kont : Option Nat → hM β} (ht : G.2.2.2.1[kd]? = some (.object E)) (hd : decode cc pc = .ok (.aaload, 1)) (hr : hm_bind (hm_qld kd r i) kont h = some (b, C, S, h2)) (kk : ∀ v, kont v h = some (b, C, S, h2) → hj_J p l e R s m args below meth c G h0 nL Q C S h (pc + 1) lv (vr_ v :: st)) : hj_J p l e R s m args below meth c G h0 nL Q C S h pc lv (vi_ i :: vr_ r :: st) := by
  obtain ⟨v, c1, s1, h1, c2, s2, hm, hk2, rfl, rfl⟩ := hm_bind_inv hr
  obtain ⟨a, n, f, rfl, ha, hin, rfl, rfl, rfl, rfl⟩ := hj_qld_inv hm
  simp only [Nat.zero_add] at kk ⊢
  exact fun H locs cells slots ls hP hI hS hz hc hs hl => va_aldq (D := G.1) (cl := G.2.2.1) (tys := [(G.2.1 kd, .object E)]) (ws := [(a, .inl (G.2.1 kd, n, .inr (.inr (.inr (.inr f)))))]) hC.1 hC.2.1 (hj_Kt hC ht) (hj_one (hP.2.1 a (.inr (.inl (kd, n, f))) ha).1) 0 0 rfl rfl hin hd (kk _ hk2 H locs cells slots ls hP hI hS hz (by omega) (by omega) hl)
theorem hj_qst_inv {kd ci : Nat} {r v : Option Nat} {i : Int32} {h h1 : hc_H} {u : Unit} {c1 s1 : Nat} (hm : hm_qst kd ci r i v h = some (u, c1, s1, h1)) : ∃ a n f b fs, r = some a ∧ h.2.2.1 kd a = some (n, f) ∧ vp_in i n ∧ v = some b ∧ h.2.2.2 ci b = some fs ∧ c1 = 0 ∧ s1 = 0 ∧ h1 = hc_up h a (.inr (.inl (kd, n, va_up f i.toNatClampNeg v))) := by
  unfold hm_qst at hm
  split at hm
  · next a n f ha =>
    obtain ⟨h1, h2⟩ := hc_qar_inv ha
    split at hm
    · cases hm
    · next hin =>
      cases hm
      have hO : hc_isO h ci v = true := by
        cases hb : hc_isO h ci v with
        | true => rfl
        | false => exact absurd (Or.inr hb) hin
      obtain ⟨b, fs, rfl, hb⟩ := hc_isO_inv hO
      exact ⟨_, _, _, b, fs, h1, h2, fun z => hin (Or.inl z), rfl, hb, rfl, rfl, rfl⟩
  · cases hm
theorem hj_aast (hC : hj_C p s m args meth c G cc nL ret own nm Ts) {β : Type} {b : β} {kd ci N : Nat} {r v : Option Nat} {i : Int32} {E : String} {T : u_T} {ty : Nat → FieldType} {kont : Unit → hM β} (ht : G.2.2.2.1[kd]? = some (.object E)) (hcl : hc_cls Ts G.2.2.1 ci E T N ty) (hd : decode cc pc = .ok (.aastore, 1)) (hr : hm_bind (hm_qst kd ci r i v) kont h = some (b, C, S, h2)) (kk : ∀ h', kont () h' = some (b, C, S, h2) → hj_J p l e R s m args below meth c G h0 nL Q C S h' (pc + 1) lv st) : hj_J p l e R s m args below meth c G h0 nL Q C S h pc lv (vr_ v :: vi_ i :: vr_ r :: st) := by
  obtain ⟨⟨⟩, c1, s1, h1, c2, s2, hm, hk2, rfl, rfl⟩ := hm_bind_inv hr
  obtain ⟨a, n, f, b', fs, rfl, ha, hin, rfl, hb', rfl, rfl, rfl⟩ := hj_qst_inv hm
  have ha' : hc_has h a (.inr (.inl (kd, n, f))) := ha
  have hb2 : hc_has h b' (.inr (.inr (ci, fs))) := hb'
  simp only [Nat.zero_add] at kk ⊢
  intro H locs cells slots ls hP hI hS hz hc hs hl
  have hK := hC.2.2.2.2.2.2.2.2
  have hlt : i.toNatClampNeg < n := Nat.not_le.mp fun q => hin (Or.inr q)
  have hi0 : ¬ i < 0 := fun q => hin (Or.inl q)
  obtain ⟨⟨r', hr', cellV, g1, g2, g3, -⟩, -⟩ := hP.2.1 b' _ hb2
  have hcls := (hK.1 ci _ hcl.1).2
  obtain ⟨kA, comp, k1, k2, k3, -⟩ := (hK.2.1 kd _ ht).2
  have hcomp : comp = G.1.1 ci := Option.some.inj (k3.symm.trans hcls.1)
  subst hcomp
  obtain ⟨kC, hkC, -⟩ := id hcls.2
  refine W.aast hC.1 hC.2.1 (hP.2.1 a _ ha').1 (fun q h => by cases h) (fun h => by cases h) k1 k2 rfl hkC ⟨hi0, by show _ < (arrV _ _ _).slots.size; rw [arrV_size]; exact hlt⟩ g1 (fun q h => by rw [g3] at h; cases h) (by rw [g2]; exact hkC) (by rw [g2]; exact va_assign hcls) rfl rfl hd fun H1 e1 e2 e3 => ?_
  refine kk _ hk2 H1 _ cells slots ls (hP.set ha' rfl (show H1[a]? = some (vp_cell _ _) from ?_) trivial e2 e3) (hI.set ha') (hS.put e2 e3 (hI a _ ha')) hz (by omega) (by omega) hl
  rw [e1]
  refine congrArg some ((arrV_store _ _ _ _ _).trans ?_)
  rw [vp_cell_q]
  congr 1
  funext q
  by_cases hq : q = i.toNatClampNeg
  · subst hq
    simp [updV, va_up, va_rf]
  · simp [updV, va_up, hq]
theorem hj_leni (hC : hj_C p s m args meth c G cc nL ret own nm Ts) {β : Type} {b : β} {r : Option Nat} {kd : Nat} {ty : FieldType} {kont : Int32 → hM β} (ht : G.2.2.2.1[kd]? = some ty) (hd : decode cc pc = .ok (.arraylength, 1)) (hr : hm_bind (hm_leni kd r) kont h = some (b, C, S, h2)) (kk : ∀ v, kont v h = some (b, C, S, h2) → hj_J p l e R s m args below meth c G h0 nL Q C S h (pc + 1) lv (vi_ v :: st)) : hj_J p l e R s m args below meth c G h0 nL Q C S h pc lv (vr_ r :: st) := by
  obtain ⟨v, c1, s1, h1, c2, s2, hm, hk2, rfl, rfl⟩ := hm_bind_inv hr
  unfold hm_leni at hm
  split at hm
  · next a n f hq =>
    obtain ⟨rfl, ha⟩ := hc_iar_inv hq
    cases hm
    simp only [Nat.zero_add] at kk ⊢
    exact fun H locs cells slots ls hP hI hS hz hc hs hl => va_alen (D := G.1) (cl := G.2.2.1) (tys := [(G.2.1 kd, ty)]) (ws := [(a, .inl (G.2.1 kd, n, .inl f))]) hC.1 hC.2.1 (hj_Kt hC ht) (hj_one (hP.2.1 a (.inl (kd, n, f)) ha).1) 0 0 rfl rfl rfl hd (kk _ hk2 H locs cells slots ls hP hI hS hz (by omega) (by omega) hl)
  · cases hm
theorem hj_lenq (hC : hj_C p s m args meth c G cc nL ret own nm Ts) {β : Type} {b : β} {r : Option Nat} {kd : Nat} {ty : FieldType} {kont : Int32 → hM β} (ht : G.2.2.2.1[kd]? = some ty) (hd : decode cc pc = .ok (.arraylength, 1)) (hr : hm_bind (hm_lenq kd r) kont h = some (b, C, S, h2)) (kk : ∀ v, kont v h = some (b, C, S, h2) → hj_J p l e R s m args below meth c G h0 nL Q C S h (pc + 1) lv (vi_ v :: st)) : hj_J p l e R s m args below meth c G h0 nL Q C S h pc lv (vr_ r :: st) := by
  obtain ⟨v, c1, s1, h1, c2, s2, hm, hk2, rfl, rfl⟩ := hm_bind_inv hr
  unfold hm_lenq at hm
  split at hm
  · next a n f hq =>
    obtain ⟨rfl, ha⟩ := hc_qar_inv hq
    cases hm
    simp only [Nat.zero_add] at kk ⊢
    exact fun H locs cells slots ls hP hI hS hz hc hs hl => va_alen (D := G.1) (cl := G.2.2.1) (tys := [(G.2.1 kd, ty)]) (ws := [(a, .inl (G.2.1 kd, n, .inr (.inr (.inr (.inr f)))))]) hC.1 hC.2.1 (hj_Kt hC ht) (hj_one (hP.2.1 a (.inr (.inl (kd, n, f))) ha).1) 0 0 rfl rfl rfl hd (kk _ hk2 H locs cells slots ls hP hI hS hz (by omega) (by omega) hl)
  · cases hm
-- new cells
theorem hj_S_push {A : Nat → Prop} {H0 H H1 : Heap} {locs : List Loc} (hS : va_S A H0 H locs) (z : H1.size = H.size + 1) (oq : ∀ q : Nat, q < H.size → H1[q]? = H[q]?) : va_S A H0 H1 locs :=
  ⟨Nat.le_trans hS.1 (by omega), fun x h1 h2 => (oq x (Nat.lt_of_lt_of_le h1 hS.1)).trans (hS.2.1 x h1 h2), hS.2.2⟩
theorem hj_new (hC : hj_C p s m args meth c G cc nL ret own nm Ts) {β : Type} {b : β} {ci N index : Nat} {Cn : String} {T : u_T} {ty : Nat → FieldType} {fs : List lc_V} {kont : Nat → hM β} (hcl : hc_cls Ts G.2.2.1 ci Cn T N ty) (hw1 : Cond.classLink own index Cn ∈ Ts) (hw2 : Cond.instantiable Cn N ∈ Ts) (hw3 : Cond.initialized Cn ∈ Ts) (hfs : ∀ j, j < N → defaultValue (ty j) = vp_V (fs.map lc_val) j) (hd : decode cc pc = .ok (.new index, 3)) (hr : hm_bind (hm_new ci N fs) kont h = some (b, C, S, h2)) (kk : ∀ q h' C' S', kont q h' = some (b, C', S', h2) → hj_J p l e R s m args below meth c G h0 nL Q C' S' h' (pc + 3) lv (vr_ (some q) :: st)) : hj_J p l e R s m args below meth c G h0 nL Q C S h pc lv st := by
  obtain ⟨r, c1, s1, h1, c2, s2, hm, hk2, rfl, rfl⟩ := hm_bind_inv hr
  unfold hm_new at hm
  cases hm
  intro H locs cells slots ls hP hI hS hz hc hs hl
  have hts := hC.2.2.2.2.2.2.2.1
  have hKn := hC.2.2.2.2.2.2.2.2.1 ci _ hcl.1
  refine W.newcK hC.1 hC.2.1 hC.2.2.2.2.2.2.1 (hts _ hw1) (hts _ hw2) (hts _ hw3) rfl hd (by omega) (by omega) hKn.2.1 hP.1 fun H1 kC hkC e1 z1 o1 => ?_
  have o2 : ∀ q : Nat, q < H.size → H1[q]? = H[q]? := fun q hq => o1 q (by rw [← hP.1]; exact hq)
  have z2 : H1.size = H.size + 1 := by rw [z1, hP.1]
  refine kk _ _ _ _ hk2 H1 locs (cells + 1) (slots + N) ls (hP.push ?_ trivial z2 o2) (hI.push (by rw [hz, ← hP.1]; exact hS.1)) (hj_S_push hS z2 o2) hz (by omega) (by omega) hl
  exact ⟨_, hcl.1, (u_born ty hts hcl.2.1 hKn hkC e1 hcl.2.2.1).to hfs⟩
theorem hj_newa (hC : hj_C p s m args meth c G cc nL ret own nm Ts) {β : Type} {b : β} {kd : Nat} {atype : ArrayType} {n : Int32} {kont : Nat → hM β} (ht : G.2.2.2.1[kd]? = some (newarray.typeOf atype)) (hdf : defaultValue (newarray.typeOf atype) = .int 0) (hcb : componentBytes (newarray.typeOf atype) ≤ 4) (hw : Cond.arrayClass (newarray.typeOf atype) ∈ Ts) (hd : decode cc pc = .ok (.newarray atype, 2)) (hr : hm_bind (hm_newi kd n) kont h = some (b, C, S, h2)) (kk : ∀ q h' C' S', kont q h' = some (b, C', S', h2) → hj_J p l e R s m args below meth c G h0 nL Q C' S' h' (pc + 2) lv (vr_ (some q) :: st)) : hj_J p l e R s m args below meth c G h0 nL Q C S h pc lv (vi_ n :: st) := by
  obtain ⟨r, c1, s1, h1, c2, s2, hm, hk2, rfl, rfl⟩ := hm_bind_inv hr
  unfold hm_newi at hm
  split at hm
  · cases hm
  · next hn =>
    cases hm
    intro H locs cells slots ls hP hI hS hz hc hs hl
    have hts := hC.2.2.2.2.2.2.2.1
    have hn0 : ¬ n < 0 := fun q => hn (Or.inl q)
    have hn1 : n.toNatClampNeg ≤ 134217728 := Nat.not_lt.mp fun q => hn (Or.inr q)
    have hK := hC.2.2.2.2.2.2.2.2.2.1 kd _ ht
    refine va_newaK hC.1 hC.2.1 (hts _ hw) rfl hd rfl hn0 rfl (Nat.le_trans (Nat.mul_le_mul hn1 hcb) (by decide)) (by omega) (by omega) hP.1 fun H1 cA e1 z1 o1 hAr hNm => ?_
    have hcA : cA = G.2.1 kd := by
      have := hK.2
      cases atype <;> exact Option.some.inj (hNm.symm.trans this)
    have o2 : ∀ q : Nat, q < H.size → H1[q]? = H[q]? := fun q hq => o1 q (by rw [← hP.1]; exact hq)
    have z2 : H1.size = H.size + 1 := by rw [z1, hP.1]
    refine kk _ _ _ _ hk2 H1 locs (cells + 1) (slots + n.toNatClampNeg) ls (hP.push ?_ ?_ z2 o2) (hI.push (by rw [hz, ← hP.1]; exact hS.1)) (hj_S_push hS z2 o2) hz (by omega) (by omega) hl
    · show H1[h.1]? = some (vp_cell _ _)
      rw [e1, hcA, hdf]
      rfl
    · intro ty h9 j
      cases ht.symm.trans h9
      cases atype <;> first | rfl | (cases hdf; done)
theorem hj_anew (hC : hj_C p s m args meth c G cc nL ret own nm Ts) {β : Type} {b : β} {kd index : Nat} {E : String} {n : Int32} {kont : Nat → hM β} (ht : G.2.2.2.1[kd]? = some (.object E)) (hw : Cond.classLink own index E ∈ Ts) (ho : E ∈ G.2.2.2.2.2) (hd : decode cc pc = .ok (.anewarray index, 3)) (hr : hm_bind (hm_newq kd n) kont h = some (b, C, S, h2)) (kk : ∀ q h' C' S', kont q h' = some (b, C', S', h2) → hj_J p l e R s m args below meth c G h0 nL Q C' S' h' (pc + 3) lv (vr_ (some q) :: st)) : hj_J p l e R s m args below meth c G h0 nL Q C S h pc lv (vi_ n :: st) := by
  obtain ⟨r, c1, s1, h1, c2, s2, hm, hk2, rfl, rfl⟩ := hm_bind_inv hr
  unfold hm_newq at hm
  split at hm
  · cases hm
  · next hn =>
    cases hm
    intro H locs cells slots ls hP hI hS hz hc hs hl
    have hts := hC.2.2.2.2.2.2.2.1
    have hn0 : ¬ n < 0 := fun q => hn (Or.inl q)
    have hn1 : n.toNatClampNeg ≤ 134217728 := Nat.not_lt.mp fun q => hn (Or.inr q)
    have hK := hC.2.2.2.2.2.2.2.2.2.1 kd _ ht
    have hO := hC.2.2.2.2.2.2.2.2.2.2.2 E ho
    refine W.anew hC.1 hC.2.1 hC.2.2.2.2.2.2.1 (hts _ hw) (va_AO.use hO) rfl hd rfl hn0 (by omega) (by omega) (by omega) fun cA kA comp f1 f2 f3 f4 => ?_
    have hcA : cA = G.2.1 kd := by
      obtain ⟨kA', comp', k1, k2, k3, k4⟩ := hK.2
      exact Option.some.inj (f1.symm.trans k4)
    generalize hH1 : H.push ({ cls := cA, slots := Array.replicate n.toNatClampNeg .null, vm := .none } : Cell) = H1
    have z2 : H1.size = H.size + 1 := by rw [← hH1, Array.size_push]
    have e1 : H1[H.size]? = some (arrV cA n.toNatClampNeg (fun _ => .null)) := by rw [← hH1, Array.getElem?_push_size, ← arrV_new]
    have o2 : ∀ q : Nat, q < H.size → H1[q]? = H[q]? := fun q hq => by rw [← hH1, Array.getElem?_push, if_neg (Nat.ne_of_lt hq)]
    have e3 : H.size = h.1 := hP.1
    rw [e3]
    refine kk _ _ _ _ hk2 H1 locs (cells + 1) (slots + n.toNatClampNeg) ls (hP.push ?_ trivial z2 o2) (hI.push (by rw [hz, ← hP.1]; exact hS.1)) (hj_S_push hS z2 o2) hz (by omega) (by omega) hl
    show H1[h.1]? = some (vp_cell _ _)
    rw [← e3, e1, hcA, vp_cell_q]
    rfl
theorem hj_nn : ∀ z : Int32, ¬ z < 0 → z.toInt = (z.toNatClampNeg : Int) := by
  intro z hz
  obtain ⟨j, hj, rfl⟩ := nI_of hz
  rw [nI_toInt hj, nI_clamp hj]
theorem hj_copy_inv {k1 k2 : Nat} {r1 r2 : Option Nat} {sp dp n : Int32} {h h1 : hc_H} {u : Unit} {c1 s1 : Nat} (hm : hm_copy k1 k2 r1 sp r2 dp n h = some (u, c1, s1, h1)) : ∃ a0 n0 f a n1 g, r1 = some a0 ∧ h.2.1 k1 a0 = some (n0, f) ∧ r2 = some a ∧ h.2.1 k2 a = some (n1, g) ∧ ¬ sp < 0 ∧ ¬ dp < 0 ∧ ¬ n < 0 ∧ sp.toNatClampNeg + n.toNatClampNeg ≤ n0 ∧ dp.toNatClampNeg + n.toNatClampNeg ≤ n1 ∧ c1 = 0 ∧ s1 = 0 ∧ h1 = hc_up h a (.inl (k2, n1, va_cpy f g sp.toNatClampNeg dp.toNatClampNeg n.toNatClampNeg)) := by
  unfold hm_copy at hm
  split at hm
  · next a0 n0 f a n1 g e1 e2 =>
    obtain ⟨q1, q2⟩ := hc_iar_inv e1
    obtain ⟨q3, q4⟩ := hc_iar_inv e2
    split at hm
    · cases hm
    · next hn =>
      cases hm
      exact ⟨_, _, _, _, _, _, q1, q2, q3, q4, fun z => hn (Or.inl (Or.inl z)), fun z => hn (Or.inl (Or.inr (Or.inl z))), fun z => hn (Or.inl (Or.inr (Or.inr z))), Nat.not_lt.mp fun z => hn (Or.inr (Or.inl z)), Nat.not_lt.mp fun z => hn (Or.inr (Or.inr z)), rfl, rfl, rfl⟩
  · cases hm
theorem hj_copy (hC : hj_C p s m args meth c G cc nL ret own nm Ts) {β : Type} {b : β} {k1 k2 index : Nat} {ty : FieldType} {r1 r2 : Option Nat} {sp dp n : Int32} {kont : Unit → hM β} (ht1 : G.2.2.2.1[k1]? = some ty) (ht2 : G.2.2.2.1[k2]? = some ty) (hprim : refKind ty = false) (hw1 : Cond.methodLink own index arraycopyName ∈ Ts) (hw2 : Cond.native arraycopyName ∈ Ts) (hw3 : Cond.static arraycopyName ∈ Ts) (hw4 : Cond.initialized "java/lang/System" ∈ Ts) (hf : 1 ≤ R.frames) (hlo : lc_w st + (nativeFrameWords "java/lang/System" "arraycopy" 5 + 11) ≤ R.locals) (hd : decode cc pc = .ok (.invokestatic index, 3)) (hr : hm_bind (hm_copy k1 k2 r1 sp r2 dp n) kont h = some (b, C, S, h2)) (kk : ∀ h', kont () h' = some (b, C, S, h2) → hj_J p l e R s m args below meth c G h0 nL Q C S h' (pc + 3) lv st) : hj_J p l e R s m args below meth c G h0 nL Q C S h pc lv (vi_ n :: vi_ dp :: vr_ r2 :: vi_ sp :: vr_ r1 :: st) := by
  obtain ⟨⟨⟩, c1, s1, h1, c2, s2, hm, hk2, rfl, rfl⟩ := hm_bind_inv hr
  obtain ⟨a0, n0, f, a, n1, g, rfl, ha0, rfl, ha, h1, h3, h4, h5, h6, rfl, rfl, rfl⟩ := hj_copy_inv hm
  simp only [Nat.zero_add] at kk ⊢
  intro H locs cells slots ls hP hI hS hz hc hs hl
  have hts := hC.2.2.2.2.2.2.2.1
  have hK1 := (hC.2.2.2.2.2.2.2.2.2.1 k1 _ ht1).1
  have hK2 := (hC.2.2.2.2.2.2.2.2.2.1 k2 _ ht2).1
  have ha0' : hc_has h a0 (.inl (k1, n0, f)) := ha0
  have ha' : hc_has h a (.inl (k2, n1, g)) := ha
  intro T hT X
  have hc0 : H[a0]? = some (vp_cell (G.2.1 k1) (n0, .inl f)) := (hP.2.1 a0 _ ha0').1
  have hc1 : H[a]? = some (vp_cell (G.2.1 k2) (n1, .inl g)) := (hP.2.1 a _ ha').1
  obtain ⟨-, kc0, hk0, cm0, hkk0⟩ := hK1 n0 (fun j => .int (f j))
  obtain ⟨-, kc1, hk1, cm1, hkk1⟩ := hK2 n1 (fun j => .int (g j))
  obtain ⟨vm', X', step⟩ := X.arraycopy hC.1 hC.2.2.2.2.2.2.1 (hts _ hw1) (hts _ hw2) (hts _ hw3) (hts _ hw4) (src := a0) (dst := a) (cs := vp_cell (G.2.1 k1) (n0, .inl f)) (cd := vp_cell (G.2.1 k2) (n1, .inl g)) (srcPos := sp) (destPos := dp) (n := n) (by rw [hT]; exact hc0) (by rw [hT]; exact hc1)
    (fun _ h => by cases h) (fun _ h => by cases h) (fun h => by cases h) (fun h => by cases h) hk0 hk1 hkk0 hkk1 (by simp [hprim]) h1 h3 h4
    (by rw [hj_nn sp h1, hj_nn n h4]; show ¬ _ > ((arrV _ n0 (fun j => .int (f j))).slots.size : Int); rw [arrV_size]; omega)
    (by rw [hj_nn dp h3, hj_nn n h4]; show ¬ _ > ((arrV _ n1 (fun j => .int (g j))).slots.size : Int); rw [arrV_size]; omega)
    (fun vm₁ _ i hi => by
      have e : (vp_cell (G.2.1 k1) (n0, .inl f)).slots.getD (sp.toNatClampNeg + i) .null = .int (f (sp.toNatClampNeg + i)) := by
        show (arrV _ n0 (fun j => .int (f j))).slots.getD _ _ = _
        rw [Array.getD_eq_getD_getElem?, arrV_read _ _ (by omega)]
        rfl
      rw [e]
      exact ⟨(hP.2.1 a0 _ ha0').2 ty ht1 _, trivial⟩)
    (g := F0 m pc ls ((vi_ n :: vi_ dp :: vr_ (some a) :: vi_ sp :: vr_ (some a0) :: st).map lc_val)) rfl (by rw [hC.2.2.1]; exact hl.1) (rest := st.map lc_val) rfl (by rw [hC.2.1]; exact hd) hf (by rw [lc_w_eq]; show 2 * 0 + _ + _ ≤ _; omega)
  have e1 : copied (vp_cell (G.2.1 k1) (n0, .inl f)) (vp_cell (G.2.1 k2) (n1, .inl g)) sp dp n = vp_cell (G.2.1 k2) (n1, .inl (va_cpy f g sp.toNatClampNeg dp.toNatClampNeg n.toNatClampNeg)) := va_copied (fun z => .int z) _ _ f g h5
  rw [e1] at X' step
  generalize hcell : vp_cell (G.2.1 k2) (n1, .inl (va_cpy f g sp.toNatClampNeg dp.toNatClampNeg n.toNatClampNeg)) = cell at X' step
  have hlt : a < H.size := (Array.getElem?_eq_some_iff.mp hc1).1
  have hheap : ((T.setVm vm').setCell a cell).heap = H.setIfInBounds a cell := by rw [← hT]; rfl
  have oq : ∀ q : Nat, q ≠ a → (H.setIfInBounds a cell)[q]? = H[q]? := fun q hq => by simp [Array.getElem?_setIfInBounds, Ne.symm hq]
  have zq : (H.setIfInBounds a cell).size = H.size := by simp
  have aq : (H.setIfInBounds a cell)[a]? = some cell := by simp [Array.getElem?_setIfInBounds, hlt]
  have hA := hI a _ ha'
  obtain ⟨t, a1, b1⟩ := kk _ hk2 _ _ cells slots ls (hP.set (e := .inl (k2, n1, va_cpy f g sp.toNatClampNeg dp.toNatClampNeg n.toNatClampNeg)) ha' rfl (show (H.setIfInBounds a cell)[a]? = some (vp_cell _ _) by rw [hcell]; exact aq) (fun ty' h9 j => by
      show fits ty' (.int (va_cpy f g _ _ _ j)) = true
      unfold va_cpy
      have h8 : ty' = ty := Option.some.inj (h9.symm.trans ht2)
      subst h8
      split
      · exact (hP.2.1 a0 _ ha0').2 ty' ht1 _
      · exact (hP.2.1 a _ ha').2 ty' ht2 _) zq oq) (hI.set ha') ⟨by rw [zq]; exact hS.1, fun q g1 g2 => by
      rw [oq q (fun e => g2 (by rw [e]; exact hA))]
      exact hS.2.1 q g1 g2, fun q hq => by
      rcases List.mem_append.mp hq with h | h
      · exact hS.2.2 q h
      · obtain ⟨z, -, hz⟩ := List.mem_map.mp h
        rw [← hz]
        exact hA⟩ hz (by omega) (by omega) hl _ hheap X'
  exact ⟨t, step t a1, b1⟩
-- Object(), Math
theorem hj_objInit (hC : hj_C p s m args meth c G cc nL ret own nm Ts) {idx : Nat} {a : Nat} (hw1 : Cond.methodLink own idx objectInit ∈ Ts) (hw2 : Cond.instanceMethod objectInit ∈ Ts) (hw3 : Cond.code objectInit ⟨#[0xb1]⟩ 1 none ∈ Ts) (hf : 1 ≤ R.frames) (hlo : lc_w st + 12 ≤ R.locals) (hd : decode cc pc = .ok (.invokespecial idx, 3)) (kk : hj_J p l e R s m args below meth c G h0 nL Q C S h (pc + 3) lv st) : hj_J p l e R s m args below meth c G h0 nL Q C S h pc lv (vr_ (some a) :: st) :=
  fun H locs cells slots ls hP hI hS hz hc hs hl => W.objInit hC.1 hC.2.1 hC.2.2.2.2.2.2.1 (hC.2.2.2.2.2.2.2.1 _ hw1) (hC.2.2.2.2.2.2.2.1 _ hw2) (hC.2.2.2.2.2.2.2.1 _ hw3) rfl (by rw [hC.2.2.1]; exact hl.1) rfl hd hf (by rw [lc_w_eq]; show 2 * 0 + _ + _ ≤ _; omega) (kk H locs cells slots ls hP hI hS hz hc hs hl)
theorem hj_mmax (hC : hj_C p s m args meth c G cc nL ret own nm Ts) {index : Nat} {x y : Int32} (hw1 : Cond.methodLink own index Lib.Math.max.name ∈ Ts) (hw2 : Cond.static Lib.Math.max.name ∈ Ts) (hw3 : Cond.initialized "java/lang/Math" ∈ Ts) (hw4 : Cond.code Lib.Math.max.name Lib.Math.max.code 2 (some .int) ∈ Ts) (hf : 1 ≤ R.frames) (hlo : lc_w st + 13 ≤ R.locals) (hd : decode cc pc = .ok (.invokestatic index, 3)) (kk : hj_J p l e R s m args below meth c G h0 nL Q C S h (pc + 3) lv (vi_ (if x < y then y else x) :: st)) : hj_J p l e R s m args below meth c G h0 nL Q C S h pc lv (vi_ y :: vi_ x :: st) :=
  fun H locs cells slots ls hP hI hS hz hc hs hl => va_mmax hC.1 hC.2.1 (by rw [hC.2.2.1]; exact hl.1.symm) hC.2.2.2.2.2.2.1 (hC.2.2.2.2.2.2.2.1 _ hw1) (hC.2.2.2.2.2.2.2.1 _ hw2) (hC.2.2.2.2.2.2.2.1 _ hw3) (hC.2.2.2.2.2.2.2.1 _ hw4) hf (by rw [lc_w_eq]; exact hlo) (by omega) (by omega) hd (kk H locs cells slots ls hP hI hS hz hc hs hl)
theorem hj_mmin (hC : hj_C p s m args meth c G cc nL ret own nm Ts) {index : Nat} {x y : Int32} (hw1 : Cond.methodLink own index Lib.Math.min.name ∈ Ts) (hw2 : Cond.static Lib.Math.min.name ∈ Ts) (hw3 : Cond.initialized "java/lang/Math" ∈ Ts) (hw4 : Cond.code Lib.Math.min.name Lib.Math.min.code 2 (some .int) ∈ Ts) (hf : 1 ≤ R.frames) (hlo : lc_w st + 13 ≤ R.locals) (hd : decode cc pc = .ok (.invokestatic index, 3)) (kk : hj_J p l e R s m args below meth c G h0 nL Q C S h (pc + 3) lv (vi_ (if y < x then y else x) :: st)) : hj_J p l e R s m args below meth c G h0 nL Q C S h pc lv (vi_ y :: vi_ x :: st) :=
  fun H locs cells slots ls hP hI hS hz hc hs hl => va_mmin hC.1 hC.2.1 (by rw [hC.2.2.1]; exact hl.1.symm) hC.2.2.2.2.2.2.1 (hC.2.2.2.2.2.2.2.1 _ hw1) (hC.2.2.2.2.2.2.2.1 _ hw2) (hC.2.2.2.2.2.2.2.1 _ hw3) (hC.2.2.2.2.2.2.2.1 _ hw4) hf (by rw [lc_w_eq]; exact hlo) (by omega) (by omega) hd (kk H locs cells slots ls hP hI hS hz hc hs hl)
-- ends
def hc_Q (G : hc_G) (h0 : hc_H) (v : Option lc_V) (h2 : hc_H) : Array Value → State → Outcome → State → Prop := fun _ st oc t => oc = .returned (v.map lc_val) ∧ hc_P G h2 t.heap ∧ hc_in h0 h2 ∧ va_F (hc_A h0) st t
def hj_Q (below : List Frame) (args : Array Value) (s : State) (R : Room) (G : hc_G) (h0 : hc_H) (v : Option lc_V) (h2 : hc_H) : State → Prop := MQ below (hc_Q G h0 v h2) args s R.cells R.slots (hc_A h0)
theorem hj_iret (hC : hj_C p s m args meth c G cc nL (some .int) own nm Ts) {b v : Int32} (hd : decode cc pc = .ok (.ireturn, 1)) (hr : hm_ret v h = some (b, C, S, h2)) : hj_J p l e R s m args below meth c G h0 nL (hj_Q below args s R G h0 (some (vi_ b)) h2) C S h pc lv [vi_ v] := by
  unfold hm_ret at hr
  cases hr
  intro H locs cells slots ls hP hI hS hz hc hs hl
  refine W.widen (k := R.cells) (n := R.slots) (by omega) (by omega) ?_
  exact W.iret hC.1 hC.2.1 hC.2.2.2.1 (fun t ht hW => ⟨rfl, by rw [ht]; exact hP, hI, hS.F ht⟩) hS.2.2 hd (hlocks := hC.2.2.2.2.1)
theorem hj_zret (hC : hj_C p s m args meth c G cc nL (some .boolean) own nm Ts) {b v : Int32} (hd : decode cc pc = .ok (.ireturn, 1)) (hr : hm_z v h = some (b, C, S, h2)) : hj_J p l e R s m args below meth c G h0 nL (hj_Q below args s R G h0 (some (vi_ b)) h2) C S h pc lv [vi_ v] := by
  unfold hm_z at hr
  by_cases hv : v = 0 ∨ v = 1
  · rw [if_pos hv] at hr
    unfold hm_ret at hr
    cases hr
    intro H locs cells slots ls hP hI hS hz hc hs hl
    refine W.widen (k := R.cells) (n := R.slots) (by omega) (by omega) ?_
    exact W.zret hC.1 hC.2.1 hC.2.2.2.1 (by rcases hv with rfl | rfl <;> decide) (fun t ht hW => ⟨rfl, by rw [ht]; exact hP, hI, hS.F ht⟩) hS.2.2 hd (hlocks := hC.2.2.2.2.1)
  · rw [if_neg hv] at hr
    cases hr
theorem hj_vret (hC : hj_C p s m args meth c G cc nL none own nm Ts) {b : Unit} (hd : decode cc pc = .ok (.return_, 1)) (hr : hm_ret () h = some (b, C, S, h2)) : hj_J p l e R s m args below meth c G h0 nL (hj_Q below args s R G h0 none h2) C S h pc lv [] := by
  unfold hm_ret at hr
  cases hr
  intro H locs cells slots ls hP hI hS hz hc hs hl
  refine W.widen (k := R.cells) (n := R.slots) (by omega) (by omega) ?_
  exact W.vret hC.1 hC.2.1 hC.2.2.2.1 (fun t ht hW => ⟨rfl, by rw [ht]; exact hP, hI, hS.F ht⟩) hS.2.2 hd (hlocks := hC.2.2.2.2.1)
theorem hj_aret {rt : FieldType} (hC : hj_C p s m args meth c G cc nL (some rt) own nm Ts) {b v : Option Nat} (hrt : (∃ n, rt = .object n) ∨ ∃ t, rt = .array t) (hd : decode cc pc = .ok (.areturn, 1)) (hr : hm_ret v h = some (b, C, S, h2)) : hj_J p l e R s m args below meth c G h0 nL (hj_Q below args s R G h0 (some (vr_ b)) h2) C S h pc lv [vr_ v] := by
  unfold hm_ret at hr
  cases hr
  intro H locs cells slots ls hP hI hS hz hc hs hl
  refine W.widen (k := R.cells) (n := R.slots) (by omega) (by omega) ?_
  exact W.aret hC.1 hC.2.1 hC.2.2.2.1 hrt (by cases b; exact Or.inl rfl; exact Or.inr ⟨_, rfl⟩) (fun t ht hW => ⟨rfl, by rw [ht]; exact hP, hI, hS.F ht⟩) hS.2.2 hd (hlocks := hC.2.2.2.2.1)
end HJ
/-- a method's CONTRACT: over the heap h it answers v, the heap is h2 then, C cells and S slots came -/
def hc_Met (l : Launch) (G : hc_G) (y : MethodName) (cc : ByteArray) (nL : Nat) (ret : Option FieldType) (Ts : List Cond) (fr lo : Nat) (As : List lc_V) (h : hc_H) (C S : Nat) (v : Option lc_V) (h2 : hc_H) : Prop :=
  Met l y (.code y cc nL ret :: Ts) { frames := fr, cells := C, slots := S, locals := lo } (va_Pc (As.map lc_val) (fun U => hc_P G h U.heap ∧ hc_K G U)) (hc_Q G h v h2) C S (hc_A h)
def lc_args : Nat → List lc_V → List (Nat × lc_V)
  | _, [] => []
  | i, v :: vs => (i, v) :: lc_args (if lc_two v = true then i + 2 else i + 1) vs
theorem lc_args_eq : ∀ (i : Nat) (vs : List lc_V), lv_args i (vs.map lc_val) = (lc_args i vs).map fun q => (q.1, lc_val q.2)
  | _, [] => rfl
  | i, v :: vs => by
    show (i, lc_val v) :: lv_args (if (lc_val v).category = 2 then i + 2 else i + 1) (vs.map lc_val) = (i, lc_val v) :: (lc_args (if lc_two v = true then i + 2 else i + 1) vs).map _
    rw [← lc_args_eq]
    congr 2
    rw [lc_cat]
    cases lc_two v <;> rfl
theorem lc_sl_len (vs : List lc_V) : (lg_sl (vs.map lc_val)).length = (vs.map fun v => if lc_two v = true then 2 else 1).sum := by
  induction vs with
  | nil => rfl
  | cons v vs ih =>
    show (lg_sl (lc_val v :: vs.map lc_val)).length = _
    have : lg_sl (lc_val v :: vs.map lc_val) = (if (lc_val v).category = 2 then [.val (lc_val v), .second] else [.val (lc_val v)]) ++ lg_sl (vs.map lc_val) := rfl
    rw [this, List.length_append, ih, lc_cat, List.map_cons, List.sum_cons]
    cases lc_two v <;> rfl
theorem hc_Met.of {l : Launch} {G : hc_G} {y : MethodName} {cc : ByteArray} {nL : Nat} {ret : Option FieldType} {Ts : List Cond} {fr lo : Nat} {As : List lc_V} {h : hc_H} {C S : Nat} {v : Option lc_V} {h2 : hc_H} (hy : plainName y.cls = true) (hn : (As.map fun v => if lc_two v = true then 2 else 1).sum ≤ nL)
    (body : ∀ p e s m args below meth c, hj_C p s m args meth c G cc nL ret y.cls y.name Ts → hj_J p l e { frames := fr, cells := C, slots := S, locals := lo } s m args below meth c G h nL (hj_Q below args s { frames := fr, cells := C, slots := S, locals := lo } G h v h2) C S h 0 (lc_args 0 As) []) : hc_Met l G y cc nL ret Ts fr lo As h C S v h2 := by
  refine Met.ofW (cc := cc) (maxL := nL) (ret := ret) hy rfl ?_
  intro p e s m args below meth c s₁ B hml hv
  obtain ⟨rfl, hP, hK⟩ := hv
  have hts := atoms_spec (ws := .code y cc nL ret :: Ts) B.pre
  have hl := lv_entry (As.map lc_val) (n := nL) (by rw [lc_sl_len]; exact hn)
  rw [lg_entry_eq]
  generalize (lg_sl (As.map lc_val) ++ List.replicate (nL - (lg_sl (As.map lc_val)).length) Slot.unset).toArray = ls at hl ⊢
  rw [lc_args_eq] at hl
  exact body p e s m _ below meth c ⟨B.exec, B.bytes, hml, B.returns, B.notSynchronized, (name_of_methodNamed B.named B.method).1, findClass_of_methodNamed B.named, fun w hw => hts w (List.mem_cons_of_mem _ hw), hK⟩ s.heap [] 0 0 ls hP (fun a e ha => Or.inl ⟨e, ha⟩) va_S.rf hP.1.symm (by show 0 + C ≤ C; omega) (by show 0 + S ≤ S; omega) hl
section HJC
variable {p : Program} {l : Launch} {e : Env} {R : Room} {s : State} {m : MethodId} {args : Array Value} {below : List Frame} {meth : Method} {c : Code} {G : hc_G} {h0 h h1 h2 : hc_H} {nL : Nat} {Q : State → Prop} {C S pc : Nat} {lv lv' : List (Nat × lc_V)} {st stk : List lc_V}
variable {cc : ByteArray} {ret : Option FieldType} {own nm : String} {Ts : List Cond}
variable {y : MethodName} {c1 : ByteArray} {n1 fr lo C1 S1 n index : Nat} {ret1 : Option FieldType} {As : List lc_V} {v : Option lc_V}
theorem hj_blind : FrameBlind (va_Pc (As.map lc_val) (fun U => hc_P G h U.heap ∧ hc_K G U)) := fun _ U _ _ q => ⟨q.1, q.2.1, hc_K.warm (State.WarmedH.refl U) q.2.2⟩
theorem hj_after {a : Array Value} {H : Heap} {locs : List Loc} {cells slots : Nat} {ls : Array Slot} {st0 : List Value} (hr : va_Run p l e R s m args below meth c H locs cells slots C1 S1 (F0 m pc ls st0) (st.map lc_val) (hc_Q G h v h1 a) (hc_A h)) (hP : hc_P G h H) (hI : hc_in h0 h) (hS : va_S (hc_A h0) s.heap H locs) (hz : h0.1 = s.heap.size) (hc : cells + (C1 + C) ≤ R.cells) (hs : slots + (S1 + S) ≤ R.slots) (hl : lv_has ls nL (lv.map fun q => (q.1, lc_val q.2)))
    (kk : hj_J p l e R s m args below meth c G h0 nL Q C S h1 (pc + 3) lv (v.toList ++ st)) : W p l e R s m args below meth c H locs cells slots Q (F0 m pc ls st0) := by
  intro T hT X
  obtain ⟨v', st₀, t, T', L, hst0, X', hL, e1, e2, ⟨hv, hP1, hin1, hz1, hk1⟩, go⟩ := hr T hT X
  cases hv
  rw [hst0] at hz1 hk1
  have hA : ∀ q, hc_A h q → hc_A h0 q := by
    intro q hq
    rcases hq with ⟨e, he⟩ | hq
    · exact hI q e he
    · exact Or.inr (by rw [hz]; exact Nat.le_trans hS.1 (by rw [hP.1]; exact hq))
  obtain ⟨t2, a1, b1⟩ := kk T'.heap (locs ++ L) (cells + C1) (slots + S1) ls (by rw [e1]; exact hP1) (fun a e ha => hA a (hin1 a e ha)) ⟨Nat.le_trans hS.1 (by rw [e1]; exact hz1), fun q g1 g2 => by
      rw [e1, hk1 q (Nat.lt_of_lt_of_le g1 hS.1) (fun z => g2 (hA q z))]
      exact hS.2.1 q g1 g2, fun q hq => by
      rcases List.mem_append.mp hq with h | h
      · exact hS.2.2 q h
      · exact hA _ (hL q h)⟩ hz (by omega) (by omega) hl T' rfl X'
  refine ⟨t2, go t2 ?_, b1⟩
  have e3 : (v.map lc_val).toList ++ st.map lc_val = (v.toList ++ st).map lc_val := by cases v <;> rfl
  rw [e3]
  exact a1
/-- a call of an object's own method -/
theorem hj_callV (hC : hj_C p s m args meth c G cc nL ret own nm Ts) (hG : GoodIn Ts Ts) {β α : Type} {b : β} {enc : α → Option lc_V} {pf : hM α} {kont : α → hM β} {ci N : Nat} {T : u_T} {ty : Nat → FieldType} {r : Option Nat}
    (hM : ∀ h a C S h1, pf h = some (a, C, S, h1) → hc_Met l G y c1 n1 ret1 Ts fr lo (vr_ r :: As) h C S (enc a) h1) (hcl : hc_cls Ts G.2.2.1 ci y.cls T N ty)
    (hw1 : Cond.methodLink own index y ∈ Ts) (hw2 : Cond.instanceMethod y ∈ Ts) (hw3 : Cond.selects y.cls y y ∈ Ts) (hw4 : Cond.initialized y.cls ∈ Ts) (hw5 : Cond.code y c1 n1 ret1 ∈ Ts)
    (hy : y.cls ≠ "java/lang/invoke/MethodHandle" ∧ y.cls ≠ "java/lang/invoke/VarHandle" ∧ (parseMethodDescriptor y.desc).map (fun d => d.parameters.length) = some n) (hn : As.length = n) (hR : fr + 1 ≤ R.frames ∧ 8 + (n1 + 11) + lo ≤ R.locals) (hst : stk = As.reverse ++ vr_ r :: st) (hW : lc_w st ≤ 8) (hd : decode cc pc = .ok (.invokevirtual index, 3))
    (hr : hm_bind (hm_on ci r pf) kont h = some (b, C, S, h2)) (kk : ∀ a h' C' S', kont a h' = some (b, C', S', h2) → hj_J p l e R s m args below meth c G h0 nL Q C' S' h' (pc + 3) lv ((enc a).toList ++ st)) : hj_J p l e R s m args below meth c G h0 nL Q C S h pc lv stk := by
  obtain ⟨a, c2, s2, h1, c3, s3, hm, hk2, rfl, rfl⟩ := hm_bind_inv hr
  unfold hm_on at hm
  by_cases ho : hc_isO h ci r = true
  · rw [if_pos ho] at hm
    obtain ⟨q, fs, rfl, hq⟩ := hc_isO_inv ho
    intro H locs cells slots ls hP hI hS hz hc hs hl
    have hts := hC.2.2.2.2.2.2.2.1
    have hmet := hM h a c2 s2 h1 hm
    have cw : CallW R s args own y.cls index y c1 n1 ret1 (.code y c1 n1 ret1 :: Ts) { frames := fr, cells := c2, slots := s2, locals := lo } c2 s2 n := cwV n hts (fun w hw => hG w (by
        rcases List.mem_append.mp hw with hw | hw
        · simp only [List.mem_cons, List.not_mem_nil, or_false] at hw
          rcases hw with rfl | rfl | rfl | rfl <;> assumption
        · rcases List.mem_cons.mp hw with rfl | hw
          · exact hw5
          · exact hw)) rfl rfl rfl ⟨rfl, hy⟩ hR
    have hrv := hj_K hC
    have hq' : hc_has h q (.inr (.inr (ci, fs))) := hq
    obtain ⟨⟨r', hr', cell, g1, g2, g3, -⟩, -⟩ := hP.2.1 q _ hq'
    have hcell : ∃ cellB : Cell, H[q]? = some cellB ∧ cellB.vm.isStatics = false ∧ s.vm.findClass y.cls = some cellB.cls := ⟨cell, g1, by rw [g3]; rfl, by rw [g2]; exact (hrv.1 ci _ hcl.1).2.1⟩
    have run := va_runV (p := p) (e := e) (below := below) (meth := meth) (H := H) (locs := locs) (cells := cells) (slots := slots) (As := As.map lc_val) (rest := st.map lc_val) (b := q) (g := F0 m pc ls (stk.map lc_val)) ⟨hC.1, hC.2.1, hC.2.2.1, hC.2.2.2.2.2.2.1, hts⟩ hmet cw ⟨hj_blind, hcell, fun U hU hW => ⟨rfl, by rw [hU]; exact hP, hc_K.warm hW hC.2.2.2.2.2.2.2.2⟩⟩ rfl (by rw [List.length_map]; exact hn) hl.1 (by rw [hst]; simp only [List.map_append, List.map_cons, List.map_reverse]; rfl) (lv_room (by rw [lc_w_eq]; exact hW)) hd ⟨by omega, by omega⟩
    exact hj_after run hP hI hS hz hc hs hl (kk a h1 c3 s3 hk2)
  · rw [if_neg ho] at hm
    cases hm
/-- a constructor's call -/
theorem hj_callI (hC : hj_C p s m args meth c G cc nL ret own nm Ts) (hG : GoodIn Ts Ts) {β α : Type} {b : β} {pf : hM α} {kont : α → hM β} {q : Nat}
    (hM : ∀ h a C S h1, pf h = some (a, C, S, h1) → hc_Met l G y c1 n1 none Ts fr lo (vr_ (some q) :: As) h C S none h1)
    (hw1 : Cond.methodLink own index y ∈ Ts ∨ ∃ host, (own, index, y, host) ∈ G.2.2.2.2.1) (hw2 : Cond.instanceMethod y ∈ Ts) (hw4 : Cond.initialized y.cls ∈ Ts) (hw5 : Cond.code y c1 n1 none ∈ Ts) (hy1 : y.name = "<init>")
    (hy : y.cls ≠ "java/lang/invoke/MethodHandle" ∧ y.cls ≠ "java/lang/invoke/VarHandle" ∧ (parseMethodDescriptor y.desc).map (fun d => d.parameters.length) = some n) (hn : As.length = n) (hR : fr + 1 ≤ R.frames ∧ 8 + (n1 + 11) + lo ≤ R.locals) (hst : stk = As.reverse ++ vr_ (some q) :: st) (hW : lc_w st ≤ 8) (hd : decode cc pc = .ok (.invokespecial index, 3))
    (hr : hm_bind pf kont h = some (b, C, S, h2)) (kk : ∀ a h' C' S', kont a h' = some (b, C', S', h2) → hj_J p l e R s m args below meth c G h0 nL Q C' S' h' (pc + 3) lv st) : hj_J p l e R s m args below meth c G h0 nL Q C S h pc lv stk := by
  obtain ⟨a, c2, s2, h1, c3, s3, hm, hk2, rfl, rfl⟩ := hm_bind_inv hr
  intro H locs cells slots ls hP hI hS hz hc hs hl
  have hts := hC.2.2.2.2.2.2.2.1
  have hmet := hM h a c2 s2 h1 hm
  have hgood : GoodIn Ts (.code y c1 n1 none :: Ts) := fun w hw => hG w (by
    rcases List.mem_cons.mp hw with rfl | hw
    · exact hw5
    · exact hw)
  have hpre : PreS s H (va_Pc ((vr_ (some q) :: As).map lc_val) (fun U => hc_P G h U.heap ∧ hc_K G U)) (.ref q :: As.map lc_val) := ⟨hj_blind, fun U hU hW => ⟨rfl, by rw [hU]; exact hP, hc_K.warm hW hC.2.2.2.2.2.2.2.2⟩⟩
  have hstk : (stk.map lc_val) = (As.map lc_val).reverse ++ .ref q :: st.map lc_val := by rw [hst]; simp only [List.map_append, List.map_cons, List.map_reverse]; rfl
  rcases hw1 with hw1 | ⟨host, hw1⟩
  · have run := va_runI (p := p) (e := e) (below := below) (meth := meth) (H := H) (locs := locs) (cells := cells) (slots := slots) (As := As.map lc_val) (rest := st.map lc_val) (b := q) (g := F0 m pc ls (stk.map lc_val)) ⟨hC.1, hC.2.1, hC.2.2.1, hC.2.2.2.2.2.2.1, hts⟩ hmet (cwI n hts hgood rfl rfl rfl (hts _ hw4) (hts _ hw1) (hts _ hw2) hy1 hy hR) hpre rfl (by rw [List.length_map]; exact hn) hl.1 hstk (lv_room (by rw [lc_w_eq]; exact hW)) hd ⟨by omega, by omega⟩
    exact hj_after (v := none) run hP hI hS hz hc hs hl (kk a h1 c3 s3 hk2)
  · have run := va_runIN (p := p) (e := e) (below := below) (meth := meth) (H := H) (locs := locs) (cells := cells) (slots := slots) (As := As.map lc_val) (rest := st.map lc_val) (b := q) (g := F0 m pc ls (stk.map lc_val)) ⟨hC.1, hC.2.1, hC.2.2.1, hC.2.2.2.2.2.2.1, hts⟩ hmet ⟨va_cnB n hts hgood rfl rfl rfl (hC.2.2.2.2.2.2.2.2.2.2.1 _ hw1) (hts _ hw4) hy hR, hy1, hts _ hw2⟩ hpre rfl (by rw [List.length_map]; exact hn) hl.1 hstk (lv_room (by rw [lc_w_eq]; exact hW)) hd ⟨by omega, by omega⟩
    exact hj_after (v := none) run hP hI hS hz hc hs hl (kk a h1 c3 s3 hk2)
/-- a call of a static method -/
theorem hj_callS (hC : hj_C p s m args meth c G cc nL ret own nm Ts) (hG : GoodIn Ts Ts) {β α : Type} {b : β} {enc : α → Option lc_V} {pf : hM α} {kont : α → hM β}
    (hM : ∀ h a C S h1, pf h = some (a, C, S, h1) → hc_Met l G y c1 n1 ret1 Ts fr lo As h C S (enc a) h1)
    (hw1 : Cond.methodLink own index y ∈ Ts) (hw2 : Cond.static y ∈ Ts) (hw4 : Cond.initialized y.cls ∈ Ts) (hw5 : Cond.code y c1 n1 ret1 ∈ Ts)
    (hy : y.cls ≠ "java/lang/invoke/MethodHandle" ∧ y.cls ≠ "java/lang/invoke/VarHandle" ∧ (parseMethodDescriptor y.desc).map (fun d => d.parameters.length) = some n) (hn : As.length = n) (hR : fr + 1 ≤ R.frames ∧ 8 + (n1 + 11) + lo ≤ R.locals) (hst : stk = As.reverse ++ st) (hW : lc_w st ≤ 8) (hd : decode cc pc = .ok (.invokestatic index, 3))
    (hr : hm_bind pf kont h = some (b, C, S, h2)) (kk : ∀ a h' C' S', kont a h' = some (b, C', S', h2) → hj_J p l e R s m args below meth c G h0 nL Q C' S' h' (pc + 3) lv ((enc a).toList ++ st)) : hj_J p l e R s m args below meth c G h0 nL Q C S h pc lv stk := by
  obtain ⟨a, c2, s2, h1, c3, s3, hm, hk2, rfl, rfl⟩ := hm_bind_inv hr
  intro H locs cells slots ls hP hI hS hz hc hs hl
  have hts := hC.2.2.2.2.2.2.2.1
  have hmet := hM h a c2 s2 h1 hm
  have hgood : GoodIn Ts (va_wsS own index y (.code y c1 n1 ret1 :: Ts)) := fun w hw => hG w (by
        rcases List.mem_append.mp hw with hw | hw
        · simp only [List.mem_cons, List.not_mem_nil, or_false] at hw
          rcases hw with rfl | rfl | rfl <;> assumption
        · rcases List.mem_cons.mp hw with rfl | hw
          · exact hw5
          · exact hw)
  have run := va_runS (p := p) (e := e) (below := below) (meth := meth) (H := H) (locs := locs) (cells := cells) (slots := slots) (As := As.map lc_val) (rest := st.map lc_val) (g := F0 m pc ls (stk.map lc_val)) ⟨hC.1, hC.2.1, hC.2.2.1, hC.2.2.2.2.2.2.1, hts⟩ hmet (va_cwS n hts hgood rfl rfl rfl hy hR) ⟨hj_blind, fun U hU hW => ⟨rfl, by rw [hU]; exact hP, hc_K.warm hW hC.2.2.2.2.2.2.2.2⟩⟩ rfl (by rw [List.length_map]; exact hn) hl.1 (by rw [hst]; simp only [List.map_append, List.map_reverse]) (lv_room (by rw [lc_w_eq]; exact hW)) hd ⟨by omega, by omega⟩
  exact hj_after run hP hI hS hz hc hs hl (kk a h1 c3 s3 hk2)
end HJC
