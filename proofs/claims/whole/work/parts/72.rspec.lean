/-! READING: the specification, and one judgement for class and reference. A reader stands at a place p; it comes to a fault and its place, or to data and the place behind them. -/
abbrev rs_ (δ : Type) : Type := Nat → (Int32 × Int32) ⊕ (δ × Nat)
def sbd_ {δ ε : Type} (S : rs_ δ) (T : δ → rs_ ε) : rs_ ε := fun p => match S p with
  | .inl e => .inl e
  | .inr (d, p') => T d p'
def sre_ {δ : Type} (d : δ) : rs_ δ := fun p => .inr (d, p)
theorem sbd_as {δ ε ζ : Type} (S : rs_ δ) (T : δ → rs_ ε) (U : ε → rs_ ζ) (p : Nat) : sbd_ (sbd_ S T) U p = sbd_ S (fun d => sbd_ (T d) U) p := by
  unfold sbd_
  rcases S p with e | ⟨d, p'⟩ <;> rfl
def nb_ (B : Nat → Int32) (N : Nat) : rs_ Int32 := fun p => if p < N then .inr (B p, p + 1) else .inl (1, nI N)
def nv_ (B : Nat → Int32) (N : Nat) : Nat → Int32 → rs_ Int32
  | 0, v => sre_ v
  | r + 1, v => sbd_ (nb_ B N) fun x => nv_ B N r ((v <<< ((8 : Int32) &&& 31)) ||| x)
def nn_ (B : Nat → Int32) (N n : Nat) (lo hi : Int32) : rs_ Int32 := fun p => match nv_ B N n 0 p with
  | .inl e => .inl e
  | .inr (v, p') => if v < lo ∨ hi < v then .inl (3, nI p) else .inr (v, p')
theorem nn_in {B : Nat → Int32} {N n : Nat} {lo hi v : Int32} {p p' : Nat} (h : nn_ B N n lo hi p = .inr (v, p')) : ¬ v < lo ∧ ¬ hi < v := by
  unfold nn_ at h
  split at h
  · cases h
  · split at h
    · cases h
    · next c =>
      cases h
      exact ⟨fun z => c (Or.inl z), fun z => c (Or.inr z)⟩
section RJ
variable {γ : Type} (E : γ → Int32 → Int32 × Int32 → hc_H) (N : Nat) (I : γ → Prop) (K : γ → γ → Prop)
def rt_ {α : Type} (m : hM α) (D : α → Prop) : Prop := ∀ c p ft, I c → 0 < ft.1 → ∃ v c' p', D v ∧ I c' ∧ K c c' ∧ m (E c p ft) = some (v, 0, 0, E c' p' ft)
def rr_ {α δ : Type} (c : γ) (r : Option (α × Nat × Nat × hc_H)) (ft : Int32 × Int32) (x : (Int32 × Int32) ⊕ (δ × Nat)) (val : δ → α) (upd : δ → γ) (D : α → Prop) : Prop := match x with
  | .inl e => 0 < e.1 ∧ ∃ v c' p', D v ∧ I c' ∧ K c c' ∧ r = some (v, 0, 0, E c' p' e)
  | .inr (d, p') => p' ≤ N ∧ I (upd d) ∧ K c (upd d) ∧ r = some (val d, 0, 0, E (upd d) (nI p') ft)
def ro_ {α δ : Type} (m : hM α) (c : γ) (S : rs_ δ) (val : δ → α) (upd : δ → γ) (D : α → Prop) : Prop := ∀ p ft, p ≤ N → ft.1 = 0 → rr_ E N I K c (m (E c (nI p) ft)) ft (S p) val upd D
variable {E N I K}
theorem rt_bind {α β : Type} (tr : ∀ a b c, K a b → K b c → K a c) {m : hM α} {k : α → hM β} {D : α → Prop} {D' : β → Prop} (h1 : rt_ E I K m D) (h2 : ∀ v, D v → rt_ E I K (k v) D') : rt_ E I K (hm_bind m k) D' := by
  intro c p ft hI hf
  obtain ⟨v, c', p', hD, hI', hK, e⟩ := h1 c p ft hI hf
  obtain ⟨w, c2, p2, hD2, hI2, hK2, e2⟩ := h2 v hD c' p' ft hI' hf
  exact ⟨w, c2, p2, hD2, hI2, tr _ _ _ hK hK2, by rw [bd_0 e, e2]⟩
theorem ro_bind {α β δ ε : Type} (tr : ∀ a b c, K a b → K b c → K a c) {m : hM α} {k : α → hM β} {c : γ} {S : rs_ δ} {T : δ → rs_ ε} {val : δ → α} {upd : δ → γ} {val2 : ε → β} {upd2 : ε → γ} {D : α → Prop} {D' : β → Prop} (h1 : ro_ E N I K m c S val upd D) (h2 : ∀ d p p', S p = .inr (d, p') → ro_ E N I K (k (val d)) (upd d) (T d) val2 upd2 D') (h3 : ∀ v, D v → rt_ E I K (k v) D') : ro_ E N I K (hm_bind m k) c (sbd_ S T) val2 upd2 D' := by
  intro p ft hp hf
  have k1 := h1 p ft hp hf
  unfold sbd_
  cases es : S p with
  | inl e =>
    rw [es] at k1
    obtain ⟨he, v, c', p', hD, hI', hK, e1⟩ := k1
    obtain ⟨w, c2, p2, hD2, hI2, hK2, e2⟩ := h3 v hD c' p' e hI' he
    exact ⟨he, w, c2, p2, hD2, hI2, tr _ _ _ hK hK2, by rw [bd_0 e1, e2]⟩
  | inr dp =>
    obtain ⟨d, p'⟩ := dp
    rw [es] at k1
    obtain ⟨hp', hI', hK, e1⟩ := k1
    have k2 := h2 d p p' es p' ft hp' hf
    show rr_ E N I K c _ ft (T d p') val2 upd2 D'
    rw [bd_0 e1]
    cases et : T d p' with
    | inl e =>
      rw [et] at k2
      obtain ⟨he, w, c2, p2, hD2, hI2, hK2, e2⟩ := k2
      exact ⟨he, w, c2, p2, hD2, hI2, tr _ _ _ hK hK2, e2⟩
    | inr dp =>
      rw [et] at k2
      obtain ⟨g1, g2, g3, g4⟩ := k2
      exact ⟨g1, g2, tr _ _ _ hK g3, g4⟩
theorem ro_pre {α δ : Type} (tr : ∀ a b c, K a b → K b c → K a c) {m m' : hM α} {c c' : γ} {S : rs_ δ} {val : δ → α} {upd : δ → γ} {D : α → Prop} (hK : K c c') (e : ∀ p ft, m (E c p ft) = m' (E c' p ft)) (h : ro_ E N I K m' c' S val upd D) : ro_ E N I K m c S val upd D := by
  intro p ft hp hf
  have k := h p ft hp hf
  rw [e]
  cases es : S p with
  | inl e1 =>
    rw [es] at k
    obtain ⟨he, w, c2, p2, hD2, hI2, hK2, e2⟩ := k
    exact ⟨he, w, c2, p2, hD2, hI2, tr _ _ _ hK hK2, e2⟩
  | inr dp =>
    rw [es] at k
    obtain ⟨g1, g2, g3, g4⟩ := k
    exact ⟨g1, g2, tr _ _ _ hK g3, g4⟩
theorem rt_pre {α : Type} (tr : ∀ a b c, K a b → K b c → K a c) {m m' : hM α} {D : α → Prop} (e : ∀ c p ft, I c → ∃ c', I c' ∧ K c c' ∧ m (E c p ft) = m' (E c' p ft)) (h : rt_ E I K m' D) : rt_ E I K m D := by
  intro c p ft hI hf
  obtain ⟨c', hI', hK, e1⟩ := e c p ft hI
  obtain ⟨w, c2, p2, hD2, hI2, hK2, e2⟩ := h c' p ft hI' hf
  exact ⟨w, c2, p2, hD2, hI2, tr _ _ _ hK hK2, by rw [e1, e2]⟩
/-- in a fault, a reading of the state decides how it goes on -/
theorem rt_pre2 {α ι : Type} (tr : ∀ a b c, K a b → K b c → K a c) {m : hM α} {D : α → Prop} {m' : ι → hM α} (e : ∀ c p ft, I c → 0 < ft.1 → ∃ i c', I c' ∧ K c c' ∧ m (E c p ft) = m' i (E c' p ft)) (h : ∀ i, rt_ E I K (m' i) D) : rt_ E I K m D := by
  intro c p ft hI hf
  obtain ⟨i, c', hI', hK, e1⟩ := e c p ft hI hf
  obtain ⟨w, c2, p2, hD2, hI2, hK2, e2⟩ := h i c' p ft hI' hf
  exact ⟨w, c2, p2, hD2, hI2, tr _ _ _ hK hK2, by rw [e1, e2]⟩
theorem ro_ret {α δ : Type} {c : γ} {d : δ} {a : α} {val : δ → α} {upd : δ → γ} {D : α → Prop} (rf : ∀ a, K a a) (hI : I c) (hv : val d = a) (hu : upd d = c) : ro_ E N I K (hm_ret a) c (sre_ d) val upd D := by
  intro p ft hp hf
  refine ⟨hp, hu.symm ▸ hI, hu.symm ▸ rf c, ?_⟩
  rw [ev_ret, hv, hu]
theorem rt_ret {α : Type} {a : α} {D : α → Prop} (rf : ∀ a, K a a) (hD : D a) : rt_ E I K (hm_ret a) D := fun c p ft hI _ => ⟨a, c, p, hD, hI, rf c, ev_ret _ _⟩
theorem rt_on {α : Type} {m m' : hM α} {D : α → Prop} (e : ∀ c p ft, m' (E c p ft) = m (E c p ft)) (h : rt_ E I K m D) : rt_ E I K m' D := fun c p ft hI hf => by
  rw [e]; exact h c p ft hI hf
theorem ro_on {α δ : Type} {m m' : hM α} {c : γ} {S : rs_ δ} {val : δ → α} {upd : δ → γ} {D : α → Prop} (e : ∀ c p ft, m' (E c p ft) = m (E c p ft)) (h : ro_ E N I K m c S val upd D) : ro_ E N I K m' c S val upd D := fun p ft hp hf => by
  rw [e]; exact h p ft hp hf
theorem ro_eq {α δ : Type} {m : hM α} {c : γ} {S S' : rs_ δ} {val : δ → α} {upd : δ → γ} {D : α → Prop} (h : ro_ E N I K m c S val upd D) (e : ∀ p, S' p = S p) : ro_ E N I K m c S' val upd D := by
  rw [show S' = S from funext e]; exact h
end RJ
/-! the reference's numbers -/
def sp_ (sc : Nat → Int32) (p : Int32) (e : Int32 × Int32) : Nat → Int32 := fun k => if k = 26 then p else if k = 7 then e.1 else if k = 8 then e.2 else sc k
theorem sp_26 (sc : Nat → Int32) (p : Int32) (e : Int32 × Int32) : sp_ sc p e 26 = p := by simp [sp_]
theorem sp_7 (sc : Nat → Int32) (p : Int32) (e : Int32 × Int32) : sp_ sc p e 7 = e.1 := by simp [sp_]
theorem sp_8 (sc : Nat → Int32) (p : Int32) (e : Int32 × Int32) : sp_ sc p e 8 = e.2 := by simp [sp_]
theorem sp_2 (sc : Nat → Int32) (p : Int32) (e : Int32 × Int32) : sp_ sc p e 2 = sc 2 := by simp [sp_]
theorem sp_u26 (sc : Nat → Int32) (p x : Int32) (e : Int32 × Int32) : va_up (sp_ sc p e) 26 x = sp_ sc x e := by
  funext k
  simp only [va_up, sp_]
  split <;> rfl
theorem sp_uf (sc : Nat → Int32) (p : Int32) (e : Int32 × Int32) (x y : Int32) : va_up (va_up (sp_ sc p e) 7 x) 8 y = sp_ sc p (x, y) := by
  funext k
  simp only [va_up, sp_]
  by_cases h1 : k = 8
  · subst h1; rfl
  · by_cases h2 : k = 7
    · subst h2; rfl
    · simp [h1, h2]
theorem ev_on {α : Type} {h : hc_H} {ci a : Nat} {fs : List lc_V} (e : h.2.2.2 ci a = some fs) (mm : hM α) : hm_on ci (some a) mm h = mm h := by
  unfold hm_on
  have : hc_isO h ci (some a) = true := by
    show (h.2.2.2 ci a).isSome = true
    rw [e]; rfl
  rw [if_pos this]
theorem mo_on1 {α : Type} (h : hc_H) (m : Nat) (sc : Nat → Int32) (ar : Nat → Nat → Int32) (mm : hM α) : hm_on 8 (some m) mm (mo_em h m sc ar) = mm (mo_em h m sc ar) := ev_on (mo_o h m sc ar) mm
section MOR
variable (h : hc_H) (m : Nat) (sc : Nat → Int32) (B : Nat → Int32) (N : Nat)
abbrev Em_ (ar : Nat → Nat → Int32) (p : Int32) (ft : Int32 × Int32) : hc_H := mo_em h m (sp_ sc p ft) ar
/-- the bank that the program stands in, and the bytes, stay -/
def bk_ (k : Nat) : Nat := if k = 12 then 1 else if k ≤ 18 then 12 else if k ≤ 20 then 4800 else if k ≤ 25 then 72 else if k ≤ 27 then 4800 else 0
def sb0_ (ar ar' : Nat → Nat → Int32) : Prop := (∀ k, k < 12 → ar' k = ar k) ∧ ∀ k j, 12 ≤ k → j < bk_ k → ar' k j = ar k j
theorem sb0_rfl (ar : Nat → Nat → Int32) : sb0_ ar ar := ⟨fun _ _ => rfl, fun _ _ _ _ => rfl⟩
theorem sb0_tr (a b c : Nat → Nat → Int32) (h1 : sb0_ a b) (h2 : sb0_ b c) : sb0_ a c := ⟨fun k hk => (h2.1 k hk).trans (h1.1 k hk), fun k j hk hj => (h2.2 k j hk hj).trans (h1.2 k j hk hj)⟩
theorem sb0_up (ar : Nat → Nat → Int32) {k j : Nat} (hk : 12 ≤ k) (hj : bk_ k ≤ j) (x : Int32) : sb0_ ar (va_up ar k (va_up (ar k) j x)) := by
  refine ⟨fun k' hk' => va_up_ne _ _ (by omega), fun k' j' hk' hj' => ?_⟩
  by_cases e : k' = k
  · subst e
    rw [va_up_self, va_up_ne _ _ (by omega)]
  · rw [va_up_ne _ _ e]
theorem s_Mo_wrong_x (ar : Nat → Nat → Int32) (p : Int32) (ft : Int32 × Int32) (hf : 0 < ft.1) (k q : Int32) : p_Mo_wrong (some m) k q (Em_ h m sc ar p ft) = some ((), 0, 0, Em_ h m sc ar p ft) := by
  rw [s_Mo_wrong, sp_7, if_neg (fun z => by rw [z] at hf; exact absurd hf (by decide))]
theorem s_Mo_wrong_o (ar : Nat → Nat → Int32) (p : Int32) (ft : Int32 × Int32) (hf : ft.1 = 0) (k q : Int32) : p_Mo_wrong (some m) k q (Em_ h m sc ar p ft) = some ((), 0, 0, Em_ h m sc ar p (k, q)) := by
  rw [s_Mo_wrong, sp_7, if_pos hf, sp_uf]
theorem rt_byteNext : rt_ (Em_ h m sc) (fun ar => ar 10 = B) sb0_ (p_Mo_byteNext (some m)) (fun _ => True) := by
  intro ar p ft hI hf
  refine ⟨0, ar, p, trivial, hI, sb0_rfl _, ?_⟩
  rw [p_Mo_byteNext, mo_get7, sp_7]
  simp only [hm_jn]
  rw [ev_ite, if_pos hf, mo_get2, mo_on, bd_0 (s_Mo_wrong_x h m sc ar p ft hf _ _), ev_ret]
theorem ro_byteNext (e2 : sc 2 = nI N) (hN : N ≤ 4096) (ar : Nat → Nat → Int32) (hB : ar 10 = B) : ro_ (Em_ h m sc) N (fun ar => ar 10 = B) sb0_ (p_Mo_byteNext (some m)) ar (nb_ B N) (fun v => v) (fun _ => ar) (fun _ => True) := by
  intro p ft hp hf
  rw [p_Mo_byteNext, mo_get7, sp_7]
  simp only [hm_jn]
  rw [ev_ite, if_neg (fun z => by rw [hf] at z; exact absurd z (by decide)), mo_get26, sp_26, mo_get2, sp_2, e2, ev_ite, nb_]
  by_cases c : p < N
  · rw [if_pos c, if_neg (fun z => by have := (nI_eq (by omega) (by omega)).mp z; omega), mo_get26, sp_26, nI_1, mo_put26, sp_u26, mo_ref1, mo_get26, sp_26, nI_pred, mo_ild10, if_neg (nI_in (by omega) (by omega)), nI_clamp (by omega), ev_ret, hB]
    exact ⟨by omega, hB, sb0_rfl _, rfl⟩
  · have : p = N := by omega
    subst this
    rw [if_neg c, if_pos rfl, mo_get2, sp_2, e2, mo_on, bd_0 (s_Mo_wrong_o h m sc ar _ ft hf _ _), ev_ret]
    exact ⟨(by decide : (0 : Int32) < 1), 0, ar, _, trivial, hB, sb0_rfl _, rfl⟩
theorem rt_number_12 (x1 x2 x3 x4 : Int32) (kx : Int32 → hM Int32) (hk : ∀ v, rt_ (Em_ h m sc) (fun ar => ar 10 = B) sb0_ (kx v) (fun _ => True)) (n : Nat) (hn : n ≤ 8) (e1 : x1 = nI n) : ∀ (r fu : Nat) (v : Int32), r ≤ n → r < fu → rt_ (Em_ h m sc) (fun ar => ar 10 = B) sb0_ (p_Mo_numberNext_12 (some m) x1 x2 x3 x4 kx fu v (nI (n - r))) (fun _ => True) := by
  intro r
  induction r with
  | zero =>
    intro fu v _ hfu
    obtain ⟨g, rfl⟩ : ∃ g, fu = g + 1 := ⟨fu - 1, by omega⟩
    rw [p_Mo_numberNext_12, if_pos (by rw [e1]; exact nI_le (by omega) (by omega))]
    exact hk v
  | succ r ih =>
    intro fu v hr hfu
    obtain ⟨g, rfl⟩ : ∃ g, fu = g + 1 := ⟨fu - 1, by omega⟩
    rw [p_Mo_numberNext_12, if_neg (by rw [e1]; exact nI_ge (by omega) (by omega)), nI_1, show n - (r + 1) + 1 = n - r by omega]
    refine rt_bind sb0_tr (D := fun _ => True) ?_ (fun w _ => ih g _ (by omega) (by omega))
    exact rt_on (fun ar p ft => mo_on1 h m _ ar _) (rt_byteNext h m sc B)
theorem ro_number_12 (e2 : sc 2 = nI N) (hN : N ≤ 4096) (x1 x2 x3 x4 : Int32) (kx : Int32 → hM Int32) {D : Int32 → Prop} {δ : Type} {val : δ → Int32} {T : Int32 → rs_ δ} (ar : Nat → Nat → Int32) (hB : ar 10 = B) (hk : ∀ v, ro_ (Em_ h m sc) N (fun ar => ar 10 = B) sb0_ (kx v) ar (T v) val (fun _ => ar) (fun _ => True)) (ht : ∀ v, rt_ (Em_ h m sc) (fun ar => ar 10 = B) sb0_ (kx v) (fun _ => True)) (n : Nat) (hn : n ≤ 8) (e1 : x1 = nI n) : ∀ (r fu : Nat) (v : Int32), r ≤ n → r < fu → ro_ (Em_ h m sc) N (fun ar => ar 10 = B) sb0_ (p_Mo_numberNext_12 (some m) x1 x2 x3 x4 kx fu v (nI (n - r))) ar (sbd_ (nv_ B N r v) T) val (fun _ => ar) (fun _ => True) := by
  intro r
  induction r with
  | zero =>
    intro fu v _ hfu
    obtain ⟨g, rfl⟩ : ∃ g, fu = g + 1 := ⟨fu - 1, by omega⟩
    rw [p_Mo_numberNext_12, if_pos (by rw [e1]; exact nI_le (by omega) (by omega))]
    exact hk v
  | succ r ih =>
    intro fu v hr hfu
    obtain ⟨g, rfl⟩ : ∃ g, fu = g + 1 := ⟨fu - 1, by omega⟩
    rw [p_Mo_numberNext_12, if_neg (by rw [e1]; exact nI_ge (by omega) (by omega)), nI_1, show n - (r + 1) + 1 = n - r by omega]
    have key := ro_bind sb0_tr (val2 := val) (upd2 := fun _ => ar) (D' := fun _ => True) (ro_on (fun ar p ft => mo_on1 h m _ ar _) (ro_byteNext h m sc B N e2 hN ar hB)) (fun d p p' _ => ih g ((v <<< ((8 : Int32) &&& 31)) ||| d) (by omega) (by omega)) (fun w _ => rt_number_12 h m sc B x1 x2 x3 x4 kx ht n hn e1 r g ((v <<< ((8 : Int32) &&& 31)) ||| w) (by omega) (by omega))
    refine ro_eq key (fun p => ?_)
    rw [nv_]
    exact sbd_as _ _ _ p
def nck_ (p0 : Nat) (lo hi v : Int32) : rs_ Int32 := fun p => if v < lo ∨ hi < v then .inl (3, nI p0) else .inr (v, p)
theorem rt_number (n : Nat) (hn : n ≤ 8) (lo hi : Int32) : rt_ (Em_ h m sc) (fun ar => ar 10 = B) sb0_ (p_Mo_numberNext (some m) (nI n) lo hi) (fun _ => True) := by
  unfold p_Mo_numberNext
  refine rt_pre2 sb0_tr (m' := fun a1 : Int32 => p_Mo_numberNext_12 (some m) (nI n) lo hi a1 (fun v => hm_bind (hm_geti 8 7 (some m)) fun a4 => if a4 = 0 then hm_jn (hm_bind (hm_on 8 (some m) (p_Mo_wrong (some m) 3 a1)) fun _ => hm_ret v) fun k55 => if v < lo then k55 else if v ≤ hi then hm_ret v else k55 else hm_ret v) hm_fuel 0 0) (fun ar p ft hI hf => ⟨p, ar, hI, sb0_rfl _, by rw [mo_get26, sp_26]⟩) (fun a1 => ?_)
  have := rt_number_12 h m sc B (nI n) lo hi a1 (fun v => hm_bind (hm_geti 8 7 (some m)) fun a4 => if a4 = 0 then hm_jn (hm_bind (hm_on 8 (some m) (p_Mo_wrong (some m) 3 a1)) fun _ => hm_ret v) fun k55 => if v < lo then k55 else if v ≤ hi then hm_ret v else k55 else hm_ret v) (fun v => ?_) n hn rfl n hm_fuel 0 (Nat.le_refl _) (by unfold hm_fuel; omega)
  · rw [Nat.sub_self] at this
    exact this
  · intro ar p ft hI hf
    refine ⟨v, ar, p, trivial, hI, sb0_rfl _, ?_⟩
    rw [mo_get7, sp_7, ev_ite, if_neg (fun z => by rw [z] at hf; exact absurd hf (by decide)), ev_ret]
theorem ro_number (e2 : sc 2 = nI N) (hN : N ≤ 4096) (ar : Nat → Nat → Int32) (hB : ar 10 = B) (n : Nat) (hn : n ≤ 8) (lo hi : Int32) : ro_ (Em_ h m sc) N (fun ar => ar 10 = B) sb0_ (p_Mo_numberNext (some m) (nI n) lo hi) ar (nn_ B N n lo hi) (fun v => v) (fun _ => ar) (fun _ => True) := by
  intro p ft hp hf
  rw [p_Mo_numberNext, mo_get26, sp_26]
  have ht : ∀ v, rt_ (Em_ h m sc) (fun ar => ar 10 = B) sb0_ (hm_bind (hm_geti 8 7 (some m)) fun a4 => if a4 = 0 then hm_jn (hm_bind (hm_on 8 (some m) (p_Mo_wrong (some m) 3 (nI p))) fun _ => hm_ret v) fun k55 => if v < lo then k55 else if v ≤ hi then hm_ret v else k55 else hm_ret v) (fun _ => True) := by
    intro v ar p ft hI hf
    refine ⟨v, ar, p, trivial, hI, sb0_rfl _, ?_⟩
    rw [mo_get7, sp_7, ev_ite, if_neg (fun z => by rw [z] at hf; exact absurd hf (by decide)), ev_ret]
  have hk : ∀ v, ro_ (Em_ h m sc) N (fun ar => ar 10 = B) sb0_ (hm_bind (hm_geti 8 7 (some m)) fun a4 => if a4 = 0 then hm_jn (hm_bind (hm_on 8 (some m) (p_Mo_wrong (some m) 3 (nI p))) fun _ => hm_ret v) fun k55 => if v < lo then k55 else if v ≤ hi then hm_ret v else k55 else hm_ret v) ar (nck_ p lo hi v) (fun v => v) (fun _ => ar) (fun _ => True) := by
    intro v p1 ft hp1 hf
    rw [mo_get7, sp_7, ev_ite, if_pos hf]
    simp only [hm_jn]
    rw [nck_, ev_ite]
    have wr : (hm_bind (hm_on 8 (some m) (p_Mo_wrong (some m) 3 (nI p))) fun _ => hm_ret v) (Em_ h m sc ar (nI p1) ft) = some (v, 0, 0, Em_ h m sc ar (nI p1) (3, nI p)) := by
      rw [mo_on, bd_0 (s_Mo_wrong_o h m sc ar _ ft hf _ _), ev_ret]
    by_cases c1 : v < lo
    · rw [if_pos c1, if_pos (Or.inl c1), wr]
      exact ⟨(by decide : (0 : Int32) < 3), v, ar, _, trivial, hB, sb0_rfl _, rfl⟩
    · rw [if_neg c1, ev_ite]
      by_cases c2 : v ≤ hi
      · rw [if_pos c2, if_neg (fun z => z.elim c1 (Int32.not_lt.mpr c2)), ev_ret]
        exact ⟨hp1, hB, sb0_rfl _, rfl⟩
      · rw [if_neg c2, if_pos (Or.inr (Int32.not_le.mp c2)), wr]
        exact ⟨(by decide : (0 : Int32) < 3), v, ar, _, trivial, hB, sb0_rfl _, rfl⟩
  have key := ro_number_12 h m sc B N e2 hN (nI n) lo hi (nI p) _ (D := fun _ => True) ar hB hk ht n hn rfl n hm_fuel 0 (Nat.le_refl _) (by unfold hm_fuel; omega) p ft hp hf
  rw [Nat.sub_self] at key
  have es : sbd_ (nv_ B N n 0) (nck_ p lo hi) p = nn_ B N n lo hi p := by
    unfold sbd_ nn_ nck_
    cases nv_ B N n 0 p <;> rfl
  rw [es] at key
  exact key
end MOR
