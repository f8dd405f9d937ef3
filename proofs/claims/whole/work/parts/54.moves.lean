/-! THE REFERENCE's moves IS THE SPECIFICATION's -/
theorem i_18 (o : Int32) : 18 ≤ o ↔ ¬ o ≤ 17 := by
  rw [Int32.le_iff_toInt_le, Int32.le_iff_toInt_le]
  have h1 : (18 : Int32).toInt = 18 := by decide
  have h2 : (17 : Int32).toInt = 17 := by decide
  omega
theorem tp_dr {q : sq_} {d : Nat} (hd : q.1 = nI d) (h2 : 2 ≤ d) (h16 : d ≤ 16) : tp_ (dr_ q) = (q.2 >>> ((q.1 - 2) &&& 31)) &&& 1 := by
  have e1 : q.1 - 1 = nI (d - 1) := by rw [hd]; exact pk_sub (b := 1) (by omega)
  have e2 : q.1 - 2 = nI (d - 2) := by rw [hd]; exact pk_sub (b := 2) (by omega)
  have e3 : nI (d - 1) - 1 = nI (d - 2) := by rw [show d - 2 = d - 1 - 1 by omega]; exact pk_sub (b := 1) (by omega)
  unfold tp_ dr_
  dsimp only
  rw [e1, e2, e3]
  apply b_ext
  intro i hi
  rw [b_and, b_and, bt_1 i hi]
  by_cases h0 : i = 0
  · subst h0
    rw [b_sshr (d - 2) (by omega) _ (by omega), b_sshr (d - 2) (by omega) _ (by omega), if_pos (by omega), if_pos (by omega), b_and, bt_mask (d - 1) (by omega) _ (by omega), decide_eq_true (show d - 2 + 0 < d - 1 by omega), Bool.and_true]
  · rw [decide_eq_false h0, Bool.and_false, Bool.and_false]
theorem one0 : ((1 : Int32) = 0) = False := by simp
theorem tk_2 {q : sq_} (hq : ¬ q.1 = 0) : tk_ 2 q = some (dr_ q) := by rw [tk_, if_neg hq, if_pos (Or.inl rfl)]
section MOM
variable (h : hc_H) (m : Nat) (sc : Nat → Int32) (ar : Nat → Nat → Int32)
/-- an answer of the reference: 1 and the stack of x, or 0 and some stack -/
def rm_ (x : Option sq_) (r : Option (Int32 × Nat × Nat × hc_H)) : Prop := match x with
  | some q => r = some (1, 0, 0, mo_em h m (scq_ sc q) ar)
  | none => ∃ q, r = some (0, 0, 0, mo_em h m (scq_ sc q) ar)
theorem b_puts {β : Type} (q : sq_) (t : Int32) (kont : Unit → hM β) : hm_bind (p_Mo_puts (some m) t) kont (mo_em h m (scq_ sc q) ar) = kont () (mo_em h m (scq_ sc (pt_ t q)) ar) := bd_0 (s_Mo_puts h m sc ar q t)
theorem rm_takes (t : Int32) (q : sq_) : rm_ h m sc ar (tk_ t q) (p_Mo_takes (some m) t (mo_em h m (scq_ sc q) ar)) := by
  cases e : tk_ t q with
  | none => exact s_takes_no h m sc ar q e
  | some q' => exact s_takes_ok h m sc ar q e
theorem rm_ints (n : Nat) (hn : n < 1000) (q : sq_) : rm_ h m sc ar (tki_ n q) (p_Mo_takesInts (some m) (nI n) (mo_em h m (scq_ sc q) ar)) := by
  cases e : tki_ n q with
  | none => exact s_takesInts_no h m sc ar q n hn e
  | some q' => exact s_takesInts_ok h m sc ar q n hn e
theorem rm_z {x : Option sq_} {mm : hM Int32} {hh : hc_H} (e : rm_ h m sc ar x (mm hh)) : rm_ h m sc ar x (hm_bind mm (fun a => hm_z a) hh) := by
  cases x with
  | none =>
    obtain ⟨q, e⟩ := e
    exact ⟨q, by rw [bd_0 e, ev_z0]⟩
  | some q => exact (bd_0 e).trans (ev_z1 _)
theorem rm_put {x : Option sq_} {mm : hM Int32} {hh : hc_H} (t : Int32) (e : rm_ h m sc ar x (mm hh)) : rm_ h m sc ar (x.map (pt_ t)) (hm_bind mm (fun a => hm_bind (hm_on 8 (some m) (p_Mo_puts (some m) t)) fun _ => hm_z a) hh) := by
  cases x with
  | none =>
    obtain ⟨q, e⟩ := e
    exact ⟨pt_ t q, by rw [bd_0 e, mo_on, b_puts, ev_z0]⟩
  | some q =>
    show _ = _
    rw [bd_0 e, mo_on, b_puts, ev_z1]
theorem s_moves_571 (x4 x6 : Int32) (n : Nat) (hx : x4 - x4 / 4 * 4 = nI n) (hn : n < 1000) (kx : hM Int32) : ∀ (r fu : Nat) (q : sq_), r ≤ n → r < fu → p_Mo_moves_571 (some m) x4 x6 kx fu (nI (n - r)) (mo_em h m (scq_ sc q) ar) = kx (mo_em h m (scq_ sc (pti_ r q)) ar) := by
  have four : ¬ (4 : Int32) = 0 := by decide
  intro r
  induction r with
  | zero =>
    intro fu q _ hf
    obtain ⟨g, rfl⟩ : ∃ g, fu = g + 1 := ⟨fu - 1, by omega⟩
    rw [p_Mo_moves_571, hm_ne, if_neg four, hx, ev_ite, if_pos (by rw [Nat.sub_zero]; exact nI_le (Nat.le_refl n) (by omega))]
    rfl
  | succ r ih =>
    intro fu q hr hf
    obtain ⟨g, rfl⟩ : ∃ g, fu = g + 1 := ⟨fu - 1, by omega⟩
    rw [p_Mo_moves_571, hm_ne, if_neg four, hx, ev_ite, if_neg (nI_ge (by omega) (by omega)), mo_on, b_puts, nI_1, show n - (r + 1) + 1 = n - r by omega]
    exact ih g (pt_ 0 q) (by omega) (by omega)
theorem s_moves_430_0 (x7 : Int32) (kx : Int32 → hM Int32) (q : sq_) : ∀ (r fu : Nat), r < 1000 → r < fu → p_Mo_moves_430 (some m) x7 kx fu 0 (nI r + (-1)) (mo_em h m (scq_ sc q) ar) = kx 0 (mo_em h m (scq_ sc q) ar) := by
  intro r
  induction r with
  | zero =>
    intro fu _ hf
    obtain ⟨g, rfl⟩ : ∃ g, fu = g + 1 := ⟨fu - 1, by omega⟩
    rw [p_Mo_moves_430, ev_ite, if_pos (by decide)]
  | succ r ih =>
    intro fu hr hf
    obtain ⟨g, rfl⟩ : ∃ g, fu = g + 1 := ⟨fu - 1, by omega⟩
    rw [pk_m1, p_Mo_moves_430, ev_ite, if_neg (nI_pos (by omega))]
    simp only [hm_jn, ev_ite, if_true]
    exact ih g (by omega) (by omega)
theorem s_moves_430 (cn : Nat) (hc : cn < 24) (kx : Int32 → hM Int32) : ∀ (r fu : Nat) (q : sq_), r < 1000 → r < fu → (∀ q', tkc_ (ar 15 cn) r q = some q' → p_Mo_moves_430 (some m) (nI cn) kx fu 1 (nI r + (-1)) (mo_em h m (scq_ sc q) ar) = kx 1 (mo_em h m (scq_ sc q') ar)) ∧ (tkc_ (ar 15 cn) r q = none → ∃ q', p_Mo_moves_430 (some m) (nI cn) kx fu 1 (nI r + (-1)) (mo_em h m (scq_ sc q) ar) = kx 0 (mo_em h m (scq_ sc q') ar)) := by
  have one : (1 : Int32) ≠ 0 := by decide
  intro r
  induction r with
  | zero =>
    intro fu q _ hf
    obtain ⟨g, rfl⟩ : ∃ g, fu = g + 1 := ⟨fu - 1, by omega⟩
    refine ⟨fun q' e => ?_, fun e => by cases e⟩
    cases e
    rw [p_Mo_moves_430, ev_ite, if_pos (by decide)]
  | succ r ih =>
    intro fu q hr hf
    obtain ⟨g, rfl⟩ : ∃ g, fu = g + 1 := ⟨fu - 1, by omega⟩
    have hin : ¬ (nI cn < 0 ∨ 24 ≤ (nI cn).toNatClampNeg) := nI_in hc (by omega)
    have hcl : (nI cn).toNatClampNeg = cn := nI_clamp (by omega)
    have step : p_Mo_moves_430 (some m) (nI cn) kx (g + 1) 1 (nI (r + 1) + (-1)) (mo_em h m (scq_ sc q) ar) = hm_bind (p_Mo_takes (some m) ((ar 15 cn >>> (nI r &&& 31)) &&& 1)) (fun a2 => if a2 = 0 then p_Mo_moves_430 (some m) (nI cn) kx g 0 (nI r + (-1)) else p_Mo_moves_430 (some m) (nI cn) kx g 1 (nI r + (-1))) (mo_em h m (scq_ sc q) ar) := by
      rw [pk_m1, p_Mo_moves_430, ev_ite, if_neg (nI_pos (by omega))]
      simp only [hm_jn, ev_ite, if_neg one, mo_on]
      rw [bd_0 (s_Mo_isRow h m (scq_ sc q) ar (nI cn) (nI r) hin), hcl, mo_on]
    rw [step]
    cases e : tk_ ((ar 15 cn >>> (nI r &&& 31)) &&& 1) q with
    | none =>
      obtain ⟨q1, e1⟩ := s_takes_no h m sc ar q e
      rw [bd_0 e1, ev_ite, if_pos rfl, s_moves_430_0 h m sc ar (nI cn) kx q1 r g (by omega) (by omega)]
      exact ⟨fun q' e' => by simp [tkc_, e] at e', fun _ => ⟨q1, rfl⟩⟩
    | some q1 =>
      rw [bd_0 (s_takes_ok h m sc ar q e), ev_ite, if_neg one]
      have := ih g q1 (by omega) (by omega)
      simpa [tkc_, e] using this
theorem s_moves (b f : Nat) (hb : b < 2) (hf : f < 12) (o v : Int32) (h25 : o = 25 → ∃ vn, vn < 12 ∧ v = nI vn ∧ ∃ c, c < 1000 ∧ ar 13 (12 * b + vn) = nI c) (h26 : o = 26 ∨ o = 29 → ∃ vn, vn < 1000 ∧ v - v / 4 * 4 = nI vn) (q : sq_) (hq : ∃ d, d ≤ 16 ∧ q.1 = nI d) : rm_ h m sc ar (mv_ o v (ar 15 (12 * b + f)) (ar 16 (12 * b + f)) (ar 13 (12 * b + v.toNatClampNeg)) (ar 15 (12 * b + v.toNatClampNeg)) (ar 16 (12 * b + v.toNatClampNeg)) q) (p_Mo_moves (some m) (nI b) (nI f) o v (mo_em h m (scq_ sc q) ar)) := by
  have one : (1 : Int32) ≠ 0 := by decide
  have four : ¬ (4 : Int32) = 0 := by decide
  have ek : ∀ j, (12 * nI b) + nI j = nI (12 * b + j) := fun j => by
    rw [show (12 : Int32) = nI 12 by decide, pk_mul, nI_add]
  have hin : ∀ j, j < 12 → ¬ (nI (12 * b + j) < 0 ∨ 24 ≤ (nI (12 * b + j)).toNatClampNeg) := fun j hj => nI_in (by omega) (by omega)
  have hcl : ∀ j, j < 12 → (nI (12 * b + j)).toNatClampNeg = 12 * b + j := fun j hj => nI_clamp (by omega)
  have row : ∀ (q : sq_) (x : Int32), p_Mo_isRow (some m) (nI (12 * b + f)) x (mo_em h m (scq_ sc q) ar) = some ((ar 15 (12 * b + f) >>> (x &&& 31)) &&& 1, 0, 0, mo_em h m (scq_ sc q) ar) := fun q x => by
    rw [s_Mo_isRow h m (scq_ sc q) ar _ x (hin f hf), hcl f hf]
  rw [p_Mo_moves, mv_]
  by_cases h0 : o = 0
  · rw [ev_ite, if_pos h0, if_pos h0, mo_on, b_puts, ev_z1]; rfl
  rw [ev_ite, if_neg h0, if_neg h0]
  by_cases h1 : o = 1
  · rw [ev_ite, if_pos h1, if_pos h1, mo_on]; exact rm_z h m sc ar (rm_takes h m sc ar 2 q)
  rw [ev_ite, if_neg h1, if_neg h1]
  by_cases h2 : o = 2
  · rw [ev_ite, if_pos h2, if_pos h2, mo_get27, scq_27]
    simp only [hm_jn, ev_ite]
    by_cases e : q.1 ≤ 0
    · rw [if_pos e, if_pos e, if_pos trivial, mo_on, b_puts, ev_z0]; exact ⟨_, rfl⟩
    · rw [if_neg e, if_neg e, if_neg one, mo_get28, mo_get27, mo_on, b_puts, ev_z1, scq_27, scq_28]; rfl
  rw [ev_ite, if_neg h2, if_neg h2]
  by_cases h3 : o = 3
  · rw [ev_ite, if_pos h3, if_pos h3, mo_get27, scq_27]
    simp only [hm_jn, ev_ite, one0, eq_self, if_true, if_false]
    by_cases e : q.1 ≤ 1
    · rw [if_pos e, if_pos e]; exact ⟨q, ev_z0 _⟩
    · obtain ⟨d, hd, ed⟩ := hq
      have h2 : 2 ≤ d := by
        rw [ed] at e
        rcases Nat.lt_or_ge d 2 with z | z
        · exact absurd (nI_le (a := d) (b := 1) (by omega) (by omega)) e
        · exact z
      have ne1 : ¬ q.1 = 0 := by rw [ed]; exact nI_ne0 (by omega) (by omega)
      have ne2 : ¬ (dr_ q).1 = 0 := by
        have e1 : (dr_ q).1 = nI (d - 1) := by show q.1 - 1 = _; rw [ed]; exact pk_sub (b := 1) (by omega)
        rw [e1]; exact nI_ne0 (by omega) (by omega)
      rw [if_neg e, if_neg e]
      simp only [mo_get28, mo_get27, scq_27, scq_28, mo_on]
      rw [bd_0 (s_takes_ok h m sc ar q (tk_2 ne1))]
      simp only [one0, if_false]
      rw [mo_on, bd_0 (s_takes_ok h m sc ar (dr_ q) (tk_2 ne2))]
      simp only [one0, if_false, mo_on, b_puts, ev_z1]
      rw [tp_dr ed h2 hd]
      rfl
  rw [ev_ite, if_neg h3, if_neg h3]
  by_cases h4 : o = 4
  · rw [ev_ite, if_pos h4, if_pos h4, mo_on, ek, bd_0 (row q v), mo_on, b_puts, ev_z1]; rfl
  rw [ev_ite, if_neg h4, if_neg h4]
  by_cases h5 : o = 5
  · rw [ev_ite, if_pos h5, if_pos h5, mo_on, ek, bd_0 (row q v), mo_on]; exact rm_z h m sc ar (rm_takes h m sc ar _ q)
  rw [ev_ite, if_neg h5, if_neg h5]
  by_cases h17 : o ≤ 17
  · rw [ev_ite, if_neg (fun z => (i_18 o).mp z h17), if_pos h17, mo_on]
    exact rm_put h m sc ar 0 (rm_ints h m sc ar 2 (by omega) q)
  rw [ev_ite, if_pos ((i_18 o).mpr h17), if_neg h17]
  simp only [hm_jn]
  by_cases h19 : o = 19
  · rw [ev_ite, if_pos h19, if_pos (Or.inl h19), mo_on]; exact rm_z h m sc ar (rm_takes h m sc ar 0 q)
  rw [ev_ite, if_neg h19]
  by_cases h20 : o = 20
  · rw [ev_ite, if_pos h20, if_pos (Or.inr (Or.inl h20)), mo_on]; exact rm_z h m sc ar (rm_takes h m sc ar 0 q)
  rw [ev_ite, if_neg h20]
  by_cases h28 : o = 28
  · rw [ev_ite, if_pos h28, if_pos (Or.inr (Or.inr h28)), mo_on]; exact rm_z h m sc ar (rm_takes h m sc ar 0 q)
  rw [ev_ite, if_neg h28, if_neg (fun z => z.elim h19 fun z => z.elim h20 h28)]
  by_cases h21 : o = 21
  · rw [ev_ite, if_pos h21, if_pos h21, mo_on]; exact rm_put h m sc ar 1 (rm_takes h m sc ar 0 q)
  rw [ev_ite, if_neg h21, if_neg h21]
  by_cases h22 : o = 22
  · rw [ev_ite, if_pos h22, if_pos h22, mo_on]
    cases e : tk_ 0 q with
    | none =>
      obtain ⟨q1, e1⟩ := s_takes_no h m sc ar q e
      rw [bd_0 e1, ev_ite, if_pos rfl, mo_on, b_puts, ev_z0]
      exact ⟨_, rfl⟩
    | some q1 =>
      rw [bd_0 (s_takes_ok h m sc ar q e), ev_ite, if_neg one, mo_on]
      cases e2 : tk_ 1 q1 with
      | none =>
        obtain ⟨q2, e3⟩ := s_takes_no h m sc ar q1 e2
        rw [bd_0 e3, ev_ite, if_pos rfl, mo_on, b_puts, ev_z0]
        simp only [Option.bind_some, e2, Option.map_none]
        exact ⟨_, rfl⟩
      | some q2 =>
        rw [bd_0 (s_takes_ok h m sc ar q1 e2), ev_ite, if_neg one, mo_on, b_puts, ev_z1]
        simp only [Option.bind_some, e2, Option.map_some]
        rfl
  rw [ev_ite, if_neg h22, if_neg h22]
  by_cases h23 : o = 23
  · rw [ev_ite, if_pos h23, if_pos h23, mo_on, show p_Mo_takesInts (some m) 2 = p_Mo_takesInts (some m) (nI 2) from rfl]
    cases e : tki_ 2 q with
    | none =>
      obtain ⟨q1, e1⟩ := s_takesInts_no h m sc ar q 2 (by omega) e
      rw [bd_0 e1, ev_ite, if_pos rfl, ev_z0]
      exact ⟨_, rfl⟩
    | some q1 =>
      rw [bd_0 (s_takesInts_ok h m sc ar q 2 (by omega) e), ev_ite, if_neg one, mo_on]
      cases e2 : tk_ 1 q1 with
      | none =>
        obtain ⟨q2, e3⟩ := s_takes_no h m sc ar q1 e2
        rw [bd_0 e3, ev_ite, if_pos rfl, ev_z0]
        simp only [Option.bind_some, e2]
        exact ⟨_, rfl⟩
      | some q2 =>
        rw [bd_0 (s_takes_ok h m sc ar q1 e2), ev_ite, if_neg one, ev_z1]
        simp only [Option.bind_some, e2]
        rfl
  rw [ev_ite, if_neg h23, if_neg h23]
  by_cases h24 : o = 24
  · rw [ev_ite, if_pos h24, if_pos h24, mo_on]; exact rm_put h m sc ar 0 (rm_takes h m sc ar 1 q)
  rw [ev_ite, if_neg h24, if_neg h24]
  by_cases h25' : o = 25
  · rw [ev_ite, if_pos h25', if_pos h25']
    obtain ⟨vn, hvn, rfl, c, hc, ec⟩ := h25 h25'
    have hcv : (nI vn).toNatClampNeg = vn := nI_clamp (by omega)
    rw [ek, hcv, mo_ref10, mo_ild13, if_neg (hin vn hvn), hcl vn hvn, ec, nI_clamp (show c < 2 ^ 31 by omega), show nI c - 1 = nI c + (-1) from Int32.sub_eq_add_neg _ _]
    have key := s_moves_430 h m sc ar (12 * b + vn) (by omega) (fun (v6_14 : Int32) => hm_bind (hm_getr 8 13 (some m)) fun a15 => hm_bind (hm_ild 16 a15 (nI (12 * b + vn))) fun a16 => if a16 ≤ 0 then (hm_z v6_14) else (hm_bind (hm_getr 8 13 (some m)) fun a17 => hm_bind (hm_ild 16 a17 (nI (12 * b + vn))) fun a18 => hm_bind (hm_on 8 (some m) (p_Mo_puts (some m) (a18 - 1))) fun _ => hm_z v6_14)) c hm_fuel q hc (by unfold hm_fuel; omega)
    cases e : tkc_ (ar 15 (12 * b + vn)) c q with
    | none =>
      obtain ⟨q1, e1⟩ := key.2 e
      rw [e1, mo_ref13, mo_ild16, if_neg (hin vn hvn), hcl vn hvn, ev_ite]
      by_cases z : ar 16 (12 * b + vn) ≤ 0
      · rw [if_pos z, ev_z0]; exact ⟨_, rfl⟩
      · rw [if_neg z, mo_ref13, mo_ild16, if_neg (hin vn hvn), hcl vn hvn, mo_on, b_puts, ev_z0]; exact ⟨_, rfl⟩
    | some q1 =>
      rw [key.1 q1 e, mo_ref13, mo_ild16, if_neg (hin vn hvn), hcl vn hvn, ev_ite]
      by_cases z : ar 16 (12 * b + vn) ≤ 0
      · rw [if_pos z, ev_z1]; simp only [Option.map_some, if_pos z]; rfl
      · rw [if_neg z, mo_ref13, mo_ild16, if_neg (hin vn hvn), hcl vn hvn, mo_on, b_puts, ev_z1]; simp only [Option.map_some, if_neg z]; rfl
  rw [ev_ite, if_neg h25', if_neg h25']
  by_cases h26' : o = 26
  · obtain ⟨vn, hvn, ev⟩ := h26 (Or.inl h26')
    rw [ev_ite, if_pos h26', if_pos h26', hm_ne, if_neg four, ev, nI_clamp (show vn < 2 ^ 31 by omega), mo_on]
    exact rm_put h m sc ar 0 (rm_ints h m sc ar vn hvn q)
  rw [ev_ite, if_neg h26', if_neg h26']
  by_cases h27 : o = 27
  · have h29 : ¬ o = 29 := by rw [h27]; decide
    rw [ev_ite, if_pos h27, if_pos h27, ek, mo_ref13, mo_ild16, if_neg (hin f hf), hcl f hf, ev_ite]
    by_cases e : ar 16 (12 * b + f) ≤ 0
    · rw [if_pos e, if_pos e, ev_ite, if_neg h29, ev_z1]; rfl
    · rw [if_neg e, if_neg e, mo_ref13, mo_ild16, if_neg (hin f hf), hcl f hf, mo_on]
      exact rm_z h m sc ar (rm_takes h m sc ar _ q)
  rw [ev_ite, if_neg h27, if_neg h27]
  by_cases h29 : o = 29
  · obtain ⟨vn, hvn, ev⟩ := h26 (Or.inr h29)
    rw [ev_ite, if_pos h29, if_pos h29, hm_ne, if_neg four, ev, nI_clamp (show vn < 2 ^ 31 by omega), mo_on]
    cases e : tki_ vn q with
    | none =>
      obtain ⟨q1, e1⟩ := s_takesInts_no h m sc ar q vn hvn e
      have key := s_moves_571 h m sc ar v 0 vn ev hvn (hm_z 0) vn hm_fuel q1 (Nat.le_refl _) (by unfold hm_fuel; omega)
      rw [Nat.sub_self] at key
      rw [bd_0 e1]
      exact ⟨_, key.trans (ev_z0 _)⟩
    | some q1 =>
      have key := s_moves_571 h m sc ar v 1 vn ev hvn (hm_z 1) vn hm_fuel q1 (Nat.le_refl _) (by unfold hm_fuel; omega)
      rw [Nat.sub_self] at key
      rw [bd_0 (s_takesInts_ok h m sc ar q vn hvn e)]
      exact key.trans (ev_z1 _)
  rw [ev_ite, if_neg h29, if_neg h29, ev_z1]
  rfl
end MOM
