/-! THE INVARIANT: the class's part and the reference's part of the heap -/
def clA_ (H : hc_H) (sb b w lt vf A B : Nat) : Prop := H.2.2.2 0 sb = some [vr_ (some b), vr_ (some w), vr_ (some lt), vr_ (some vf), vr_ (some A), vr_ (some B)] ∧ b ≠ w ∧ A ≠ B
def clV_ (H : hc_H) (vf : Nat) : Prop := ∃ (ol pg fn : Option Nat) (sv : Nat → Int32) (av : Nat → Nat → Int32), H.2.2.2 7 vf = some (vq_fs vf ol pg fn sv) ∧ ∀ k, 4 ≤ k → k ≤ 6 → H.2.1 k (vf + (k - 3)) = some (400, av k)
def cross_ (fqa fqb : Nat → Option Nat) : Prop := ∀ i j q q', i < 12 → j < 12 → fqa i = some q → fqb j = some q' → q + 12 ≤ q' ∨ q' + 12 ≤ q
def clP_ (H : hc_H) (A na : Nat) (fqa : Nat → Option Nat) (FA : Nat → fc_) (B : Nat) (fqb : Nat → Option Nat) : Prop := dsR H A na fqa FA ∧ na ≤ 12 ∧ 1 ≤ na ∧ (∀ i, i < na → ∃ q, fqa i = some q) ∧ (∃ nb FB, dsR H B nb fqb FB) ∧ cross_ fqa fqb
def clI_ (H : hc_H) (sb Φ cb : Nat) (f : Nat → Int32) (cw : Nat) (fw : Nat → Int32) (ft : Int32 × Int32) (na : Nat) (FA : Nat → fc_) : Prop := ∃ b w lt vf A B rb len rw lw fqa fqb, clA_ H sb b w lt vf A B ∧ H.2.2.2 2 lt = some [vi_ ft.1, vi_ ft.2] ∧ clV_ H vf ∧ brR H b 4096 rb len cb f ∧ brR H w 24892 rw lw cw fw ∧ rb ≠ rw ∧ clP_ H A na fqa FA B fqb ∧ pot_ 4096 len + pot_ 24892 lw + 1659 * (cn_ fqa + cn_ fqb) ≤ Φ
def moI_ (H : hc_H) (m : Nat) (sc : Nat → Int32) (ar : Nat → Nat → Int32) : Prop := H.2.2.2 8 m = some (mo_fs m sc) ∧ ∀ k, 10 ≤ k → k ≤ 28 → H.2.1 k (m + (k - 9)) = some (mo_len k, ar k)
theorem mo_self {H : hc_H} {m : Nat} {sc : Nat → Int32} {ar : Nat → Nat → Int32} (h : moI_ H m sc ar) : mo_em H m sc ar = H := by
  refine hc_ext rfl (fun k a => ?_) (fun _ _ => rfl) (fun k a => ?_)
  · simp only [mo_em]
    split
    · next z => rw [z.2, h.2 k z.1.1 z.1.2]
    · rfl
  · simp only [mo_em]
    split
    · next z => rw [z.1, z.2, h.1]
    · rfl
theorem mo_emI (H : hc_H) (m : Nat) (sc : Nat → Int32) (ar : Nat → Nat → Int32) : moI_ (mo_em H m sc ar) m sc ar := ⟨mo_o H m sc ar, fun k h1 h2 => mo_i H m sc ar k ⟨h1, h2⟩⟩
/-- the class's cells are the same -/
def s10_ (H H' : hc_H) : Prop := H'.1 = H.1 ∧ (∀ k a, k < 10 → H'.2.1 k a = H.2.1 k a) ∧ H'.2.2.1 = H.2.2.1 ∧ ∀ k a, k ≠ 8 → H'.2.2.2 k a = H.2.2.2 k a
theorem s10_mo (H : hc_H) (m : Nat) (sc : Nat → Int32) (ar : Nat → Nat → Int32) : s10_ H (mo_em H m sc ar) := by
  refine ⟨rfl, fun k a hk => ?_, rfl, fun k a hk => ?_⟩
  · simp only [mo_em]; rw [if_neg (by omega)]
  · simp only [mo_em]; rw [if_neg (fun z => hk z.1)]
/-- the reference's cells are the same -/
def s8_ (H H' : hc_H) : Prop := (∀ a, H'.2.2.2 8 a = H.2.2.2 8 a) ∧ ∀ k a, 10 ≤ k → H'.2.1 k a = H.2.1 k a
theorem s8_rfl (H : hc_H) : s8_ H H := ⟨fun _ => rfl, fun _ _ _ => rfl⟩
theorem s8_tr {H H1 H2 : hc_H} (h1 : s8_ H H1) (h2 : s8_ H1 H2) : s8_ H H2 := ⟨fun a => (h2.1 a).trans (h1.1 a), fun k a hk => (h2.2 k a hk).trans (h1.2 k a hk)⟩
theorem mo_s8 {H H' : hc_H} {m : Nat} {sc : Nat → Int32} {ar : Nat → Nat → Int32} (h : moI_ H m sc ar) (hs : s8_ H H') : moI_ H' m sc ar := ⟨(hs.1 m).trans h.1, fun k h1 h2 => (hs.2 k _ h1).trans (h.2 k h1 h2)⟩
theorem fnR_s {H H' : hc_H} {q : Nat} {F : fc_} (R : fnR H q F) (h1 : ∀ k a, k < 4 → H'.2.1 k a = H.2.1 k a) (h2 : ∀ a, H'.2.2.1 9 a = H.2.2.1 9 a) (h3 : ∀ k a, k = 3 ∨ k = 4 → H'.2.2.2 k a = H.2.2.2 k a) : fnR H' q F := by
  refine ⟨?_, fun k hk => ?_, ?_, fun k hk => ?_⟩
  · rw [h3 _ _ (Or.inl rfl)]; exact R.1
  · rw [h1 _ _ hk]; exact R.2.1 k hk
  · rw [h2]; exact R.2.2.1
  · rw [h3 _ _ (Or.inr rfl)]; exact R.2.2.2 k hk
theorem dsR_s {H H' : hc_H} {a n : Nat} {fq : Nat → Option Nat} {FA : Nat → fc_} (D : dsR H a n fq FA) (h0 : H.1 ≤ H'.1) (h1 : ∀ k a, k < 4 → H'.2.1 k a = H.2.1 k a) (h2 : H'.2.2.1 = H.2.2.1) (h3 : ∀ k a, k = 3 ∨ k = 4 ∨ k = 5 → H'.2.2.2 k a = H.2.2.2 k a) : dsR H' a n fq FA := by
  refine ⟨⟨?_, ?_⟩, D.2.1, fun f q hf e => ?_⟩
  · rw [h3 _ _ (Or.inr (Or.inr rfl))]; exact D.1.1
  · rw [h2]; exact D.1.2
  · obtain ⟨r1, r2⟩ := D.2.2 f q hf e
    exact ⟨fnR_s r1 h1 (fun a => by rw [h2]) (fun k a hk => h3 k a (by omega)), by omega⟩
theorem clP_s {H H' : hc_H} {A na B : Nat} {fqa fqb : Nat → Option Nat} {FA : Nat → fc_} (D : clP_ H A na fqa FA B fqb) (h0 : H.1 ≤ H'.1) (h1 : ∀ k a, k < 4 → H'.2.1 k a = H.2.1 k a) (h2 : H'.2.2.1 = H.2.2.1) (h3 : ∀ k a, k = 3 ∨ k = 4 ∨ k = 5 → H'.2.2.2 k a = H.2.2.2 k a) : clP_ H' A na fqa FA B fqb := by
  obtain ⟨d1, d2, d3, d4, ⟨nb, FB, d5⟩, d6⟩ := D
  exact ⟨dsR_s d1 h0 h1 h2 h3, d2, d3, d4, ⟨nb, FB, dsR_s d5 h0 h1 h2 h3⟩, d6⟩
theorem clI_s10 {H H' : hc_H} {sb Φ cb : Nat} {f : Nat → Int32} {cw : Nat} {fw : Nat → Int32} {ft : Int32 × Int32} {na : Nat} {FA : Nat → fc_} (h : clI_ H sb Φ cb f cw fw ft na FA) (hs : s10_ H H') : clI_ H' sb Φ cb f cw fw ft na FA := by
  obtain ⟨b, w, lt, vf, A, B, rb, len, rw', lw, fqa, fqb, ⟨a1, a2, a3⟩, a5, ⟨ol, pg, fn, sv, av, v1, v2⟩, b1, b2, b3, c1, c2⟩ := h
  obtain ⟨s0, s1, s2, s3⟩ := hs
  refine ⟨b, w, lt, vf, A, B, rb, len, rw', lw, fqa, fqb, ⟨?_, a2, a3⟩, ?_, ⟨ol, pg, fn, sv, av, ?_, fun k h1 h2 => ?_⟩, ⟨?_, ?_, b1.2.2.1, b1.2.2.2.1, b1.2.2.2.2.1, b1.2.2.2.2.2.1, ?_⟩, ⟨?_, ?_, b2.2.2.1, b2.2.2.2.1, b2.2.2.2.2.1, b2.2.2.2.2.2.1, ?_⟩, b3, ?_, c2⟩
  · rw [s3 _ _ (by decide)]; exact a1
  · rw [s3 _ _ (by decide)]; exact a5
  · rw [s3 _ _ (by decide)]; exact v1
  · rw [s1 _ _ (by omega)]; exact v2 k h1 h2
  · rw [s3 _ _ (by decide)]; exact b1.1
  · rw [s1 _ _ (by omega)]; exact b1.2.1
  · rw [s0]; exact b1.2.2.2.2.2.2
  · rw [s3 _ _ (by decide)]; exact b2.1
  · rw [s1 _ _ (by omega)]; exact b2.2.1
  · rw [s0]; exact b2.2.2.2.2.2.2
  · exact clP_s c1 (Nat.le_of_eq s0.symm) (fun k a hk => s1 k a (by omega)) s2 (fun k a hk => s3 k a (by omega))
section SBR
variable {β : Type} {H : hc_H} {sb b w lt vf A B : Nat}
theorem sb_ref0 (R : clA_ H sb b w lt vf A B) (kont : Option Nat → hM β) : hm_bind (hm_getr 0 0 (some sb)) kont H = kont (some b) H := by
  rw [bd_getr, ev_fld, R.1]; rfl
theorem sb_ref1 (R : clA_ H sb b w lt vf A B) (kont : Option Nat → hM β) : hm_bind (hm_getr 0 1 (some sb)) kont H = kont (some w) H := by
  rw [bd_getr, ev_fld, R.1]; rfl
theorem sb_ref2 (R : clA_ H sb b w lt vf A B) (kont : Option Nat → hM β) : hm_bind (hm_getr 0 2 (some sb)) kont H = kont (some lt) H := by
  rw [bd_getr, ev_fld, R.1]; rfl
theorem sb_ref3 (R : clA_ H sb b w lt vf A B) (kont : Option Nat → hM β) : hm_bind (hm_getr 0 3 (some sb)) kont H = kont (some vf) H := by
  rw [bd_getr, ev_fld, R.1]; rfl
theorem sb_ref4 (R : clA_ H sb b w lt vf A B) (kont : Option Nat → hM β) : hm_bind (hm_getr 0 4 (some sb)) kont H = kont (some A) H := by
  rw [bd_getr, ev_fld, R.1]; rfl
theorem sb_ref5 (R : clA_ H sb b w lt vf A B) (kont : Option Nat → hM β) : hm_bind (hm_getr 0 5 (some sb)) kont H = kont (some B) H := by
  rw [bd_getr, ev_fld, R.1]; rfl
theorem sb_on {α : Type} (R : clA_ H sb b w lt vf A B) (mm : hM α) (kont : α → hM β) : hm_bind (hm_on 0 (some sb) mm) kont H = hm_bind mm kont H := by
  rw [bd_on, R.1]; rfl
end SBR
/-- behind an operation on a row of bytes, the rest of the class stays -/
theorem clI_fb {H H' : hc_H} {sb b w lt vf A B x xr : Nat} {ft : Int32 × Int32} {na : Nat} {fqa fqb : Nat → Option Nat} {FA : Nat → fc_} (h : fb_ x xr H H') (a : clA_ H sb b w lt vf A B) (a5 : H.2.2.2 2 lt = some [vi_ ft.1, vi_ ft.2]) (v : clV_ H vf) (c1 : clP_ H A na fqa FA B fqb) : clA_ H' sb b w lt vf A B ∧ H'.2.2.2 2 lt = some [vi_ ft.1, vi_ ft.2] ∧ clV_ H' vf ∧ clP_ H' A na fqa FA B fqb ∧ s8_ H H' := by
  obtain ⟨a1, a2, a3⟩ := a
  obtain ⟨ol, pg, fn, sv, av, v1, v2⟩ := v
  obtain ⟨f0, f1, f2, f3⟩ := h
  refine ⟨⟨?_, a2, a3⟩, ?_, ⟨ol, pg, fn, sv, av, ?_, fun k h1 h2 => ?_⟩, ?_, fun a => f2 _ _ (by omega), fun k a hk => f3 _ _ (by omega)⟩
  · rw [f2 _ _ (by omega)]; exact a1
  · rw [f2 _ _ (by omega)]; exact a5
  · rw [f2 _ _ (by omega)]; exact v1
  · rw [f3 _ _ (by omega)]; exact v2 k h1 h2
  · exact clP_s c1 f0 (fun k a hk => f3 _ _ (by omega)) f1 (fun k a hk => f2 _ _ (by omega))
theorem brR_fb {H H' : hc_H} {x xr y most yr len cnt : Nat} {f : Nat → Int32} (h : fb_ x xr H H') (R : brR H y most yr len cnt f) (hne : y ≠ x) (hr : yr ≠ xr) : brR H' y most yr len cnt f := by
  refine ⟨?_, ?_, R.2.2.1, R.2.2.2.1, R.2.2.2.2.1, R.2.2.2.2.2.1, Nat.lt_of_lt_of_le R.2.2.2.2.2.2 h.1⟩
  · rw [h.2.2.1 _ _ (fun z => hne z.2)]; exact R.1
  · have := R.2.2.2.2.2.2
    rw [h.2.2.2 _ _ (fun z => by omega)]; exact R.2.1
/-- one call of class and reference: the same answer, the invariant holds behind it -/
def anyb_ (F : fc_) (hn : Nat) : Prop := ∀ k, k < hn → F.2.2 k 3 = 0 ∨ F.2.2 k 3 = 1
def rel_ (cb : Nat) (f : Nat → Int32) (cw : Nat) (fw : Nat → Int32) (ft : Int32 × Int32) (na : Nat) (FA : Nat → fc_) (sc : Nat → Int32) (ar : Nat → Nat → Int32) : Prop := sc 2 = nI cb ∧ rb_ cb f (ar 10) ∧ sc 4 = nI cw ∧ cw ≤ 24892 ∧ rb_ cw fw (ar 11) ∧ sc 5 = ft.1 ∧ sc 6 = ft.2 ∧ ar 12 0 = nI na ∧ ∀ g, g < na → ∃ n hn, fok_ na (FA g) n hn ∧ agf_ (FA g) ar 0 g n hn ∧ anyb_ (FA g) hn ∧ ∀ i, i < n → (FA g).2.1 2 i = ar 26 (400 * g + i) ∧ (FA g).2.1 3 i = ar 27 (400 * g + i) ∧ ((FA g).2.1 2 i = -1 ∨ ∃ d, d ≤ 16 ∧ (FA g).2.1 2 i = nI d)
def inv_ (H : hc_H) (sb m Φ : Nat) : Prop := ∃ cb f cw fw ft na FA sc ar, clI_ H sb Φ cb f cw fw ft na FA ∧ moI_ H m sc ar ∧ rel_ cb f cw fw ft na FA sc ar
def call_ (sb m : Nat) (p1 p2 : hM Int32) : Prop := ∀ H Φ, inv_ H sb m Φ → ∃ r C S H1 H2 Φ', p1 H = some (r, C, S, H1) ∧ H1.2.2.2 8 m ≠ none ∧ p2 H1 = some (r, 0, 0, H2) ∧ inv_ H2 sb m Φ' ∧ C + Φ' ≤ Φ + 3 ∧ S + Φ' ≤ Φ + 3
theorem mo_isO {H : hc_H} {m : Nat} {sc : Nat → Int32} {ar : Nat → Nat → Int32} (h : moI_ H m sc ar) : H.2.2.2 8 m ≠ none := by rw [h.1]; intro z; cases z
