/-! FRAMES of reading and changing; the two loops that verify -/
def out_ (fq : Nat → Option Nat) (a : Nat) : Prop := ∀ g q, g < 12 → fq g = some q → a < q ∨ q + 12 ≤ a
def fz_ (B : Nat) (fq : Nat → Option Nat) (H H' : hc_H) : Prop := H.1 ≤ H'.1 ∧ (∀ k a, 7 ≤ k → H'.2.1 k a = H.2.1 k a) ∧ (∀ k a, k < 4 → a < H.1 → out_ fq a → H'.2.1 k a = H.2.1 k a) ∧ (∀ a, a ≠ B + 1 → H'.2.2.1 8 a = H.2.2.1 8 a) ∧ (∀ a, a < H.1 → out_ fq a → H'.2.2.1 9 a = H.2.2.1 9 a) ∧ (∀ k a, k = 0 ∨ k = 1 ∨ k = 8 → H'.2.2.2 k a = H.2.2.2 k a) ∧ (∀ k a, k = 3 ∨ k = 4 → a < H.1 → out_ fq a → H'.2.2.2 k a = H.2.2.2 k a) ∧ ∀ a, a ≠ B → H'.2.2.2 5 a = H.2.2.2 5 a
section FZ
variable {B : Nat} {fq : Nat → Option Nat}
theorem fz_rfl (H : hc_H) : fz_ B fq H H := ⟨Nat.le_refl _, fun _ _ _ => rfl, fun _ _ _ _ _ => rfl, fun _ _ => rfl, fun _ _ _ => rfl, fun _ _ _ => rfl, fun _ _ _ _ _ => rfl, fun _ _ => rfl⟩
theorem fz_tr {H H1 H2 : hc_H} (h1 : fz_ B fq H H1) (h2 : fz_ B fq H1 H2) : fz_ B fq H H2 := by
  obtain ⟨a0, a1, a2, a3, a4, a5, a6, a7⟩ := h1
  obtain ⟨b0, b1, b2, b3, b4, b5, b6, b7⟩ := h2
  exact ⟨Nat.le_trans a0 b0, fun k a h => (b1 k a h).trans (a1 k a h), fun k a h h' h'' => (b2 k a h (Nat.lt_of_lt_of_le h' a0) h'').trans (a2 k a h h' h''), fun a h => (b3 a h).trans (a3 a h), fun a h' h'' => (b4 a (Nat.lt_of_lt_of_le h' a0) h'').trans (a4 a h' h''), fun k a h => (b5 k a h).trans (a5 k a h), fun k a h h' h'' => (b6 k a h (Nat.lt_of_lt_of_le h' a0) h'').trans (a6 k a h h' h''), fun a h => (b7 a h).trans (a7 a h)⟩
theorem fz_vq {h h' : hc_H} (z : fz_ B fq h h') (vf lt : Nat) (ol pg fn : Option Nat) (sc : Nat → Int32) (ft : Int32 × Int32) (ar : Nat → Nat → Int32) (ol' pg' fn' : Option Nat) (sc' : Nat → Int32) (ft' : Int32 × Int32) (ar' : Nat → Nat → Int32) : fz_ B fq (vq_em h vf lt ol pg fn sc ft ar) (vq_em h' vf lt ol' pg' fn' sc' ft' ar') := by
  obtain ⟨a0, a1, a2, a3, a4, a5, a6, a7⟩ := z
  refine ⟨a0, fun k a hk => ?_, fun k a hk h1 h2 => ?_, a3, a4, fun k a hk => ?_, fun k a hk h1 h2 => ?_, fun a h1 => ?_⟩
  · simp only [vq_em]; rw [if_neg (by omega), if_neg (by omega)]; exact a1 k a hk
  · simp only [vq_em]; rw [if_neg (by omega), if_neg (by omega)]; exact a2 k a hk h1 h2
  · simp only [vq_em]; rw [if_neg (by omega), if_neg (by omega), if_neg (by omega), if_neg (by omega)]; exact a5 k a hk
  · simp only [vq_em]; rw [if_neg (by omega), if_neg (by omega), if_neg (by omega), if_neg (by omega)]; exact a6 k a hk h1 h2
  · simp only [vq_em]; rw [if_neg (by omega), if_neg (by omega), if_neg (by omega), if_neg (by omega)]; exact a7 a h1
theorem fz_rf {h h' : hc_H} (z : fz_ B fq h h') (rd b lt : Nat) (p : Int32) (ft : Int32 × Int32) (p' : Int32) (ft' : Int32 × Int32) : fz_ B fq (rf_em h rd b lt p ft) (rf_em h' rd b lt p' ft') := by
  obtain ⟨a0, a1, a2, a3, a4, a5, a6, a7⟩ := z
  refine ⟨a0, a1, a2, a3, a4, fun k a hk => ?_, fun k a hk h1 h2 => ?_, fun a h1 => ?_⟩
  · simp only [rf_em]; rw [if_neg (by omega), if_neg (by omega), if_neg (by omega), if_neg (by omega)]; exact a5 k a hk
  · simp only [rf_em]; rw [if_neg (by omega), if_neg (by omega), if_neg (by omega), if_neg (by omega)]; exact a6 k a hk h1 h2
  · simp only [rf_em]; rw [if_neg (by omega), if_neg (by omega), if_neg (by omega), if_neg (by omega)]; exact a7 a h1
theorem fz_rf0 (h : hc_H) (rd b lt : Nat) (p : Int32) (ft : Int32 × Int32) : fz_ B fq h (rf_em h rd b lt p ft) := by
  refine ⟨Nat.le_refl _, fun k a hk => rfl, fun k a hk h1 h2 => rfl, fun _ _ => rfl, fun _ _ _ => rfl, fun k a hk => ?_, fun k a hk h1 h2 => ?_, fun a h1 => ?_⟩
  · simp only [rf_em]; rw [if_neg (by omega), if_neg (by omega)]
  · simp only [rf_em]; rw [if_neg (by omega), if_neg (by omega)]
  · simp only [rf_em]; rw [if_neg (by omega), if_neg (by omega)]
theorem fz_fsc {H H' : hc_H} (h : fsc_ B H H') : fz_ B fq H H' := by
  obtain ⟨a0, a1, a2, a3⟩ := h
  exact ⟨a0, fun k a hk => a1 k a (Or.inl (by omega)), fun k a hk h1 _ => a1 k a (Or.inr h1), fun a h => a2 8 a (by omega), fun a h _ => a2 9 a (by omega), fun k a hk => a3 k a (by omega), fun k a hk h1 _ => a3 k a (by omega), fun a h => a3 5 a (by omega)⟩
theorem fx_out {a : Nat} (h : out_ fq a) : fx_ fq 12 a = none := by
  cases e : fx_ fq 12 a with
  | none => rfl
  | some f =>
    obtain ⟨hf, q, hq, h1, h2⟩ := fx_of 12 e
    have := h f q hf hq
    omega
theorem fz_fns (H : hc_H) (FF : Nat → fc_) : fz_ B fq H (fns_em H fq FF) := ⟨Nat.le_refl _, fun k a hk => fns_k1 (by omega) a, fun k a _ _ h => (fns_n (fx_out h) k).1, fun a _ => fns_k2 (by omega) a, fun a _ h => (fns_n (fx_out h) 9).2.1, fun k a hk => fns_k (by omega) a, fun k a _ _ h => (fns_n (fx_out h) k).2.2, fun a _ => fns_k (by omega) a⟩
theorem fz_ru {h : hc_H} {f q k0 : Nat} (hf : f < 12) (hq : fq f = some q) (hk : k0 < 4) (g : Nat → Int32) : fz_ B fq h (hc_up h (q + (k0 + 1)) (.inl (k0, 400, g))) := by
  refine ⟨Nat.le_refl _, fun k a h7 => ?_, fun k a h4 _ ho => ?_, fun _ _ => rfl, fun _ _ _ => rfl, fun _ _ _ => rfl, fun _ _ _ _ _ => rfl, fun _ _ => rfl⟩
  · rw [up_i2, if_neg]
    rintro ⟨z, _⟩
    have z : k = k0 := z
    omega
  · have := ho f q hf hq
    rw [up_i2, if_neg]
    rintro ⟨_, z⟩
    have z : a = q + (k0 + 1) := z
    omega
theorem dsR_fz {H H' : hc_H} {A n : Nat} {fqa : Nat → Option Nat} {FA : Nat → fc_} (D : dsR H A n fqa FA) (z : fz_ B fq H H') (hne : A ≠ B) (hx : cross_ fqa fq) : dsR H' A n fqa FA := by
  obtain ⟨a0, a1, a2, a3, a4, a5, a6, a7⟩ := z
  refine ⟨⟨?_, ?_⟩, D.2.1, fun f q hf e => ?_⟩
  · rw [a7 A hne]; exact D.1.1
  · rw [a3 _ (by omega)]; exact D.1.2
  · obtain ⟨R, r2⟩ := D.2.2 f q hf e
    have ho : ∀ a, q ≤ a → a < q + 12 → out_ fq a := fun a h1 h2 g q' hg hq' => by
      have := hx f g q q' hf hg e hq'
      omega
    refine ⟨⟨?_, fun k hk => ?_, ?_, fun k hk => ?_⟩, Nat.le_trans r2 a0⟩
    · rw [a6 _ _ (Or.inl rfl) (by omega) (ho _ (by omega) (by omega))]; exact R.1
    · rw [a2 _ _ hk (by omega) (ho _ (by omega) (by omega))]; exact R.2.1 k hk
    · rw [a4 _ (by omega) (ho _ (by omega) (by omega))]; exact R.2.2.1
    · rw [a6 _ _ (Or.inr rfl) (by omega) (ho _ (by omega) (by omega))]; exact R.2.2.2 k hk
theorem brR_fz {H H' : hc_H} {b most rb len cnt : Nat} {f : Nat → Int32} (R : brR H b most rb len cnt f) (z : fz_ B fq H H') : brR H' b most rb len cnt f := by
  refine ⟨?_, ?_, R.2.2.1, R.2.2.2.1, R.2.2.2.2.1, R.2.2.2.2.2.1, Nat.lt_of_lt_of_le R.2.2.2.2.2.2 z.1⟩
  · rw [z.2.2.2.2.2.1 1 b (by omega)]; exact R.1
  · rw [z.2.1 7 rb (by omega)]; exact R.2.1
theorem s8_fz {H H' : hc_H} (z : fz_ B fq H H') : s8_ H H' := ⟨fun a => z.2.2.2.2.2.1 8 a (by omega), fun k a hk => z.2.1 k a (by omega)⟩
end FZ
theorem cross_sym {a b : Nat → Option Nat} (h : cross_ a b) : cross_ b a := fun i j q q' hi hj e e' => (h j i q' q hj hi e' e).elim Or.inr Or.inl
theorem vq_self {H : hc_H} {vf lt : Nat} {ol pg fn : Option Nat} {sv : Nat → Int32} {ft : Int32 × Int32} {av : Nat → Nat → Int32} (h1 : H.2.2.2 7 vf = some (vq_fs vf ol pg fn sv)) (h2 : ∀ k, 4 ≤ k → k ≤ 6 → H.2.1 k (vf + (k - 3)) = some (400, av k)) (h3 : H.2.2.2 2 lt = some [vi_ ft.1, vi_ ft.2]) : vq_em H vf lt ol pg fn sv ft av = H := by
  refine hc_ext rfl (fun k a => ?_) (fun _ _ => rfl) (fun k a => ?_)
  · simp only [vq_em]
    split
    · next z => rw [z.2, h2 k z.1.1 z.1.2]
    · rfl
  · simp only [vq_em]
    split
    · next z => rw [z.1, z.2, h1]
    · split
      · next z => rw [z.1, z.2, h3]
      · rfl
theorem vq_V (h : hc_H) (vf lt : Nat) (ol pg fn : Option Nat) (sc : Nat → Int32) (ft : Int32 × Int32) (ar : Nat → Nat → Int32) : clV_ (vq_em h vf lt ol pg fn sc ft ar) vf ∧ (vq_em h vf lt ol pg fn sc ft ar).2.2.2 2 lt = some [vi_ ft.1, vi_ ft.2] := by
  refine ⟨⟨ol, pg, fn, sc, ar, ?_, fun k h1 h2 => ?_⟩, ?_⟩
  · exact if_pos ⟨rfl, rfl⟩
  · exact if_pos ⟨⟨h1, h2⟩, rfl⟩
  · exact vq_f h vf lt ol pg fn sc ft ar
theorem clA_vq {h : hc_H} {sb b w lt vf A B : Nat} (c : clA_ h sb b w lt vf A B) (lt' vf' : Nat) (ol pg fn : Option Nat) (sc : Nat → Int32) (ft : Int32 × Int32) (ar : Nat → Nat → Int32) : clA_ (vq_em h vf' lt' ol pg fn sc ft ar) sb b w lt vf A B := by
  obtain ⟨a1, a2, a3⟩ := c
  refine ⟨?_, a2, a3⟩
  simp only [vq_em]; rw [if_neg (by omega), if_neg (by omega)]; exact a1
theorem dsR_vq {h : hc_H} {a n : Nat} {fq : Nat → Option Nat} {FA : Nat → fc_} (D : dsR h a n fq FA) (vf lt : Nat) (ol pg fn : Option Nat) (sc : Nat → Int32) (ft : Int32 × Int32) (ar : Nat → Nat → Int32) : dsR (vq_em h vf lt ol pg fn sc ft ar) a n fq FA := ⟨prR_vq D.1 _ _ _ _ _ _ _ _, D.2.1, fun f q hf e => ⟨fnR_vq (D.2.2 f q hf e).1 _ _ _ _ _ _ _ _, (D.2.2 f q hf e).2⟩⟩
/-- a row of a function is another -/
def ru_ (F : fc_) (k0 : Nat) (g : Nat → Int32) : fc_ := (F.1, va_up F.2.1 k0 g, F.2.2)
theorem fnR_ru {h : hc_H} {q k0 : Nat} {F : fc_} (R : fnR h q F) (hk : k0 < 4) (g : Nat → Int32) : fnR (hc_up h (q + (k0 + 1)) (.inl (k0, 400, g))) q (ru_ F k0 g) := by
  refine ⟨R.1, fun k h4 => ?_, R.2.2.1, R.2.2.2⟩
  rw [up_i2]
  simp only [ru_]
  by_cases c : k = k0
  · subst c
    rw [if_pos ⟨rfl, rfl⟩, va_up_self]
  · rw [if_neg (fun z => c z.1), va_up_ne _ _ c]; exact R.2.1 k h4
theorem fnR_ro {h : hc_H} {q q' k0 : Nat} {F : fc_} (R : fnR h q' F) (hd : q + 12 ≤ q' ∨ q' + 12 ≤ q) (hk : k0 < 4) (g : Nat → Int32) : fnR (hc_up h (q + (k0 + 1)) (.inl (k0, 400, g))) q' F := by
  refine ⟨R.1, fun k h4 => ?_, R.2.2.1, R.2.2.2⟩
  rw [up_i2, if_neg]
  · exact R.2.1 k h4
  · rintro ⟨_, z⟩
    have z : q' + (k + 1) = q + (k0 + 1) := z
    omega
theorem dsR_ru {h : hc_H} {a n : Nat} {fq : Nat → Option Nat} {FF : Nat → fc_} (D : dsR h a n fq FF) {f q k0 : Nat} (hf : f < 12) (hq : fq f = some q) (hk : k0 < 4) (g : Nat → Int32) : dsR (hc_up h (q + (k0 + 1)) (.inl (k0, 400, g))) a n fq (va_up FF f (ru_ (FF f) k0 g)) := by
  refine ⟨⟨D.1.1, D.1.2⟩, D.2.1, fun f' q' hf' e => ?_⟩
  obtain ⟨R, r2⟩ := D.2.2 f' q' hf' e
  refine ⟨?_, r2⟩
  by_cases c : f' = f
  · subst c
    rw [hq] at e
    cases e
    rw [va_up_self]
    exact fnR_ru R hk g
  · rw [va_up_ne _ _ c]
    exact fnR_ro R (D.2.1 f f' q q' hf hf' (Ne.symm c) hq e) hk g
/-- functions that differ in what verifying finds only -/
def sm_ (F F' : fc_) : Prop := F'.1 = F.1 ∧ F'.2.2 = F.2.2 ∧ F'.2.1 0 = F.2.1 0 ∧ F'.2.1 1 = F.2.1 1
theorem sm_rfl (F : fc_) : sm_ F F := ⟨rfl, rfl, rfl, rfl⟩
theorem sm_tr {F G K : fc_} (h1 : sm_ F G) (h2 : sm_ G K) : sm_ F K := ⟨h2.1.trans h1.1, h2.2.1.trans h1.2.1, h2.2.2.1.trans h1.2.2.1, h2.2.2.2.trans h1.2.2.2⟩
theorem sm_ru (F : fc_) (g2 g3 : Nat → Int32) : sm_ F (ru_ (ru_ F 2 g2) 3 g3) := by
  refine ⟨rfl, rfl, ?_, ?_⟩
  · simp only [ru_]; rw [va_up_ne _ _ (by decide), va_up_ne _ _ (by decide)]
  · simp only [ru_]; rw [va_up_ne _ _ (by decide), va_up_ne _ _ (by decide)]
theorem sm_fok {np n hn : Nat} {F F' : fc_} (h : sm_ F F') (k : fok_ np F n hn) : fok_ np F' n hn := by
  unfold fok_
  rw [h.1, h.2.1, h.2.2.1, h.2.2.2]
  exact k
theorem sm_agf {F F' : fc_} {ar ar' : Nat → Nat → Int32} {b g n hn : Nat} (h : sm_ F F') (e : ∀ k, k < 26 → ar' k = ar k) (k : agf_ F ar b g n hn) : agf_ F' ar' b g n hn := by
  obtain ⟨k1, k2, k3⟩ := k
  refine ⟨fun j hj => ?_, fun i hi => ?_, fun k hk j hj => ?_⟩
  · rw [h.1, e _ (by omega)]; exact k1 j hj
  · rw [h.2.2.1, h.2.2.2, e _ (by omega), e _ (by omega)]; exact k2 i hi
  · rw [h.2.1, e _ (by omega)]; exact k3 k hk j hj
def vok_ (F : fc_) (ar : Nat → Nat → Int32) (b g n : Nat) : Prop := ∀ i, i < n → F.2.1 2 i = ar 26 (4800 * b + 400 * g + i) ∧ F.2.1 3 i = ar 27 (4800 * b + 400 * g + i) ∧ (F.2.1 2 i = -1 ∨ ∃ d, d ≤ 16 ∧ F.2.1 2 i = nI d)
def sb1_ (ar ar' : Nat → Nat → Int32) : Prop := (∀ k, k < 26 → ar' k = ar k) ∧ ∀ k j, k = 26 ∨ k = 27 → j < 4800 → ar' k j = ar k j
theorem sb1_rfl (ar : Nat → Nat → Int32) : sb1_ ar ar := ⟨fun _ _ => rfl, fun _ _ _ _ => rfl⟩
theorem sb1_tr {a b c : Nat → Nat → Int32} (h1 : sb1_ a b) (h2 : sb1_ b c) : sb1_ a c := ⟨fun k hk => (h2.1 k hk).trans (h1.1 k hk), fun k j hk hj => (h2.2 k j hk hj).trans (h1.2 k j hk hj)⟩
theorem sb1_ar3 (ar : Nat → Nat → Int32) (g : Nat) (s : s3_) : sb1_ ar (ar3_ ar (4800 * 1 + 400 * g) s) := by
  refine ⟨fun k hk => ar3_o ar _ s hk, fun k j hk hj => ?_⟩
  rcases hk with rfl | rfl
  · simp only [ar3_]; rw [if_pos trivial, if_neg (by omega)]
  · simp only [ar3_]; rw [if_neg (by omega), if_pos trivial, if_neg (by omega)]
theorem sb0_sb1 {a b c : Nat → Nat → Int32} (h1 : sb0_ a b) (h2 : sb1_ b c) : sb0_ a c := by
  refine ⟨fun k hk => (h2.1 k (by omega)).trans (h1.1 k hk), fun k j hk hj => ?_⟩
  by_cases c : k < 26
  · rw [h2.1 k c]; exact h1.2 k j hk hj
  · have hk2 : k = 26 ∨ k = 27 := by
      by_cases c2 : k ≤ 27
      · omega
      · exfalso
        unfold bk_ at hj
        rw [if_neg (by omega), if_neg (by omega), if_neg (by omega), if_neg (by omega), if_neg (by omega)] at hj
        omega
    have hj' : j < 4800 := by
      rcases hk2 with rfl | rfl <;> exact hj
    rw [h2.2 k j hk2 hj']; exact h1.2 k j hk hj
/-- the first fault of the functions in their order -/
def vs_ (V : Nat → (Int32 × Int32) ⊕ s3_) : Nat → Nat → Option (Int32 × Int32)
  | 0, _ => none
  | r + 1, i => match V i with
    | .inl e => some e
    | .inr _ => vs_ V r (i + 1)
def V_ (ar : Nat → Nat → Int32) (NN HN : Nat → Nat) (g : Nat) : (Int32 × Int32) ⊕ s3_ := vf_ (lkr_ ar 1 g (NN g) (HN g)) g (NN g)
theorem lkr_sb1 {ar ar' : Nat → Nat → Int32} (e : ∀ k, k < 26 → ar' k = ar k) (b f n hn : Nat) : lkr_ ar' b f n hn = lkr_ ar b f n hn := by
  funext i s
  unfold lkr_
  rw [e 19 (by omega), e 20 (by omega), e 21 (by omega), e 22 (by omega), e 23 (by omega), e 15 (by omega), e 16 (by omega), e 13 (by omega)]
theorem vs_inl {V : Nat → (Int32 × Int32) ⊕ s3_} {r i : Nat} {e : Int32 × Int32} (h : V i = .inl e) : vs_ V (r + 1) i = some e := by
  rw [vs_, h]
theorem vs_inr {V : Nat → (Int32 × Int32) ⊕ s3_} {r i : Nat} {s : s3_} (h : V i = .inr s) : vs_ V (r + 1) i = vs_ V r (i + 1) := by
  rw [vs_, h]
section VLP
variable {sb b w lt vf A B m np : Nat} {fq : Nat → Option Nat} {NN HN : Nat → Nat} {ar : Nat → Nat → Int32} {kx : hM Int32}
theorem prF_of {h : hc_H} {FF : Nat → fc_} (D : dsR h B np fq FF) (hnp : np ≤ 12) (hs : ∀ i, i < np → ∃ q, fq i = some q) : prF h B np fq (fun g => (fq g).getD 0) FF := ⟨D.1, hnp, fun g hg => by
  obtain ⟨q', hq'⟩ := hs g hg
  refine ⟨by show fq g = some ((fq g).getD 0); rw [hq']; rfl, ?_⟩
  show fnR h ((fq g).getD 0) (FF g)
  rw [hq']
  exact (D.2.2 g q' (by omega) hq').1⟩
theorem vloopC (hnp : np ≤ 12) (hs : ∀ i, i < np → ∃ q, fq i = some q) : ∀ (r fu : Nat) (h : hc_H) (FF : Nat → fc_) (ol pg fn : Option Nat) (sv : Nat → Int32) (av : Nat → Nat → Int32), r ≤ np → r < fu → clA_ h sb b w lt vf A B → dsR h B np fq FF → (∀ g, g < np → fok_ np (FF g) (NN g) (HN g)) → (∀ g, g < np → agf_ (FF g) ar 1 g (NN g) (HN g)) → ∃ ol' pg' fn' sv' av' h' FF', p_SB_read_31 (some sb) kx fu (nI (np - r)) (vq_em h vf lt ol pg fn sv (0, -1) av) = kx (vq_em h' vf lt ol' pg' fn' sv' ((vs_ (V_ ar NN HN) r (np - r)).getD (0, -1)) av') ∧ fz_ B fq h h' ∧ clA_ h' sb b w lt vf A B ∧ dsR h' B np fq FF' ∧ (∀ g, sm_ (FF g) (FF' g)) ∧ (∀ e, vs_ (V_ ar NN HN) r (np - r) = some e → ¬ e.1 = 0) ∧ (vs_ (V_ ar NN HN) r (np - r) = none → ∀ g, g < np → (g < np - r → FF' g = FF g) ∧ (np - r ≤ g → ∃ s, V_ ar NN HN g = .inr s ∧ ivw_ (NN g) s ∧ ∀ i, i < NN g → (FF' g).2.1 2 i = s.1 i ∧ (FF' g).2.1 3 i = s.2.1 i)) := by
  intro r
  induction r with
  | zero =>
    intro fu h FF ol pg fn sv av _ hf cA D hok hag
    obtain ⟨u, rfl⟩ : ∃ u, fu = u + 1 := ⟨fu - 1, by omega⟩
    refine ⟨ol, pg, fn, sv, av, h, FF, ?_, fz_rfl _, cA, D, fun g => sm_rfl _, fun e z => (by cases z), fun _ g hg => ⟨fun _ => rfl, fun z => by omega⟩⟩
    rw [p_SB_read_31, sb_ref5 (clA_vq cA _ _ _ _ _ _ _ _), pr_get1 (prR_vq D.1 _ _ _ _ _ _ _ _), ev_ite, if_pos (nI_le (by omega) (by omega))]
    rfl
  | succ r ih =>
    intro fu h FF ol pg fn sv av hr hfu cA D hok hag
    obtain ⟨u, rfl⟩ : ∃ u, fu = u + 1 := ⟨fu - 1, by omega⟩
    have hf : np - (r + 1) < np := by omega
    obtain ⟨q, hq⟩ := hs (np - (r + 1)) hf
    have eQ : (fq (np - (r + 1))).getD 0 = q := by rw [hq]; rfl
    have ok := okf_of hok hf
    have V := s_V_verify (vf := vf) (lt := lt) (prF_of D hnp hs) hf ok ol pg fn sv (0, -1) rfl av
    have cE := clA_vq cA lt vf ol pg fn sv (0, -1) av
    have hc : p_SB_read_31 (some sb) kx (u + 1) (nI (np - (r + 1))) (vq_em h vf lt ol pg fn sv (0, -1) av) = hm_bind (p_Verifier_verify (some vf) (some B) (nI (np - (r + 1))) (some lt)) (fun _ => p_SB_read_31 (some sb) kx u (nI (np - r))) (vq_em h vf lt ol pg fn sv (0, -1) av) := by
      rw [p_SB_read_31, sb_ref5 cE, pr_get1 (prR_vq D.1 _ _ _ _ _ _ _ _), ev_ite, if_neg (nI_ge (by omega) (by omega)), sb_ref2 cE, vq_fk, ev_ite, if_pos rfl, sb_ref3 cE, sb_ref5 cE, sb_ref2 cE, vq_on, nI_1, show np - (r + 1) + 1 = np - r by omega]
    have evf := vf_eq hnp hok hag hf
    cases ev : V_ ar NN HN (np - (r + 1)) with
    | inl e =>
      rw [evf.trans ev] at V
      obtain ⟨sv', av', v1, v2⟩ := V
      rw [vs_inl ev]
      refine ⟨some lt, some B, some ((fq (np - (r + 1))).getD 0), sv', av', h, FF, ?_, fz_rfl _, cA, D, fun g => sm_rfl _, fun e' z => (by cases z; exact v1), fun z => by cases z⟩
      obtain ⟨u', rfl⟩ : ∃ u', u = u' + 1 := ⟨u - 1, by omega⟩
      have cE2 := clA_vq cA lt vf (some lt) (some B) (some ((fq (np - (r + 1))).getD 0)) sv' e av'
      rw [hc, bd_0 v2, p_SB_read_31, sb_ref5 cE2, pr_get1 (prR_vq D.1 _ _ _ _ _ _ _ _), ev_ite]
      split
      · rfl
      · rw [sb_ref2 cE2, vq_fk, ev_ite, if_neg v1]; rfl
    | inr s =>
      rw [evf.trans ev] at V
      obtain ⟨sv', av', g2, g3, v1, v2⟩ := V
      rw [eQ] at v1
      have hf12 : np - (r + 1) < 12 := by omega
      have D1 := dsR_ru D hf12 hq (k0 := 2) (by omega) g2
      have D2 := dsR_ru D1 hf12 hq (k0 := 3) (by omega) g3
      rw [va_up_self, bx_uu] at D2
      have sm : ∀ g, sm_ (FF g) (va_up FF (np - (r + 1)) (ru_ (ru_ (FF (np - (r + 1))) 2 g2) 3 g3) g) := by
        intro g
        by_cases c : g = np - (r + 1)
        · subst c; rw [va_up_self]; exact sm_ru _ _ _
        · rw [va_up_ne _ _ c]; exact sm_rfl _
      obtain ⟨ol', pg', fn', sv2, av2, h', FF', w1, w2, w3, w4, w5, w6, w7⟩ := ih u (hc_up (hc_up h (q + 3) (.inl (2, 400, g2))) (q + 4) (.inl (3, 400, g3))) _ (some lt) (some B) (some q) sv' av' (by omega) (by omega) cA D2 (fun g hg => sm_fok (sm g) (hok g hg)) (fun g hg => sm_agf (sm g) (fun _ _ => rfl) (hag g hg))
      have en : np - (r + 1) + 1 = np - r := by omega
      rw [vs_inr ev, en]
      refine ⟨ol', pg', fn', sv2, av2, h', FF', ?_, fz_tr (fz_tr (fz_ru hf12 hq (k0 := 2) (by omega) g2) (fz_ru hf12 hq (k0 := 3) (by omega) g3)) w2, w3, w4, fun g => sm_tr (sm g) (w5 g), w6, fun z g hg => ?_⟩
      · rw [hc, bd_0 v1]
        exact w1
      · obtain ⟨x1, x2⟩ := w7 z g hg
        refine ⟨fun c => ?_, fun c => ?_⟩
        · rw [x1 (by omega), va_up_ne _ _ (by omega)]
        · by_cases c2 : g = np - (r + 1)
          · subst c2
            refine ⟨s, ev, vf_ivw ok hnp (evf.trans ev), fun i hi => ?_⟩
            obtain ⟨y1, y2⟩ := v2 i hi
            rw [x1 (by omega), va_up_self]
            refine ⟨?_, ?_⟩
            · simp only [ru_]; rw [va_up_ne _ _ (by decide), va_up_self]; exact y1
            · simp only [ru_]; rw [va_up_self]; exact y2
          · exact x2 (by omega)
theorem vloopM {FF : Nat → fc_} (hnp : np ≤ 12) (hok : ∀ g, g < np → fok_ np (FF g) (NN g) (HN g)) (hag : ∀ g, g < np → agf_ (FF g) ar 1 g (NN g) (HN g)) (e12 : ar 12 1 = nI np) (H : hc_H) : ∀ (r fu : Nat) (sc : Nat → Int32) (ar' : Nat → Nat → Int32), r ≤ np → r < fu → sb1_ ar ar' → sc 7 = 0 → sc 8 = -1 → ∃ sc' ar'', p_Mo_read_11 (some m) kx fu (nI (np - r)) (mo_em H m sc ar') = kx (mo_em H m sc' ar'') ∧ sc' 7 = ((vs_ (V_ ar NN HN) r (np - r)).getD (0, -1)).1 ∧ sc' 8 = ((vs_ (V_ ar NN HN) r (np - r)).getD (0, -1)).2 ∧ (∀ k, k < 7 → sc' k = sc k) ∧ sb1_ ar' ar'' ∧ (vs_ (V_ ar NN HN) r (np - r) = none → ∀ g, g < np → (g < np - r → ∀ j, j < 400 → ar'' 26 (4800 * 1 + 400 * g + j) = ar' 26 (4800 * 1 + 400 * g + j) ∧ ar'' 27 (4800 * 1 + 400 * g + j) = ar' 27 (4800 * 1 + 400 * g + j)) ∧ (np - r ≤ g → ∃ s, V_ ar NN HN g = .inr s ∧ ∀ j, j < 400 → ar'' 26 (4800 * 1 + 400 * g + j) = s.1 j ∧ ar'' 27 (4800 * 1 + 400 * g + j) = s.2.1 j)) := by
  intro r
  have i1 : ¬ ((1 : Int32) < 0 ∨ 2 ≤ (1 : Int32).toNatClampNeg) := by decide
  induction r with
  | zero =>
    intro fu sc ar' _ hf hs e7 e8
    obtain ⟨u, rfl⟩ : ∃ u, fu = u + 1 := ⟨fu - 1, by omega⟩
    refine ⟨sc, ar', ?_, e7, e8, fun _ _ => rfl, sb1_rfl _, fun _ g hg => ⟨fun _ _ _ => ⟨rfl, rfl⟩, fun z => by omega⟩⟩
    rw [p_Mo_read_11, mo_get7, ev_ite, if_pos e7, mo_ref9, mo_ild12, if_neg i1, show (1 : Int32).toNatClampNeg = 1 by decide, hs.1 12 (by omega), e12, ev_ite, if_pos (nI_le (by omega) (by omega))]
  | succ r ih =>
    intro fu sc ar' hr hfu hs e7 e8
    obtain ⟨u, rfl⟩ : ∃ u, fu = u + 1 := ⟨fu - 1, by omega⟩
    have hf : np - (r + 1) < np := by omega
    have hm : p_Mo_read_11 (some m) kx (u + 1) (nI (np - (r + 1))) (mo_em H m sc ar') = hm_bind (p_Mo_verify (some m) (nI 1) (nI (np - (r + 1)))) (fun _ => p_Mo_read_11 (some m) kx u (nI (np - r))) (mo_em H m sc ar') := by
      rw [p_Mo_read_11, mo_get7, ev_ite, if_pos e7, mo_ref9, mo_ild12, if_neg i1, show (1 : Int32).toNatClampNeg = 1 by decide, hs.1 12 (by omega), e12, ev_ite, if_neg (nI_ge (by omega) (by omega)), mo_on, nI_1, show np - (r + 1) + 1 = np - r by omega]
      rfl
    have hag' : ∀ g, g < np → agf_ (FF g) ar' 1 g (NN g) (HN g) := fun g hg => sm_agf (sm_rfl _) hs.1 (hag g hg)
    have M := s_Mo_verify H m sc ar' 1 (np - (r + 1)) (NN (np - (r + 1))) (HN (np - (r + 1))) (by omega) (by omega) (okr_of hnp hok hag' hf) e7
    rw [lkr_sb1 hs.1] at M
    cases ev : V_ ar NN HN (np - (r + 1)) with
    | inl e =>
      have ev' : vf_ (lkr_ ar 1 (np - (r + 1)) (NN (np - (r + 1))) (HN (np - (r + 1)))) (np - (r + 1)) (NN (np - (r + 1))) = .inl e := ev
      rw [ev'] at M
      obtain ⟨q, s, v1, v2⟩ := M
      rw [vs_inl ev]
      obtain ⟨u', rfl⟩ : ∃ u', u = u' + 1 := ⟨u - 1, by omega⟩
      refine ⟨scf_ (scq_ sc q) e, ar3_ ar' (4800 * 1 + 400 * (np - (r + 1))) s, ?_, scf_7 _ _, va_up_self _ _ _, fun k hk => ?_, sb1_ar3 ar' _ s, fun z => by cases z⟩
      · rw [hm, bd_0 v2, p_Mo_read_11, mo_get7, scf_7, ev_ite, if_neg v1]
      · unfold scf_ scq_
        rw [va_up_ne _ _ (by omega), va_up_ne _ _ (by omega), if_neg (by omega), if_neg (by omega)]
    | inr s =>
      have ev' : vf_ (lkr_ ar 1 (np - (r + 1)) (NN (np - (r + 1))) (HN (np - (r + 1)))) (np - (r + 1)) (NN (np - (r + 1))) = .inr s := ev
      rw [ev'] at M
      obtain ⟨q, v1⟩ := M
      have q7 : ∀ k, k < 27 → scq_ sc q k = sc k := fun k hk => by
        unfold scq_
        rw [if_neg (by omega), if_neg (by omega)]
      obtain ⟨sc', ar'', w1, w2, w3, w4, w5, w6⟩ := ih u (scq_ sc q) (ar3_ ar' (4800 * 1 + 400 * (np - (r + 1))) s) (by omega) (by omega) (sb1_tr hs (sb1_ar3 ar' _ s)) ((q7 7 (by omega)).trans e7) ((q7 8 (by omega)).trans e8)
      have en : np - (r + 1) + 1 = np - r := by omega
      rw [vs_inr ev, en]
      refine ⟨sc', ar'', ?_, w2, w3, fun k hk => (w4 k hk).trans (q7 k (by omega)), sb1_tr (sb1_ar3 ar' _ s) w5, fun z g hg => ?_⟩
      · rw [hm, bd_0 v1]
        exact w1
      · obtain ⟨x1, x2⟩ := w6 z g hg
        refine ⟨fun c j hj => ?_, fun c => ?_⟩
        · obtain ⟨y1, y2⟩ := x1 (by omega) j hj
          rw [y1, y2]
          constructor
          · simp only [ar3_]; rw [if_pos trivial, if_neg (by omega)]
          · simp only [ar3_]; rw [if_neg (by omega), if_pos trivial, if_neg (by omega)]
        · by_cases c2 : g = np - (r + 1)
          · subst c2
            refine ⟨s, ev, fun j hj => ?_⟩
            obtain ⟨y1, y2⟩ := x1 (by omega) j hj
            rw [y1, y2]
            exact ⟨ar3_26 _ _ _ hj, ar3_27 _ _ _ hj⟩
          · exact x2 (by omega)
end VLP
