/-! ALL FUNCTIONS of a program of the class -/
def fx_ (fq : Nat → Option Nat) : Nat → Nat → Option Nat
  | 0, _ => none
  | k + 1, a => if (fq k).isSome = true ∧ (fq k).getD 0 ≤ a ∧ a < (fq k).getD 0 + 12 then some k else fx_ fq k a
def dj_ (fq : Nat → Option Nat) : Prop := ∀ f f' q q', f < 12 → f' < 12 → f ≠ f' → fq f = some q → fq f' = some q' → q + 12 ≤ q' ∨ q' + 12 ≤ q
theorem fx_of {fq : Nat → Option Nat} {a f : Nat} : ∀ n, fx_ fq n a = some f → f < n ∧ ∃ q, fq f = some q ∧ q ≤ a ∧ a < q + 12
  | 0, h => by cases h
  | n + 1, h => by
    rw [fx_] at h
    split at h
    · next c =>
      cases h
      obtain ⟨q, hq⟩ := Option.isSome_iff_exists.mp c.1
      rw [hq] at c
      exact ⟨by omega, q, hq, c.2.1, c.2.2⟩
    · obtain ⟨h1, h2⟩ := fx_of n h
      exact ⟨by omega, h2⟩
theorem fx_in {fq : Nat → Option Nat} (dj : dj_ fq) {f q a : Nat} (hq : fq f = some q) (h1 : q ≤ a) (h2 : a < q + 12) : ∀ n, n ≤ 12 → f < n → fx_ fq n a = some f
  | 0, _, h => by omega
  | n + 1, h12, h => by
    rw [fx_]
    by_cases e : f = n
    · subst e
      rw [hq]
      exact if_pos ⟨rfl, h1, h2⟩
    · rw [if_neg]
      · exact fx_in dj hq h1 h2 n (by omega) (by omega)
      · rintro ⟨c1, c2, c3⟩
        obtain ⟨q', hq'⟩ := Option.isSome_iff_exists.mp c1
        rw [hq'] at c2 c3
        have c2 : q' ≤ a := c2
        have c3 : a < q' + 12 := c3
        rcases dj f n q q' (by omega) (by omega) e hq hq' with z | z <;> omega
def fns_em (g : hc_H) (fq : Nat → Option Nat) (FF : Nat → fc_) : hc_H := (g.1, fun k a => match fx_ fq 12 a with
    | some f => if k < 4 ∧ a = (fq f).getD 0 + (k + 1) then some (400, (FF f).2.1 k) else g.2.1 k a
    | none => g.2.1 k a, fun k a => match fx_ fq 12 a with
    | some f => if k = 9 ∧ a = (fq f).getD 0 + 5 then some (6, fn_hq ((fq f).getD 0)) else g.2.2.1 k a
    | none => g.2.2.1 k a, fun k a => match fx_ fq 12 a with
    | some f => if k = 3 ∧ a = (fq f).getD 0 then some (fn_fs ((fq f).getD 0) (FF f).1) else if k = 4 ∧ (fq f).getD 0 + 6 ≤ a ∧ a < (fq f).getD 0 + 12 then some (fn_hs ((FF f).2.2 (a - ((fq f).getD 0 + 6)))) else g.2.2.2 k a
    | none => g.2.2.2 k a)
section FNS
variable {g : hc_H} {fq : Nat → Option Nat} {FF : Nat → fc_}
theorem fns_i {a f q : Nat} (h : fx_ fq 12 a = some f) (hq : fq f = some q) (k : Nat) : (fns_em g fq FF).2.1 k a = if k < 4 ∧ a = q + (k + 1) then some (400, (FF f).2.1 k) else g.2.1 k a := by
  simp only [fns_em, h, hq, Option.getD_some]
theorem fns_q {a f q : Nat} (h : fx_ fq 12 a = some f) (hq : fq f = some q) (k : Nat) : (fns_em g fq FF).2.2.1 k a = if k = 9 ∧ a = q + 5 then some (6, fn_hq q) else g.2.2.1 k a := by
  simp only [fns_em, h, hq, Option.getD_some]
theorem fns_o {a f q : Nat} (h : fx_ fq 12 a = some f) (hq : fq f = some q) (k : Nat) : (fns_em g fq FF).2.2.2 k a = if k = 3 ∧ a = q then some (fn_fs q (FF f).1) else if k = 4 ∧ q + 6 ≤ a ∧ a < q + 12 then some (fn_hs ((FF f).2.2 (a - (q + 6)))) else g.2.2.2 k a := by
  simp only [fns_em, h, hq, Option.getD_some]
theorem fns_n {a : Nat} (h : fx_ fq 12 a = none) (k : Nat) : (fns_em g fq FF).2.1 k a = g.2.1 k a ∧ (fns_em g fq FF).2.2.1 k a = g.2.2.1 k a ∧ (fns_em g fq FF).2.2.2 k a = g.2.2.2 k a := by
  simp only [fns_em, h, and_self]
theorem fns_R (dj : dj_ fq) {f q : Nat} (hf : f < 12) (hq : fq f = some q) : fnR (fns_em g fq FF) q (FF f) := by
  have fx : ∀ a, q ≤ a → a < q + 12 → fx_ fq 12 a = some f := fun a h1 h2 => fx_in dj hq h1 h2 12 (by omega) hf
  refine ⟨?_, fun k hk => ?_, ?_, fun k hk => ?_⟩
  · rw [fns_o (fx q (by omega) (by omega)) hq, if_pos ⟨rfl, rfl⟩]
  · rw [fns_i (fx _ (by omega) (by omega)) hq, if_pos ⟨hk, rfl⟩]
  · rw [fns_q (fx _ (by omega) (by omega)) hq, if_pos ⟨rfl, rfl⟩]
  · rw [fns_o (fx _ (by omega) (by omega)) hq, if_neg (by omega), if_pos (by omega), show q + 6 + k - (q + 6) = k by omega]
theorem fns_self (R : ∀ f q, f < 12 → fq f = some q → fnR g q (FF f)) : fns_em g fq FF = g := by
  refine hc_ext rfl (fun k a => ?_) (fun k a => ?_) (fun k a => ?_)
  · cases e : fx_ fq 12 a with
    | none => exact (fns_n e k).1
    | some f =>
      obtain ⟨hf, q, hq, h1, h2⟩ := fx_of 12 e
      have := congrArg (fun z => z.2.1 k a) (fn_em_self (R f q hf hq))
      rw [fns_i e hq]
      exact this
  · cases e : fx_ fq 12 a with
    | none => exact (fns_n e k).2.1
    | some f =>
      obtain ⟨hf, q, hq, h1, h2⟩ := fx_of 12 e
      have := congrArg (fun z => z.2.2.1 k a) (fn_em_self (R f q hf hq))
      rw [fns_q e hq]
      exact this
  · cases e : fx_ fq 12 a with
    | none => exact (fns_n e k).2.2
    | some f =>
      obtain ⟨hf, q, hq, h1, h2⟩ := fx_of 12 e
      have := congrArg (fun z => z.2.2.2 k a) (fn_em_self (R f q hf hq))
      rw [fns_o e hq]
      exact this
theorem fns_up (dj : dj_ fq) {f q : Nat} (hf : f < 12) (hq : fq f = some q) (F : fc_) : fn_em (fns_em g fq FF) q F = fns_em g fq (va_up FF f F) := by
  have fx : ∀ a, q ≤ a → a < q + 12 → fx_ fq 12 a = some f := fun a h1 h2 => fx_in dj hq h1 h2 12 (by omega) hf
  refine hc_ext rfl (fun k a => ?_) (fun k a => ?_) (fun k a => ?_)
  · by_cases c : q ≤ a ∧ a < q + 12
    · rw [fns_i (fx a c.1 c.2) hq, va_up_self]
      simp only [fn_em]
      rw [fns_i (fx a c.1 c.2) hq]
      split <;> rfl
    · simp only [fn_em]
      rw [if_neg (by omega)]
      cases e : fx_ fq 12 a with
      | none => rw [(fns_n e k).1, (fns_n e k).1]
      | some f' =>
        obtain ⟨hf', q', hq', h1, h2⟩ := fx_of 12 e
        have : f' ≠ f := by
          intro z; subst z; rw [hq] at hq'; cases hq'; exact c ⟨h1, h2⟩
        rw [fns_i e hq', fns_i e hq', va_up_ne _ _ this]
  · by_cases c : q ≤ a ∧ a < q + 12
    · rw [fns_q (fx a c.1 c.2) hq]
      simp only [fn_em]
      rw [fns_q (fx a c.1 c.2) hq]
      split <;> rfl
    · simp only [fn_em]
      rw [if_neg (by omega)]
      cases e : fx_ fq 12 a with
      | none => rw [(fns_n e k).2.1, (fns_n e k).2.1]
      | some f' =>
        obtain ⟨hf', q', hq', h1, h2⟩ := fx_of 12 e
        rw [fns_q e hq', fns_q e hq']
  · by_cases c : q ≤ a ∧ a < q + 12
    · rw [fns_o (fx a c.1 c.2) hq, va_up_self]
      simp only [fn_em]
      rw [fns_o (fx a c.1 c.2) hq]
      split
      · rfl
      · split <;> rfl
    · simp only [fn_em]
      rw [if_neg (by omega), if_neg (by omega)]
      cases e : fx_ fq 12 a with
      | none => rw [(fns_n e k).2.2, (fns_n e k).2.2]
      | some f' =>
        obtain ⟨hf', q', hq', h1, h2⟩ := fx_of 12 e
        have : f' ≠ f := by
          intro z; subst z; rw [hq] at hq'; cases hq'; exact c ⟨h1, h2⟩
        rw [fns_o e hq', fns_o e hq', va_up_ne _ _ this]
theorem fns_k {k : Nat} (hk : k ≠ 3 ∧ k ≠ 4) (a : Nat) : (fns_em g fq FF).2.2.2 k a = g.2.2.2 k a := by
  cases e : fx_ fq 12 a with
  | none => exact (fns_n e k).2.2
  | some f =>
    obtain ⟨hf, q, hq, h1, h2⟩ := fx_of 12 e
    rw [fns_o e hq, if_neg (fun z => hk.1 z.1), if_neg (fun z => hk.2 z.1)]
theorem fns_k1 {k : Nat} (hk : 4 ≤ k) (a : Nat) : (fns_em g fq FF).2.1 k a = g.2.1 k a := by
  cases e : fx_ fq 12 a with
  | none => exact (fns_n e k).1
  | some f =>
    obtain ⟨hf, q, hq, h1, h2⟩ := fx_of 12 e
    rw [fns_i e hq, if_neg (by omega)]
theorem fns_k2 {k : Nat} (hk : k ≠ 9) (a : Nat) : (fns_em g fq FF).2.2.1 k a = g.2.2.1 k a := by
  cases e : fx_ fq 12 a with
  | none => exact (fns_n e k).2.1
  | some f =>
    obtain ⟨hf, q, hq, h1, h2⟩ := fx_of 12 e
    rw [fns_q e hq, if_neg (fun z => hk z.1)]
theorem brR_fns {b most rb len N : Nat} {f : Nat → Int32} (R : brR g b most rb len N f) (FF : Nat → fc_) : brR (fns_em g fq FF) b most rb len N f := by
  refine ⟨?_, ?_, R.2.2⟩
  · rw [fns_k (by decide)]; exact R.1
  · rw [fns_k1 (by decide)]; exact R.2.1
theorem prR_fns {a n : Nat} {fq' : Nat → Option Nat} (R : prR g a n fq') (FF : Nat → fc_) : prR (fns_em g fq FF) a n fq' := by
  refine ⟨?_, ?_⟩
  · rw [fns_k (by decide)]; exact R.1
  · rw [fns_k2 (by decide)]; exact R.2
end FNS
theorem sbd_inr {δ ε : Type} {S : rs_ δ} {T : δ → rs_ ε} {p : Nat} {x : ε × Nat} (h : sbd_ S T p = .inr x) : ∃ d p', S p = .inr (d, p') ∧ T d p' = .inr x := by
  unfold sbd_ at h
  split at h
  · cases h
  · next d p' e => exact ⟨d, p', e, h⟩
theorem shd_sz {B : Nat → Int32} {N f p p' : Nat} {hd : hd5_} (h : shd_ B N f p = .inr (hd, p')) : ∃ n, 1 ≤ n ∧ n ≤ 400 ∧ hd.2.2.2.2 = nI n := by
  unfold shd_ at h
  obtain ⟨pa, p1, -, h⟩ := sbd_inr h
  obtain ⟨lo, p2, -, h⟩ := sbd_inr h
  obtain ⟨rb, p3, -, h⟩ := sbd_inr h
  obtain ⟨rs, p4, -, h⟩ := sbd_inr h
  obtain ⟨sz, p5, hs, h⟩ := sbd_inr h
  cases h
  have := nn_in hs
  obtain ⟨n, hn, rfl⟩ : ∃ n, n ≤ 400 ∧ sz = nI n := nI_of2 (M := 400) (n := 400) (by decide) (fun z => this.1 (Int32.lt_trans z (by decide))) (Int32.not_lt.mp this.2)
  refine ⟨n, ?_, hn, rfl⟩
  rcases Nat.eq_zero_or_pos n with z | z
  · subst z; exact absurd (by decide : nI 0 < 1) this.1
  · exact z
theorem hdu_4 (F : fc_) (d : hd5_) : (hdu_ F d).1 4 = d.2.2.2.2 := by simp [hdu_, va_up]
theorem hdu_1 (F : fc_) (d : hd5_) : (hdu_ F d).1 1 = d.2.1 := by simp [hdu_, va_up]
section RPG
variable {g : hc_H} {fq : Nat → Option Nat} (rd b lt : Nat) {most rb len N : Nat} {f : Nat → Int32}
abbrev ITF_ : (Nat → fc_) → Prop := fun _ => True
abbrev KTF_ : (Nat → fc_) → (Nat → fc_) → Prop := fun _ _ => True
abbrev Ep_ (g : hc_H) (fq : Nat → Option Nat) (rd b lt : Nat) : (Nat → fc_) → Int32 → Int32 × Int32 → hc_H := Ec_ (fns_em g fq) rd b lt
theorem ktf_tr : ∀ a b c : Nat → fc_, KTF_ a b → KTF_ b c → KTF_ a c := fun _ _ _ _ _ => trivial
theorem ktf_rf : ∀ a : Nat → fc_, KTF_ a a := fun _ => trivial
theorem up_same {α : Type} (F : Nat → α) (k : Nat) : va_up F k (F k) = F := by
  funext j
  simp only [va_up]
  split
  · next e => rw [e]
  · rfl
theorem lift_t (dj : dj_ fq) {i q : Nat} (hi : i < 12) (hq : fq i = some q) {α : Type} {m : hM α} {D : α → Prop} (h : ∀ FF, rt_ (Ek_ (fns_em g fq FF) q rd b lt) IT_ KT_ m D) : rt_ (Ep_ g fq rd b lt) ITF_ KTF_ m D := by
  intro FF p ft _ hf
  obtain ⟨v, c', p', h1, -, -, h4⟩ := h FF (FF i) p ft trivial hf
  have e : ∀ F p ft, Ek_ (fns_em g fq FF) q rd b lt F p ft = Ep_ g fq rd b lt (va_up FF i F) p ft := fun F p ft => by
    show rf_em (fn_em (fns_em g fq FF) q F) rd b lt p ft = rf_em (fns_em g fq (va_up FF i F)) rd b lt p ft
    rw [fns_up dj hi hq]
  rw [e, e, up_same] at h4
  exact ⟨v, va_up FF i c', p', h1, trivial, trivial, h4⟩
theorem lift_o (dj : dj_ fq) {i q : Nat} (hi : i < 12) (hq : fq i = some q) {α δ : Type} {m : hM α} {D : α → Prop} {S : rs_ δ} {val : δ → α} {upd : δ → fc_} (FF : Nat → fc_) (h : ro_ (Ek_ (fns_em g fq FF) q rd b lt) N IT_ KT_ m (FF i) S val upd D) : ro_ (Ep_ g fq rd b lt) N ITF_ KTF_ m FF S val (fun d => va_up FF i (upd d)) D := by
  intro p ft hp hf
  have e : ∀ F p ft, Ek_ (fns_em g fq FF) q rd b lt F p ft = Ep_ g fq rd b lt (va_up FF i F) p ft := fun F p ft => by
    show rf_em (fn_em (fns_em g fq FF) q F) rd b lt p ft = rf_em (fns_em g fq (va_up FF i F)) rd b lt p ft
    rw [fns_up dj hi hq]
  have k := h p ft hp hf
  rw [e, up_same] at k
  cases es : S p with
  | inl e1 =>
    rw [es] at k
    obtain ⟨he, v, c', p', h1, -, -, h4⟩ := k
    rw [e] at h4
    exact ⟨he, v, va_up FF i c', p', h1, trivial, trivial, h4⟩
  | inr dp =>
    rw [es] at k
    obtain ⟨g1, -, -, g4⟩ := k
    rw [e] at g4
    exact ⟨g1, trivial, trivial, g4⟩
def cfu_ (F : fc_) (d : fd_) : fc_ := hws_ (va_up (iws_ (hdu_ F d.1) 0 d.2.1).1 5 d.2.2.1, (iws_ (hdu_ F d.1) 0 d.2.1).2) 0 d.2.2.2
def w3_ (rd pa i : Nat) (L : hM Unit) : hM Unit := hm_bind (hm_getr 5 0 (some pa)) fun a11 => hm_bind (hm_qld 8 a11 (nI i)) fun a12 => hm_bind (hm_on 6 (some rd) (p_Reader_handlers (some rd) a12)) fun _ => L
def w2_ (rd pa i : Nat) (L : hM Unit) : hM Unit := hm_bind (hm_getr 5 0 (some pa)) fun a8 => hm_bind (hm_qld 8 a8 (nI i)) fun a9 => hm_bind (hm_geti 5 1 (some pa)) fun a10 => hm_bind (hm_on 6 (some rd) (p_Reader_instructions (some rd) a9 a10)) fun _ => w3_ rd pa i L
theorem iws_1 : ∀ (l : List (Int32 × Int32)) (F : fc_) (i : Nat), (iws_ F i l).1 = F.1
  | [], _, _ => rfl
  | d :: l, F, i => by rw [iws_, iws_1 l]; rfl
variable {pa n : Nat}
theorem pe_pr (RP : prR g pa n fq) (FF : Nat → fc_) (p : Int32) (ft : Int32 × Int32) : prR (Ep_ g fq rd b lt FF p ft) pa n fq := prR_rf (prR_fns RP FF) rd b lt p ft
theorem w3_t (R : brR g b most rb len N f) (dj : dj_ fq) (RP : prR g pa n fq) {i q : Nat} (hi : i < 12) (hq : fq i = some q) {L : hM Unit} (hL : rt_ (Ep_ g fq rd b lt) ITF_ KTF_ L (fun _ => True)) : rt_ (Ep_ g fq rd b lt) ITF_ KTF_ (w3_ rd pa i L) (fun _ => True) :=
  rt_pre ktf_tr (m' := hm_bind (hm_on 6 (some rd) (p_Reader_handlers (some rd) (some q))) fun _ => L) (fun FF p ft _ => ⟨FF, trivial, trivial, by rw [w3_, pr_ref0 (pe_pr rd b lt RP FF p ft), pr_qld (pe_pr rd b lt RP FF p ft) i hi, hq]⟩)
    (rt_bind ktf_tr (lift_t rd b lt dj hi hq (fun FF => rt_on (fun _ _ _ => rf_on _ _ _ _ _ _ _) (ct_handlers q rd b lt (brR_fns R FF)))) (fun _ _ => hL))
theorem w2_t (R : brR g b most rb len N f) (dj : dj_ fq) (RP : prR g pa n fq) {i q : Nat} (hi : i < 12) (hq : fq i = some q) {L : hM Unit} (hL : rt_ (Ep_ g fq rd b lt) ITF_ KTF_ L (fun _ => True)) : rt_ (Ep_ g fq rd b lt) ITF_ KTF_ (w2_ rd pa i L) (fun _ => True) :=
  rt_pre ktf_tr (m' := hm_bind (hm_on 6 (some rd) (p_Reader_instructions (some rd) (some q) (nI n))) fun _ => w3_ rd pa i L) (fun FF p ft _ => ⟨FF, trivial, trivial, by rw [w2_, pr_ref0 (pe_pr rd b lt RP FF p ft), pr_qld (pe_pr rd b lt RP FF p ft) i hi, hq, pr_get1 (pe_pr rd b lt RP FF p ft)]⟩)
    (rt_bind ktf_tr (lift_t rd b lt dj hi hq (fun FF => rt_on (fun _ _ _ => rf_on _ _ _ _ _ _ _) (ct_instructions q rd b lt (brR_fns R FF) (nI n)))) (fun _ _ => w3_t rd b lt R dj RP hi hq hL))
theorem w1_o (R : brR g b most rb len N f) (dj : dj_ fq) (RP : prR g pa n fq) {i q : Nat} (hi : i < 12) (hq : fq i = some q) {L : hM Unit} (hL : rt_ (Ep_ g fq rd b lt) ITF_ KTF_ L (fun _ => True)) (FF : Nat → fc_) {δ : Type} {T : fd_ → rs_ δ} {upd : δ → Nat → fc_} (hT : ∀ d, ro_ (Ep_ g fq rd b lt) N ITF_ KTF_ L (va_up FF i (cfu_ (FF i) d)) (T d) (fun _ => ()) upd (fun _ => True)) : ro_ (Ep_ g fq rd b lt) N ITF_ KTF_ (hm_bind (hm_on 6 (some rd) (p_Reader_head (some rd) (some q) (if i = 0 then 1 else 0))) fun _ => w2_ rd pa i L) FF (sbd_ (sf_ (B_ f) N i (nI n)) T) (fun _ => ()) upd (fun _ => True) := by
  have key : ro_ (Ep_ g fq rd b lt) N ITF_ KTF_ (hm_bind (hm_on 6 (some rd) (p_Reader_head (some rd) (some q) (if i = 0 then 1 else 0))) fun _ => w2_ rd pa i L) FF (sbd_ (shd_ (B_ f) N i) fun hd => sbd_ (sls_ (si_ (B_ f) N hd.2.1 hd.2.2.2.2 (nI n)) hd.2.2.2.2.toNatClampNeg) fun il => sbd_ (sbd_ (nn_ (B_ f) N 1 0 6) fun hn => sbd_ (sls_ (sh_ (B_ f) N hd.2.2.2.2) hn.toNatClampNeg) fun hl => sre_ (hn, hl)) fun hh => T (hd, il, hh)) (fun _ => ()) upd (fun _ => True) := by
    refine ro_bind ktf_tr (lift_o rd b lt dj hi hq FF (ro_on (fun _ _ _ => rf_on _ _ _ _ _ _ _) (co_head q rd b lt (brR_fns R FF) (FF i) i))) (fun hd p p' hs => ?_) (fun v _ => w2_t rd b lt R dj RP hi hq hL)
    obtain ⟨sz, sz1, sz4, esz⟩ := shd_sz hs
    refine ro_pre0 ktf_tr (c' := va_up FF i (hdu_ (FF i) hd)) (m' := hm_bind (hm_on 6 (some rd) (p_Reader_instructions (some rd) (some q) (nI n))) fun _ => w3_ rd pa i L) trivial (fun p ft _ => by rw [w2_, pr_ref0 (pe_pr rd b lt RP _ p ft), pr_qld (pe_pr rd b lt RP _ p ft) i hi, hq, pr_get1 (pe_pr rd b lt RP _ p ft)]) ?_
    have e4 : (va_up FF i (hdu_ (FF i) hd) i).1 4 = nI sz := by
      rw [va_up_self, hdu_4, esz]
    have e1 : (va_up FF i (hdu_ (FF i) hd) i).1 1 = hd.2.1 := by
      rw [va_up_self, hdu_1]
    have io := co_instructions q rd b lt (brR_fns (fq := fq) R (va_up FF i (hdu_ (FF i) hd))) sz sz4 (va_up FF i (hdu_ (FF i) hd) i) e4 (nI n)
    rw [e1] at io
    rw [esz, nI_clamp (show sz < 2 ^ 31 by omega)]
    refine ro_bind ktf_tr (lift_o rd b lt dj hi hq _ (ro_on (fun _ _ _ => rf_on _ _ _ _ _ _ _) io)) (fun il p p' hs => ?_) (fun v _ => w3_t rd b lt R dj RP hi hq hL)
    refine ro_pre0 ktf_tr (c' := va_up FF i (iws_ (hdu_ (FF i) hd) 0 il)) (m' := hm_bind (hm_on 6 (some rd) (p_Reader_handlers (some rd) (some q))) fun _ => L) trivial (fun p ft _ => by rw [w3_, pr_ref0 (pe_pr rd b lt RP _ p ft), pr_qld (pe_pr rd b lt RP _ p ft) i hi, hq, va_up_self, bx_uu]) ?_
    have ho := co_handlers q rd b lt (brR_fns (fq := fq) R (va_up FF i (iws_ (hdu_ (FF i) hd) 0 il))) (va_up FF i (iws_ (hdu_ (FF i) hd) 0 il) i)
    have e4' : (va_up FF i (iws_ (hdu_ (FF i) hd) 0 il) i).1 4 = nI sz := by
      rw [va_up_self, iws_1, hdu_4, esz]
    rw [e4'] at ho
    refine ro_bind ktf_tr (lift_o rd b lt dj hi hq _ (ro_on (fun _ _ _ => rf_on _ _ _ _ _ _ _) ho)) (fun hh p p' hs => ?_) (fun v _ => hL)
    have := hT (hd, il, hh)
    rw [va_up_self, bx_uu]
    exact this
  refine ro_eq key (fun p => ?_)
  rw [sf_, sbd_as]
  refine sbd_c _ (fun hd p => ?_) p
  rw [sbd_as]
  refine sbd_c _ (fun il p => ?_) p
  rw [sbd_as, sbd_as]
  refine sbd_c _ (fun hn p => ?_) p
  rw [sbd_as, sbd_as]
  exact sbd_c _ (fun hl p => rfl) p
end RPG
