theorem bd_as {α β γ : Type} (m : hM α) (k : α → hM β) (k' : β → hM γ) (h : hc_H) : hm_bind (hm_bind m k) k' h = hm_bind m (fun a => hm_bind (k a) k') h := by
  unfold hm_bind
  rcases m h with _ | ⟨a, c, s, h1⟩
  · rfl
  · dsimp only
    rcases k a h1 with _ | ⟨b, c2, s2, h2⟩
    · rfl
    · dsimp only
      rcases k' b h2 with _ | ⟨d, c3, s3, h3⟩
      · rfl
      · simp only [Nat.add_assoc]
theorem sfs_len {B : Nat → Int32} {N : Nat} {all : Int32} : ∀ (r f p p' : Nat) (l : List fd_), sfs_ B N all r f p = .inr (l, p') → l.length = r
  | 0, f, p, p', l, h => by cases h; rfl
  | r + 1, f, p, p', l, h => by
    rw [sfs_] at h
    obtain ⟨d, p1, -, h⟩ := sbd_inr h
    obtain ⟨l', p2, h1, h⟩ := sbd_inr h
    cases h
    rw [List.length_cons, sfs_len r (f + 1) p1 _ l' h1]
/-- what readInto leaves: the program at pa has k functions -/
def ri_ (g : hc_H) (rd b lt pa : Nat) (fq : Nat → Option Nat) (r : Option (Unit × Nat × Nat × hc_H)) (e : Int32 × Int32) (k : Nat) (ok : (Nat → fc_) → (Nat → fc_) → Prop) : Prop := ∃ C S H2 fq' FA' FF' p' p1 e1, r = some ((), C, S, rf_em (fns_em H2 fq' FF') rd b lt p' e) ∧ dsR H2 pa k fq' FA' ∧ (∀ i, i < k → ∃ q, fq' i = some q) ∧ (∀ i q, i < 12 → fq i = some q → fq' i = some q) ∧ (∀ i q, i < 12 → fq' i = some q → fq i = some q ∨ g.1 ≤ q) ∧ fsc_ pa (rf_em g rd b lt p1 e1) H2 ∧ C + 1659 * cn_ fq' ≤ 1659 * cn_ fq ∧ S + 1659 * cn_ fq' ≤ 1659 * cn_ fq ∧ ok FA' FF'
section RI2
variable {g : hc_H} {fq : Nat → Option Nat} {rd b lt : Nat} {most rb len N : Nat} {f : Nat → Int32} {pa n : Nat} {FA : Nat → fc_}
abbrev IU_ : Unit → Prop := fun _ => True
abbrev KU_ : Unit → Unit → Prop := fun _ _ => True
def rq1_ (rd : Nat) : hM Int32 := hm_bind (hm_on 6 (some rd) (p_Reader_start (some rd) 71)) fun _ => hm_bind (hm_on 6 (some rd) (p_Reader_start (some rd) 70)) fun _ => hm_bind (hm_on 6 (some rd) (p_Reader_start (some rd) 1)) fun _ => hm_on 6 (some rd) (p_Reader_number (some rd) 1 1 12)
theorem rq1_o (R : brR g b most rb len N f) : ro_ (Ec_ (fun _ : Unit => g) rd b lt) N IU_ KU_ (rq1_ rd) () (s1_ (B_ f) N) (fun v => v) (fun _ => ()) (fun x => x = 1) := by
  have hG : ∀ c : Unit, IU_ c → brR ((fun _ : Unit => g) c) b most rb len N f := fun _ _ => R
  have rfU : ∀ a : Unit, KU_ a a := fun _ => trivial
  have trU : ∀ a b c : Unit, KU_ a b → KU_ b c → KU_ a c := fun _ _ _ _ _ => trivial
  have nu : rt_ (Ec_ (fun _ : Unit => g) rd b lt) IU_ KU_ (hm_on 6 (some rd) (p_Reader_number (some rd) 1 1 12)) (fun x => x = 1) := rt_on (fun _ _ _ => rf_on _ _ _ _ _ _ _) (ct_number (fun _ : Unit => g) rd b lt most rb len N f hG rfU trU 1 (by omega) 1 12)
  have st : ∀ due, rt_ (Ec_ (fun _ : Unit => g) rd b lt) IU_ KU_ (hm_on 6 (some rd) (p_Reader_start (some rd) due)) (fun _ => True) := fun due => rt_on (fun _ _ _ => rf_on _ _ _ _ _ _ _) (ct_start (fun _ : Unit => g) rd b lt most rb len N f hG rfU due)
  have so : ∀ due, ro_ (Ec_ (fun _ : Unit => g) rd b lt) N IU_ KU_ (hm_on 6 (some rd) (p_Reader_start (some rd) due)) () (sst_ (B_ f) N due) (fun v => v) (fun _ => ()) (fun _ => True) := fun due => ro_on (fun _ _ _ => rf_on _ _ _ _ _ _ _) (co_start (fun _ : Unit => g) rd b lt most rb len N f hG rfU () trivial due)
  refine ro_bind trU (so 71) (fun _ _ _ _ => ?_) (fun _ _ => rt_bind trU (st 70) (fun _ _ => rt_bind trU (st 1) (fun _ _ => nu)))
  refine ro_bind trU (so 70) (fun _ _ _ _ => ?_) (fun _ _ => rt_bind trU (st 1) (fun _ _ => nu))
  refine ro_bind trU (so 1) (fun _ _ _ _ => ?_) (fun _ _ => nu)
  exact ro_on (fun _ _ _ => rf_on _ _ _ _ _ _ _) (co_number (fun _ : Unit => g) rd b lt most rb len N f hG rfU trU () trivial 1 (by omega) 1 12)
theorem s_readInto (h6 : g.2.2.2 6 rd = some [vr_ (some b), vr_ (some lt), vi_ 0]) (h2 : g.2.2.2 2 lt = some [vi_ 0, vi_ (-1)]) (R : brR g b most rb len N f) (D : dsR g pa n fq FA) :
    match spg_ (B_ f) N 0 with
    | .inl e => 0 < e.1 ∧ ∃ k, 1 ≤ k ∧ k ≤ 12 ∧ ri_ g rd b lt pa fq (p_Reader_readInto (some rd) (some pa) g) e k (fun _ _ => True)
    | .inr ((np, l), _) => ∃ k, 1 ≤ k ∧ k ≤ 12 ∧ np = nI k ∧ l.length = k ∧ ri_ g rd b lt pa fq (p_Reader_readInto (some rd) (some pa) g) (0, -1) k (fun FA' FF' => FF' = cfs_ FA' 0 l) := by
  have self : rf_em g rd b lt (nI 0) (0, -1) = g := rf_self (ft := (0, -1)) h6 h2
  have start : p_Reader_readInto (some rd) (some pa) g = hm_bind (rq1_ rd) (fun a1 => hm_bind (hm_on 5 (some pa) (p_Program_setCount (some pa) a1)) fun _ => p_Reader_readInto_31 (some rd) (some pa) (e3_ rd) hm_fuel 0) (rf_em g rd b lt (nI 0) (0, -1)) := by
    have e1 : p_Reader_readInto (some rd) (some pa) (rf_em g rd b lt (nI 0) (0, -1)) = hm_bind (rq1_ rd) (fun a1 => hm_bind (hm_on 5 (some pa) (p_Program_setCount (some pa) a1)) fun _ => p_Reader_readInto_31 (some rd) (some pa) (e3_ rd) hm_fuel 0) (rf_em g rd b lt (nI 0) (0, -1)) := by
      rw [p_Reader_readInto, rq1_, bd_as]
      congr 1
      funext _
      funext H
      rw [bd_as]
      congr 1
      funext _
      funext H
      rw [bd_as]
      rfl
    exact (congrArg (p_Reader_readInto (some rd) (some pa)) self.symm).trans e1
  have go : ∀ (k : Nat) (p1 : Int32) (e1 : Int32 × Int32), k ≤ 12 → ∃ C S H2 fq' FA', hm_bind (hm_on 5 (some pa) (p_Program_setCount (some pa) (nI k))) (fun _ => p_Reader_readInto_31 (some rd) (some pa) (e3_ rd) hm_fuel 0) (rf_em g rd b lt p1 e1) = hm_tk C S (p_Reader_readInto_31 (some rd) (some pa) (e3_ rd) hm_fuel 0 (Ep_ H2 fq' rd b lt FA' p1 e1)) ∧ dsR H2 pa k fq' FA' ∧ (∀ i, i < k → ∃ q, fq' i = some q) ∧ (∀ i q, i < 12 → fq i = some q → fq' i = some q) ∧ (∀ i q, i < 12 → fq' i = some q → fq i = some q ∨ g.1 ≤ q) ∧ fsc_ pa (rf_em g rd b lt p1 e1) H2 ∧ C + 1659 * cn_ fq' ≤ 1659 * cn_ fq ∧ S + 1659 * cn_ fq' ≤ 1659 * cn_ fq := by
    intro k p1 e1 hk
    have D1 := dsR_rf D rd b lt p1 e1
    obtain ⟨C, S, H2, fq', FA', c1, c2, c3, c4, c5, c6, c7, c8⟩ := s_setCount D1 hk
    have o6 : H2.2.2.2 6 rd = some [vr_ (some b), vr_ (some lt), vi_ p1] := (c6.2.2.2 6 rd (Or.inl (by decide))).trans (rf_o g rd b lt p1 e1)
    have o2 : H2.2.2.2 2 lt = some [vi_ e1.1, vi_ e1.2] := (c6.2.2.2 2 lt (Or.inl (by decide))).trans (rf_f g rd b lt p1 e1)
    have s1 : fns_em H2 fq' FA' = H2 := fns_self (fun i q hi e => (c2.2.2 i q hi e).1)
    refine ⟨C, S, H2, fq', FA', ?_, c2, c3, fun i q hi e => (c4 i q hi e).1, c5, c6, c7, c8⟩
    rw [pr_on D1.1, bd_ok c1]
    show _ = hm_tk C S (p_Reader_readInto_31 (some rd) (some pa) (e3_ rd) hm_fuel 0 (rf_em (fns_em H2 fq' FA') rd b lt p1 e1))
    rw [s1, rf_self o6 o2]
  have k1 := rq1_o (rd := rd) (lt := lt) R 0 (0, -1) (Nat.zero_le _) rfl
  rw [start, spg_12]
  unfold sbd_
  cases es : s1_ (B_ f) N 0 with
  | inl e =>
    rw [es] at k1
    obtain ⟨he, v, cu, p', hv, -, -, k4⟩ := k1
    subst hv
    refine ⟨he, 1, by omega, by omega, ?_⟩
    obtain ⟨C, S, H2, fq', FA', c1, c2, c3, c4, c5, c6, c7, c8⟩ := go 1 p' e (by omega)
    have R2 : brR H2 b most rb len N f := brR_fsc (brR_rf R rd lt p' e) c6
    obtain ⟨_, FF', p2, -, -, -, d4⟩ := l36_t rd b lt c2.1 0 (e3_t rd b lt R2) 999999 FA' p' e trivial he
    refine ⟨C, S, H2, fq', FA', FF', p2, p', e, ?_, c2, c3, c4, c5, c6, c7, c8, trivial⟩
    have k4 : rq1_ rd (rf_em g rd b lt (nI 0) (0, -1)) = some (1, 0, 0, rf_em g rd b lt p' e) := k4
    rw [bd_0 k4]
    refine Eq.trans c1 ?_
    have d4 : p_Reader_readInto_31 (some rd) (some pa) (e3_ rd) hm_fuel 0 (Ep_ H2 fq' rd b lt FA' p' e) = _ := d4
    rw [d4, hm_tk_some, Nat.add_zero, Nat.add_zero]
  | inr x =>
    obtain ⟨np, p1⟩ := x
    rw [es] at k1
    obtain ⟨hp1, -, -, k4⟩ := k1
    obtain ⟨k, hk1, hk12, rfl⟩ := s1_np es
    have k4 : rq1_ rd (rf_em g rd b lt (nI 0) (0, -1)) = some (nI k, 0, 0, rf_em g rd b lt (nI p1) (0, -1)) := k4
    rw [bd_0 k4]
    obtain ⟨C, S, H2, fq', FA', c1, c2, c3, c4, c5, c6, c7, c8⟩ := go k (nI p1) (0, -1) hk12
    have R2 : brR H2 b most rb len N f := brR_fsc (brR_rf R rd lt (nI p1) (0, -1)) c6
    have lo := l36_o rd b lt R2 c2.2.1 c2.1 hk12 c3 (e3_t rd b lt R2) (T := fun l => sbd_ (sen_ N) fun _ => sre_ (nI k, l)) (upd := fun d => cfs_ FA' 0 d.2) k hm_fuel FA' (Nat.le_refl _) (by unfold hm_fuel; omega) (fun l hl => by
      rw [Nat.sub_self]
      exact e3_o rd b lt R2 _ rfl) p1 (0, -1) hp1 rfl
    rw [Nat.sub_self] at lo
    have lo : rr_ (Ep_ H2 fq' rd b lt) N ITF_ KTF_ FA' (p_Reader_readInto_31 (some rd) (some pa) (e3_ rd) hm_fuel 0 (Ep_ H2 fq' rd b lt FA' (nI p1) (0, -1))) (0, -1) (sbd_ (sfs_ (B_ f) N (nI k) k 0) (fun l => sbd_ (sen_ N) fun _ => sre_ (nI k, l)) p1) (fun _ => ()) (fun d => cfs_ FA' 0 d.2) (fun _ => True) := lo
    show match s2_ (B_ f) N (nI k) p1 with | .inl e => _ | .inr ((np, l), _) => _
    have e2 : s2_ (B_ f) N (nI k) p1 = sbd_ (sfs_ (B_ f) N (nI k) k 0) (fun l => sbd_ (sen_ N) fun _ => sre_ (nI k, l)) p1 := by
      rw [s2_, nI_clamp (by omega)]
    rw [← e2] at lo
    cases e3 : s2_ (B_ f) N (nI k) p1 with
    | inl e =>
      rw [e3] at lo
      obtain ⟨he, _, FF', p2, -, -, -, d4⟩ := lo
      refine ⟨he, k, hk1, hk12, C, S, H2, fq', FA', FF', p2, nI p1, (0, -1), ?_, c2, c3, c4, c5, c6, c7, c8, trivial⟩
      refine Eq.trans c1 ?_
      rw [d4, hm_tk_some, Nat.add_zero, Nat.add_zero]
    | inr x =>
      obtain ⟨⟨np, l⟩, p2⟩ := x
      rw [e3] at lo
      obtain ⟨-, -, -, d4⟩ := lo
      rw [e2] at e3
      obtain ⟨l', p3, h1, h3⟩ := sbd_inr e3
      obtain ⟨_, p4, -, h4⟩ := sbd_inr h3
      cases h4
      refine ⟨k, hk1, hk12, rfl, sfs_len k 0 p1 p3 l h1, C, S, H2, fq', FA', cfs_ FA' 0 l, nI p2, nI p1, (0, -1), ?_, c2, c3, c4, c5, c6, c7, c8, rfl⟩
      refine Eq.trans c1 ?_
      rw [d4, hm_tk_some, Nat.add_zero, Nat.add_zero]
end RI2
