/-! THE CLASS READS A PROGRAM as the specification says -/
def cfs_ : (Nat → fc_) → Nat → List fd_ → (Nat → fc_)
  | FF, _, [] => FF
  | FF, i, d :: l => cfs_ (va_up FF i (cfu_ (FF i) d)) (i + 1) l
def e3_ (rd : Nat) : hM Unit := hm_bind (hm_geti 6 2 (some rd)) fun a13 => hm_bind (hm_getr 6 0 (some rd)) fun a14 => hm_bind (hm_geti 1 2 a14) fun a15 => if a15 ≤ a13 then hm_ret () else hm_bind (hm_getr 6 1 (some rd)) fun a16 => hm_bind (hm_geti 6 2 (some rd)) fun a17 => hm_bind (hm_on 2 a16 (p_Fault_tell a16 4 a17)) fun _ => hm_ret ()
section RIN
variable {g : hc_H} {fq : Nat → Option Nat} (rd b lt : Nat) {most rb len N : Nat} {f : Nat → Int32} {pa n : Nat}
theorem e3_t (R : brR g b most rb len N f) : rt_ (Ep_ g fq rd b lt) ITF_ KTF_ (e3_ rd) (fun _ => True) := by
  intro FF p ft _ hf
  have RE := brR_rf (brR_fns (fq := fq) R FF) rd lt p ft
  refine ⟨(), FF, p, trivial, trivial, trivial, ?_⟩
  rw [e3_, rf_get2, rf_ref0, br_get2 RE, ev_ite]
  split
  · rw [ev_ret]
  · rw [rf_ref1, rf_get2, rf_onf, bd_0 (rf_tell _ _ _ _ _ _ _ _), if_neg (lt_ne hf), ev_ret]
theorem e3_o (R : brR g b most rb len N f) (FF : Nat → fc_) {δ : Type} {d : δ} {upd : δ → Nat → fc_} (hu : upd d = FF) : ro_ (Ep_ g fq rd b lt) N ITF_ KTF_ (e3_ rd) FF (sbd_ (sen_ N) fun _ => sre_ d) (fun _ => ()) upd (fun _ => True) := by
  intro p ft hp hf
  have RE := brR_rf (brR_fns (fq := fq) R FF) rd lt (nI p) ft
  have hN : N ≤ 30000 := by have := R.2.2.1; have := R.2.2.2.1; have := R.2.2.2.2.2.1; omega
  unfold sbd_ sen_
  rw [e3_, rf_get2, rf_ref0, br_get2 RE, ev_ite]
  by_cases c : p < N
  · rw [if_pos c, if_neg (nI_ge c (by omega)), rf_ref1, rf_get2, rf_onf, bd_0 (rf_tell _ _ _ _ _ _ _ _), if_pos hf, ev_ret]
    exact ⟨(by decide : (0 : Int32) < 4), (), FF, _, trivial, trivial, trivial, rfl⟩
  · rw [if_neg c, if_pos (nI_le (by omega) (by omega)), ev_ret]
    refine ⟨hp, trivial, trivial, ?_⟩
    rw [hu]
theorem l36_t (RP : prR g pa n fq) (x : Int32) {kx : hM Unit} (hk : rt_ (Ep_ g fq rd b lt) ITF_ KTF_ kx (fun _ => True)) (fu : Nat) : rt_ (Ep_ g fq rd b lt) ITF_ KTF_ (p_Reader_readInto_31 (some rd) (some pa) kx (fu + 1) x) (fun _ => True) := by
  refine rt_pre2 ktf_tr (ι := Unit) (m' := fun _ => kx) (fun FF p ft _ hf => ⟨(), FF, trivial, trivial, ?_⟩) (fun _ => hk)
  rw [p_Reader_readInto_31, pr_get1 (pe_pr rd b lt RP FF p ft), ev_ite]
  split
  · rfl
  · rw [rf_ref1, rf_fk, ev_ite, if_neg (lt_ne hf)]
theorem l36_o (R : brR g b most rb len N f) (dj : dj_ fq) (RP : prR g pa n fq) (hn : n ≤ 12) (hs : ∀ i, i < n → ∃ q, fq i = some q) {kx : hM Unit} (hk : rt_ (Ep_ g fq rd b lt) ITF_ KTF_ kx (fun _ => True)) {δ : Type} {T : List fd_ → rs_ δ} {upd : δ → Nat → fc_} : ∀ (r fu : Nat) (FF : Nat → fc_), r ≤ n → r < fu → (∀ l, l.length = r → ro_ (Ep_ g fq rd b lt) N ITF_ KTF_ kx (cfs_ FF (n - r) l) (T l) (fun _ => ()) upd (fun _ => True)) → ro_ (Ep_ g fq rd b lt) N ITF_ KTF_ (p_Reader_readInto_31 (some rd) (some pa) kx fu (nI (n - r))) FF (sbd_ (sfs_ (B_ f) N (nI n) r (n - r)) T) (fun _ => ()) upd (fun _ => True) := by
  intro r
  induction r generalizing T with
  | zero =>
    intro fu FF _ hfu hT
    obtain ⟨u, rfl⟩ : ∃ u, fu = u + 1 := ⟨fu - 1, by omega⟩
    refine ro_pre0 ktf_tr (c' := FF) (m' := kx) trivial (fun p ft _ => ?_) (hT [] rfl)
    rw [p_Reader_readInto_31, pr_get1 (pe_pr rd b lt RP FF p ft), ev_ite, if_pos (nI_le (by omega) (by omega))]
  | succ r ih =>
    intro fu FF hr hfu hT
    obtain ⟨u, rfl⟩ : ∃ u, fu = u + 1 := ⟨fu - 1, by omega⟩
    obtain ⟨u, rfl⟩ : ∃ k, u = k + 1 := ⟨u - 1, by omega⟩
    have hi : n - (r + 1) < 12 := by omega
    obtain ⟨q, hq⟩ := hs (n - (r + 1)) (by omega)
    have tL := l36_t rd b lt RP (nI (n - r)) hk u
    refine ro_pre0 ktf_tr (c' := FF) (m' := hm_bind (hm_on 6 (some rd) (p_Reader_head (some rd) (some q) (if n - (r + 1) = 0 then 1 else 0))) fun _ => w2_ rd pa (n - (r + 1)) (p_Reader_readInto_31 (some rd) (some pa) kx (u + 1) (nI (n - r)))) trivial (fun p ft hf => ?_) ?_
    · have PE := pe_pr rd b lt RP FF p ft
      rw [p_Reader_readInto_31, pr_get1 PE, ev_ite, if_neg (nI_ge (by omega) (by omega)), rf_ref1, rf_fk, ev_ite, if_pos hf, pr_ref0 PE, pr_qld PE _ hi, hq]
      simp only [hm_jn]
      rw [nI_1, show n - (r + 1) + 1 = n - r by omega]
      by_cases c : n - (r + 1) = 0
      · rw [if_pos c, if_pos (by rw [c]; rfl)]; rfl
      · rw [if_neg c, if_neg (nI_ne0 (by omega) (by omega))]; rfl
    · have key := w1_o rd b lt R dj RP hi hq tL FF (T := fun d => sbd_ (sfs_ (B_ f) N (nI n) r (n - r)) fun l => T (d :: l)) (upd := upd) (fun d => ?_)
      · refine ro_eq key (fun p => ?_)
        rw [sfs_, sbd_as, show n - (r + 1) + 1 = n - r by omega]
        refine sbd_c _ (fun o p => ?_) p
        rw [sbd_as]
        exact sbd_c _ (fun l p => rfl) p
      · refine ih (u + 1) _ (by omega) (by omega) (fun l hl => ?_)
        have := hT (d :: l) (by rw [List.length_cons, hl])
        rw [cfs_, show n - (r + 1) + 1 = n - r by omega] at this
        exact this
end RIN
def s1_ (B : Nat → Int32) (N : Nat) : rs_ Int32 := sbd_ (sst_ B N 71) fun _ => sbd_ (sst_ B N 70) fun _ => sbd_ (sst_ B N 1) fun _ => nn_ B N 1 1 12
def s2_ (B : Nat → Int32) (N : Nat) (np : Int32) : rs_ (Int32 × List fd_) := sbd_ (sfs_ B N np np.toNatClampNeg 0) fun l => sbd_ (sen_ N) fun _ => sre_ (np, l)
theorem spg_12 (B : Nat → Int32) (N p : Nat) : spg_ B N p = sbd_ (s1_ B N) (s2_ B N) p := by
  rw [spg_, s1_, sbd_as]
  refine sbd_c _ (fun _ p => ?_) p
  rw [sbd_as]
  refine sbd_c _ (fun _ p => ?_) p
  rw [sbd_as]
  exact sbd_c _ (fun _ p => rfl) p
theorem s1_np {B : Nat → Int32} {N p p' : Nat} {np : Int32} (h : s1_ B N p = .inr (np, p')) : ∃ n, 1 ≤ n ∧ n ≤ 12 ∧ np = nI n := by
  unfold s1_ at h
  obtain ⟨_, p1, -, h⟩ := sbd_inr h
  obtain ⟨_, p2, -, h⟩ := sbd_inr h
  obtain ⟨_, p3, -, h⟩ := sbd_inr h
  have := nn_in h
  obtain ⟨n, hn, rfl⟩ : ∃ n, n ≤ 12 ∧ np = nI n := nI_of2 (M := 12) (n := 12) (by decide) (fun z => this.1 (Int32.lt_trans z (by decide))) (Int32.not_lt.mp this.2)
  refine ⟨n, ?_, hn, rfl⟩
  rcases Nat.eq_zero_or_pos n with z | z
  · subst z; exact absurd (by decide : nI 0 < 1) this.1
  · exact z
theorem rf_self {g : hc_H} {rd b lt : Nat} {p : Int32} {ft : Int32 × Int32} (h1 : g.2.2.2 6 rd = some [vr_ (some b), vr_ (some lt), vi_ p]) (h2 : g.2.2.2 2 lt = some [vi_ ft.1, vi_ ft.2]) : rf_em g rd b lt p ft = g := by
  refine hc_ext rfl (fun _ _ => rfl) (fun _ _ => rfl) (fun k a => ?_)
  simp only [rf_em]
  split
  · next z => rw [z.1, z.2, h1]
  · split
    · next z => rw [z.1, z.2, h2]
    · rfl
theorem dsR_rf {g : hc_H} {a n : Nat} {fq : Nat → Option Nat} {FA : Nat → fc_} (D : dsR g a n fq FA) (rd b lt : Nat) (p : Int32) (ft : Int32 × Int32) : dsR (rf_em g rd b lt p ft) a n fq FA := ⟨prR_rf D.1 _ _ _ _ _, D.2.1, fun f q hf e => ⟨fnR_rf (D.2.2 f q hf e).1 _ _ _ _ _, (D.2.2 f q hf e).2⟩⟩
theorem dsR_fns {g : hc_H} {a n : Nat} {fq : Nat → Option Nat} {FA : Nat → fc_} (D : dsR g a n fq FA) (FF : Nat → fc_) : dsR (fns_em g fq FF) a n fq FF := ⟨prR_fns D.1 FF, D.2.1, fun f q hf e => ⟨fns_R D.2.1 hf e, (D.2.2 f q hf e).2⟩⟩
theorem brR_fsc {H H' : hc_H} {a b most rb len N : Nat} {f : Nat → Int32} (R : brR H b most rb len N f) (h : fsc_ a H H') : brR H' b most rb len N f := by
  refine ⟨?_, ?_, R.2.2.1, R.2.2.2.1, R.2.2.2.2.1, R.2.2.2.2.2.1, Nat.lt_of_lt_of_le R.2.2.2.2.2.2 h.1⟩
  · rw [h.2.2.2 1 b (Or.inl (by decide))]; exact R.1
  · rw [h.2.1 7 rb (Or.inl (by decide))]; exact R.2.1
