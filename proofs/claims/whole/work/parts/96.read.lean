/-! CALL: read -/
theorem bk13 {j : Nat} (h : j < 6) : bk_ (13 + j) = 12 := by
  unfold bk_
  rw [if_neg (by omega), if_pos (by omega)]
theorem bk21 {j : Nat} (h : j < 5) : bk_ (21 + j) = 72 := by
  unfold bk_
  rw [if_neg (by omega), if_neg (by omega), if_neg (by omega), if_pos (by omega)]
theorem bk19 {k : Nat} (h : k = 19 ∨ k = 20 ∨ k = 26 ∨ k = 27) : bk_ k = 4800 := by
  rcases h with rfl | rfl | rfl | rfl <;> rfl
theorem cpb_13 (ar : Nat → Nat → Int32) (s d : Nat) {j g : Nat} (hj : j < 6) (hg : g < 12) : cpb_ ar s d (13 + j) (12 * d + g) = ar (13 + j) (12 * s + g) := by
  have := cpb_at ar s d (k := 13 + j) (j := g) (by omega) (by omega) (by rw [bk13 hj]; exact hg)
  rw [bk13 hj] at this
  rw [this, an_, if_neg (by omega)]
theorem cpb_19 (ar : Nat → Nat → Int32) (s d : Nat) {k x : Nat} (hk : k = 19 ∨ k = 20 ∨ k = 26 ∨ k = 27) (hx : x < 4800) : cpb_ ar s d k (4800 * d + x) = ar k (4800 * s + x) := by
  have := cpb_at ar s d (k := k) (j := x) (by omega) (by omega) (by rw [bk19 hk]; exact hx)
  rw [bk19 hk] at this
  rw [this, an_, if_neg (by omega)]
theorem cpb_21 (ar : Nat → Nat → Int32) (s d : Nat) {j x : Nat} (hj : j < 5) (hx : x < 72) : cpb_ ar s d (21 + j) (72 * d + x) = an_ (21 + j) (ar (21 + j) (72 * s + x)) := by
  have := cpb_at ar s d (k := 21 + j) (j := x) (by omega) (by omega) (by rw [bk21 hj]; exact hx)
  rw [bk21 hj] at this
  exact this
theorem agf_cp {F : fc_} {ar : Nat → Nat → Int32} {s d g n hn : Nat} (h : agf_ F ar s g n hn) (hg : g < 12) (h4 : n ≤ 400) (h6 : hn ≤ 6) (ha : anyb_ F hn) : agf_ F (cpb_ ar s d) d g n hn := by
  obtain ⟨k1, k2, k3⟩ := h
  refine ⟨fun j hj => ?_, fun i hi => ?_, fun k hk j hj => ?_⟩
  · rw [cpb_13 ar s d hj hg]; exact k1 j hj
  · rw [Nat.add_assoc, cpb_19 ar s d (by omega) (by omega), cpb_19 ar s d (by omega) (by omega), ← Nat.add_assoc]; exact k2 i hi
  · rw [Nat.add_assoc, cpb_21 ar s d hj (by omega), ← Nat.add_assoc]
    have := k3 k hk j hj
    by_cases c : j = 3
    · subst c
      rw [an_, if_pos rfl, ← this]
      rcases ha k hk with z | z <;> rw [z] <;> decide
    · rw [an_, if_neg (by omega)]; exact this
theorem vok_cp {F : fc_} {ar : Nat → Nat → Int32} {s d g n : Nat} (h : vok_ F ar s g n) (hg : g < 12) (h4 : n ≤ 400) : vok_ F (cpb_ ar s d) d g n := by
  intro i hi
  obtain ⟨k1, k2, k3⟩ := h i hi
  refine ⟨?_, ?_, k3⟩
  · rw [Nat.add_assoc, cpb_19 ar s d (by omega) (by omega), ← Nat.add_assoc]; exact k1
  · rw [Nat.add_assoc, cpb_19 ar s d (by omega) (by omega), ← Nat.add_assoc]; exact k2
theorem rel_sb0 {cb : Nat} {f : Nat → Int32} {cw : Nat} {fw : Nat → Int32} {ft : Int32 × Int32} {na : Nat} {FA : Nat → fc_} {sc sc' : Nat → Int32} {ar ar' : Nat → Nat → Int32} (h : rel_ cb f cw fw ft na FA sc ar) (hs : sb0_ ar ar') (hna : na ≤ 12) (h2 : sc' 2 = sc 2) (h4 : sc' 4 = sc 4) {ft' : Int32 × Int32} (h5 : sc' 5 = ft'.1) (h6 : sc' 6 = ft'.2) : rel_ cb f cw fw ft' na FA sc' ar' := by
  obtain ⟨r1, r2, r3, r4, r5, r6, r7, r8, r9⟩ := h
  refine ⟨h2.trans r1, by rw [hs.1 10 (by omega)]; exact r2, h4.trans r3, r4, by rw [hs.1 11 (by omega)]; exact r5, h5, h6, by rw [hs.2 12 0 (by omega) (by decide)]; exact r8, fun g hg => ?_⟩
  obtain ⟨n, hn, q1, q2, qa, q3⟩ := r9 g hg
  have n4 := q1.2.2.1
  have n6 := q1.2.2.2.2.1
  refine ⟨n, hn, q1, ⟨fun j hj => ?_, fun i hi => ?_, fun k hk j hj => ?_⟩, qa, fun i hi => ?_⟩
  · rw [hs.2 (13 + j) _ (by omega) (by rw [bk13 hj]; omega)]; exact q2.1 j hj
  · rw [hs.2 19 _ (by omega) (by rw [bk19 (by omega)]; omega), hs.2 20 _ (by omega) (by rw [bk19 (by omega)]; omega)]; exact q2.2.1 i hi
  · rw [hs.2 (21 + j) _ (by omega) (by rw [bk21 hj]; omega)]; exact q2.2.2 k hk j hj
  · rw [hs.2 26 _ (by omega) (by rw [bk19 (by omega)]; omega), hs.2 27 _ (by omega) (by rw [bk19 (by omega)]; omega)]; exact q3 i hi
theorem ri_fz {g H2 : hc_H} {rd b lt pa : Nat} {p1 : Int32} {e1 : Int32 × Int32} (c6 : fsc_ pa (rf_em g rd b lt p1 e1) H2) (fq' : Nat → Option Nat) (FF' : Nat → fc_) (p' : Int32) (e : Int32 × Int32) : fz_ pa fq' g (rf_em (fns_em H2 fq' FF') rd b lt p' e) := fz_tr (fz_rf0 g rd b lt p1 e1) (fz_tr (fz_fsc c6) (fz_tr (fz_fns H2 FF') (fz_rf0 _ rd b lt p' e)))
theorem fl_0 {β : Type} {H : hc_H} {lt : Nat} {x y : Int32} (h : H.2.2.2 2 lt = some [vi_ x, vi_ y]) (k : Int32 → hM β) : hm_bind (hm_geti 2 0 (some lt)) k H = k x H := by
  rw [bd_geti, ev_fld, h]; rfl
theorem rf_k (g : hc_H) (rd b lt : Nat) (p : Int32) (ft : Int32 × Int32) {k : Nat} (h : k ≠ 6 ∧ k ≠ 2) (a : Nat) : (rf_em g rd b lt p ft).2.2.2 k a = g.2.2.2 k a := by
  simp only [rf_em]; rw [if_neg (by omega), if_neg (by omega)]
def kxr_ (sb : Nat) : hM Int32 := hm_bind (hm_getr 0 2 (some sb)) fun a10 => hm_bind (hm_geti 2 0 a10) fun a11 => hm_jn (hm_bind (hm_getr 0 2 (some sb)) fun a12 => hm_bind (hm_geti 2 0 a12) fun a13 => hm_ret a13) fun k87 => if a11 = 0 then (hm_bind (hm_getr 0 4 (some sb)) fun a14 => hm_bind (hm_getr 0 5 (some sb)) fun a15 => hm_bind (hm_putr 0 4 (some sb) a15) fun _ => hm_bind (hm_putr 0 5 (some sb) a14) fun _ => k87) else k87
def kxm_ (m : Nat) : hM Int32 := hm_bind (hm_geti 8 7 (some m)) fun a4 => hm_jn (hm_bind (hm_on 8 (some m) (p_Mo_told (some m))) fun a5 => hm_ret a5) fun k53 => if a4 = 0 then (hm_bind (hm_on 8 (some m) (p_Mo_copyProgram (some m) 1 0)) fun _ => k53) else k53
def swp_ (H : hc_H) (sb b w lt vf A B : Nat) : hc_H := hc_up (hc_up H sb (.inr (.inr (0, [vr_ (some b), vr_ (some w), vr_ (some lt), vr_ (some vf), vr_ (some B), vr_ (some B)])))) sb (.inr (.inr (0, [vr_ (some b), vr_ (some w), vr_ (some lt), vr_ (some vf), vr_ (some B), vr_ (some A)])))
theorem swp_sb (H : hc_H) (sb b w lt vf A B : Nat) : (swp_ H sb b w lt vf A B).2.2.2 0 sb = some [vr_ (some b), vr_ (some w), vr_ (some lt), vr_ (some vf), vr_ (some B), vr_ (some A)] := by
  unfold swp_
  rw [up_o4, if_pos ⟨rfl, rfl⟩]
theorem swp_k (H : hc_H) (sb b w lt vf A B : Nat) {k : Nat} (hk : k ≠ 0) (a : Nat) : (swp_ H sb b w lt vf A B).2.2.2 k a = H.2.2.2 k a := by
  unfold swp_
  rw [up_o4, if_neg (fun z => hk z.1), up_o4, if_neg (fun z => hk z.1)]
/-- a Reader is made for each reading -/
def nrd_ (H : hc_H) (b lt : Nat) : hc_H := oE_ (H.1 + 1, H.2) 6 H.1 [vr_ (some b), vr_ (some lt), vi_ 0]
theorem nrd_6 (H : hc_H) (b lt : Nat) : (nrd_ H b lt).2.2.2 6 H.1 = some [vr_ (some b), vr_ (some lt), vi_ 0] := oE_o _ _ _ _
theorem nrd_k {H : hc_H} {b lt k : Nat} (hk : k ≠ 6) (a : Nat) : (nrd_ H b lt).2.2.2 k a = H.2.2.2 k a := by
  simp only [nrd_, oE_]
  rw [if_neg (fun z => hk z.1)]
theorem fz_nrd {B : Nat} {fq : Nat → Option Nat} (H : hc_H) (b lt : Nat) : fz_ B fq H (nrd_ H b lt) := ⟨Nat.le_succ _, fun _ _ _ => rfl, fun _ _ _ _ _ => rfl, fun _ _ => rfl, fun _ _ _ => rfl, fun k a hk => nrd_k (by omega) a, fun k a hk _ _ => nrd_k (by omega) a, fun a _ => nrd_k (by decide) a⟩
section RDC
variable {H : hc_H} {sb b w lt vf A B : Nat}
theorem nrd_new (cA : clA_ H sb b w lt vf A B) (K : Option Nat → hM Int32) : (hm_bind (hm_new 6 3 [vr_ none, vr_ none, vi_ 0]) fun q2 => hm_bind (hm_getr 0 0 (some sb)) fun a3 => hm_bind (hm_getr 0 2 (some sb)) fun a4 => hm_bind (p_Reader_init (some q2) a3 a4) fun _ => K (some q2)) H = hm_tk 1 3 (K (some H.1) (nrd_ H b lt)) := by
  have o0 : clA_ (oE_ (H.1 + 1, H.2) 6 H.1 [vr_ none, vr_ none, vi_ 0]) sb b w lt vf A B := by
    refine ⟨?_, cA.2⟩
    simp only [oE_]
    rw [if_neg (fun z => by cases z.1)]
    exact cA.1
  have init : p_Reader_init (some H.1) (some b) (some lt) (oE_ (H.1 + 1, H.2) 6 H.1 [vr_ none, vr_ none, vi_ 0]) = some ((), 0, 0, nrd_ H b lt) := by
    rw [p_Reader_init]
    unfold hm_puti hm_putr
    rw [oE_put _ _ _ _ _ _ (Nat.le_of_ble_eq_true rfl), oE_put _ _ _ _ _ _ (Nat.le_of_ble_eq_true rfl), oE_put _ _ _ _ _ _ (Nat.le_of_ble_eq_true rfl), ev_ret]
    rfl
  rw [bd_new, oE_nw, sb_ref0 o0, sb_ref2 o0, bd_0 init]
theorem kxr_f (cA : clA_ H sb b w lt vf A B) {e : Int32 × Int32} (hf : H.2.2.2 2 lt = some [vi_ e.1, vi_ e.2]) (he : ¬ e.1 = 0) : kxr_ sb H = some (e.1, 0, 0, H) := by
  rw [kxr_, sb_ref2 cA, fl_0 hf]
  simp only [hm_jn]
  rw [ev_ite, if_neg he, sb_ref2 cA, fl_0 hf, ev_ret]
theorem kxr_0 (cA : clA_ H sb b w lt vf A B) {e : Int32 × Int32} (hf : H.2.2.2 2 lt = some [vi_ e.1, vi_ e.2]) (he : e.1 = 0) : kxr_ sb H = some (e.1, 0, 0, swp_ H sb b w lt vf A B) := by
  rw [kxr_, sb_ref2 cA, fl_0 hf]
  simp only [hm_jn]
  rw [ev_ite, if_pos he, sb_ref4 cA, sb_ref5 cA, bd_putr, cA.1]
  dsimp only
  rw [if_pos (show 4 < [vr_ (some b), vr_ (some w), vr_ (some lt), vr_ (some vf), vr_ (some A), vr_ (some B)].length from Nat.le_of_ble_eq_true rfl)]
  have e1 : (hc_up H sb (.inr (.inr (0, [vr_ (some b), vr_ (some w), vr_ (some lt), vr_ (some vf), vr_ (some A), vr_ (some B)].set 4 (vr_ (some B)))))).2.2.2 0 sb = some [vr_ (some b), vr_ (some w), vr_ (some lt), vr_ (some vf), vr_ (some B), vr_ (some B)] := by
    rw [up_o4, if_pos ⟨rfl, rfl⟩]; rfl
  rw [bd_putr, e1]
  dsimp only
  rw [if_pos (show 5 < [vr_ (some b), vr_ (some w), vr_ (some lt), vr_ (some vf), vr_ (some B), vr_ (some B)].length from Nat.le_of_ble_eq_true rfl)]
  have cS : clA_ (swp_ H sb b w lt vf A B) sb b w lt vf B A := ⟨swp_sb _ _ _ _ _ _ _ _, cA.2.1, Ne.symm cA.2.2⟩
  have fS : (swp_ H sb b w lt vf A B).2.2.2 2 lt = some [vi_ e.1, vi_ e.2] := by rw [swp_k _ _ _ _ _ _ _ _ (by decide)]; exact hf
  have fin : (hm_bind (hm_getr 0 2 (some sb)) fun a12 => hm_bind (hm_geti 2 0 a12) fun a13 => hm_ret a13) (swp_ H sb b w lt vf A B) = some (e.1, 0, 0, swp_ H sb b w lt vf A B) := by rw [sb_ref2 cS, fl_0 fS, ev_ret]
  exact fin
theorem rd20_f (cA : clA_ H sb b w lt vf A B) {k : Nat} {fq : Nat → Option Nat} (P : prR H B k fq) (hk : 1 ≤ k) (h12 : k ≤ 12) {e : Int32 × Int32} (hf : H.2.2.2 2 lt = some [vi_ e.1, vi_ e.2]) (he : ¬ e.1 = 0) (kx : hM Int32) (u : Nat) : p_SB_read_31 (some sb) kx (u + 1) 0 H = kx H := by
  rw [p_SB_read_31, sb_ref5 cA, pr_get1 P, ev_ite, if_neg (show ¬ nI k ≤ 0 from nI_ge (a := 0) (by omega) (by omega)), sb_ref2 cA, fl_0 hf, ev_ite, if_neg he]
end RDC
def tld_ (sc : Nat → Int32) : Nat → Int32 := va_up (va_up sc 5 (sc 7)) 6 (sc 8)
theorem kxm_f (h : hc_H) (m : Nat) {sc : Nat → Int32} (ar : Nat → Nat → Int32) (he : ¬ sc 7 = 0) : kxm_ m (mo_em h m sc ar) = some (sc 7, 0, 0, mo_em h m (tld_ sc) ar) := by
  rw [kxm_, mo_get7]
  simp only [hm_jn]
  rw [ev_ite, if_neg he, mo_on, bd_0 (s_Mo_told _ _ _ _), ev_ret]
  rfl
theorem kxm_0 (h : hc_H) (m : Nat) {sc : Nat → Int32} (ar : Nat → Nat → Int32) (he : sc 7 = 0) : kxm_ m (mo_em h m sc ar) = some (sc 7, 0, 0, mo_em h m (tld_ sc) (cpb_ ar 1 0)) := by
  have cp : p_Mo_copyProgram (some m) 1 0 (mo_em h m sc ar) = _ := s_Mo_copy h m sc ar (s := 1) (d := 0) (Or.inr ⟨rfl, rfl⟩)
  rw [kxm_, mo_get7]
  simp only [hm_jn]
  rw [ev_ite, if_pos he, mo_on, bd_0 cp, mo_on, bd_0 (s_Mo_told _ _ _ _), ev_ret]
  rfl
theorem cross_new {H : hc_H} {A na : Nat} {fqa fqb fq' : Nat → Option Nat} {FA : Nat → fc_} (D : dsR H A na fqa FA) (hX : cross_ fqa fqb) (h : ∀ i q, i < 12 → fq' i = some q → fqb i = some q ∨ H.1 ≤ q) : cross_ fqa fq' := by
  intro i j q q' hi hj e e'
  rcases h j q' hj e' with z | z
  · exact hX i j q q' hi hj e z
  · exact Or.inl (Nat.le_trans (D.2.2 i q hi e).2 z)
theorem s_Mo_read0 (h : hc_H) (m : Nat) (sc : Nat → Int32) (ar : Nat → Nat → Int32) : p_Mo_read (some m) (mo_em h m sc ar) = hm_bind (p_Mo_readProgram (some m)) (fun _ => p_Mo_read_11 (some m) (kxm_ m) hm_fuel 0) (mo_em h m (va_up sc 0 0) ar) := by
  rw [p_Mo_read, mo_put0, mo_on]
  rfl
theorem call_read (sb m : Nat) : call_ sb m (p_SB_read (some sb)) (p_Mo_read (some m)) := by
  intro H Φ ⟨cb, f, cw, fw, ft, na, FA, sc, ar, hc, hm, hr⟩
  obtain ⟨b, w, lt, vf, A, B, rb, len, rw', lw, fqa, fqb, cA, a5, ⟨ol, pg, fn, sv, av, v1, v2⟩, b1, b2, b3, ⟨D, h12, h1, hs, ⟨nb, FB, DB⟩, hX⟩, c2⟩ := hc
  have hcb : cb ≤ 4096 := Nat.le_trans b1.2.2.1 b1.2.2.2.1
  have hAB := cA.2.2
  have self := vq_self v1 v2 a5
  have ecl := vq_clear H vf lt ol pg fn sv ft av
  rw [self] at ecl
  have cA0 := clA_vq cA lt vf ol pg fn sv (0, -1) av
  have V0 := (vq_V H vf lt ol pg fn sv (0, -1) av).2
  have o0 : (vq_em H vf lt ol pg fn sv (0, -1) av).2.2.2 7 vf = some (vq_fs vf ol pg fn sv) := by
    exact if_pos ⟨rfl, rfl⟩
  have i0 : ∀ k, 4 ≤ k → k ≤ 6 → (vq_em H vf lt ol pg fn sv (0, -1) av).2.1 k (vf + (k - 3)) = some (400, av k) := fun k h1 h2 => by
    exact if_pos ⟨⟨h1, h2⟩, rfl⟩
  have DB0 := dsR_vq DB vf lt ol pg fn sv (0, -1) av
  have z0 : ∀ fq', fz_ B fq' H (vq_em H vf lt ol pg fn sv (0, -1) av) := fun fq' => by
    have := fz_vq (B := B) (fq := fq') (fz_rfl H) vf lt ol pg fn sv ft av ol pg fn sv (0, -1) av
    rw [self] at this
    exact this
  generalize vq_em H vf lt ol pg fn sv (0, -1) av = H0 at ecl cA0 V0 o0 i0 DB0 z0
  have on2 : ∀ k : Unit → hM Int32, hm_bind (hm_on 2 (some lt) (p_Fault_clear (some lt))) k H = k () H0 := by
    intro k
    rw [bd_on, a5]
    exact (if_pos rfl).trans (bd_0 ecl)
  have cA1 : clA_ (nrd_ H0 b lt) sb b w lt vf A B := ⟨by rw [nrd_k (by decide)]; exact cA0.1, cA0.2⟩
  have V1 : (nrd_ H0 b lt).2.2.2 2 lt = some [vi_ 0, vi_ (-1)] := by rw [nrd_k (by decide)]; exact V0
  have o1 : (nrd_ H0 b lt).2.2.2 7 vf = some (vq_fs vf ol pg fn sv) := by rw [nrd_k (by decide)]; exact o0
  have i1 : ∀ k, 4 ≤ k → k ≤ 6 → (nrd_ H0 b lt).2.1 k (vf + (k - 3)) = some (400, av k) := i0
  have z1 : ∀ fq', fz_ B fq' H (nrd_ H0 b lt) := fun fq' => fz_tr (z0 fq') (fz_nrd H0 b lt)
  have DB1 : dsR (nrd_ H0 b lt) B nb fqb FB := dsR_s DB0 (Nat.le_succ _) (fun _ _ _ => rfl) rfl (fun k a hk => nrd_k (by omega) a)
  have h6 := nrd_6 H0 b lt
  have hH1 := (z1 fqb).1
  have start : p_SB_read (some sb) H = hm_tk 1 3 (hm_bind (p_Reader_readInto (some H0.1) (some B)) (fun _ => p_SB_read_31 (some sb) (kxr_ sb) hm_fuel 0) (nrd_ H0 b lt)) := by
    rw [p_SB_read, sb_ref2 cA, on2]
    refine (nrd_new cA0 (fun o => hm_bind (hm_getr 0 5 (some sb)) fun a5 => hm_bind (hm_on 6 o (p_Reader_readInto o a5)) fun _ => p_SB_read_31 (some sb) (kxr_ sb) hm_fuel 0)).trans ?_
    refine congrArg (hm_tk 1 3) ?_
    show hm_bind (hm_getr 0 5 (some sb)) (fun a5 => hm_bind (hm_on 6 (some H0.1) (p_Reader_readInto (some H0.1) a5)) fun _ => p_SB_read_31 (some sb) (kxr_ sb) hm_fuel 0) (nrd_ H0 b lt) = _
    rw [sb_ref5 cA1, bd_on, h6]
    exact (if_pos rfl).trans rfl
  generalize nrd_ H0 b lt = H1 at cA1 V1 o1 i1 z1 DB1 h6 hH1 start
  generalize H0.1 = rd at h6 start
  have R1 := brR_fz b1 (z1 fqb)
  have K := s_readInto h6 V1 R1 DB1
  have eB : spg_ (B_ f) cb = spg_ (ar 10) cb := spg_cg (fun j hj => hr.2.1 j hj)
  rw [eB] at K
  have e2 : va_up sc 0 0 2 = nI cb := by rw [va_up_ne _ _ (by decide)]; exact hr.1
  have M := fun h => s_Mo_readProgram h m (ar 10) e2 hcb ar rfl
  cases eS : spg_ (ar 10) cb 0 with
  | inl e =>
    rw [eS] at K
    obtain ⟨he, k, k1, k12, C, S, H2, fq', FA', FF', p', p1, e1, d1, d2, d3, d4, d5, d6, d7, d8, d9⟩ := K
    have he' : ¬ e.1 = 0 := lt_ne he
    have z3 := ri_fz d6 fq' FF' p' e
    have zz := fz_tr (z1 fq') z3
    have hx : cross_ fqa fq' := cross_new D hX (fun i q hi e => (d5 i q hi e).elim Or.inl (fun z => Or.inr (Nat.le_trans hH1 z)))
    have D3B := dsR_rf (dsR_fns d2 FF') rd b lt p' e
    have cA3 : clA_ (rf_em (fns_em H2 fq' FF') rd b lt p' e) sb b w lt vf A B := ⟨by rw [z3.2.2.2.2.2.1 0 sb (Or.inl rfl)]; exact cA1.1, cA.2.1, hAB⟩
    have hk7 : ∀ a, (rf_em (fns_em H2 fq' FF') rd b lt p' e).2.2.2 7 a = H1.2.2.2 7 a := fun a => by
      rw [rf_k _ _ _ _ _ _ (by decide), fns_k (by decide), d6.2.2.2 7 a (by omega), rf_k _ _ _ _ _ _ (by decide)]
    have hk46 : ∀ k a, 4 ≤ k → (rf_em (fns_em H2 fq' FF') rd b lt p' e).2.1 k a = H1.2.1 k a := fun k a hk => by
      show (fns_em H2 fq' FF').2.1 k a = _
      rw [fns_k1 hk, d6.2.1 k a (Or.inl hk)]; rfl
    have fl := rf_f (fns_em H2 fq' FF') rd b lt p' e
    have E1 : p_SB_read (some sb) H = some (e.1, 1 + C, 3 + S, rf_em (fns_em H2 fq' FF') rd b lt p' e) := by
      rw [start, bd_ok d1, show hm_fuel = 999999 + 1 from rfl, rd20_f cA3 D3B.1 k1 k12 fl he', kxr_f cA3 fl he', hm_tk_some, Nat.add_zero, Nat.add_zero, hm_tk_some]
    have M1 := M (rf_em (fns_em H2 fq' FF') rd b lt p' e)
    rw [eS] at M1
    obtain ⟨-, u0, ar', pm, -, -, m1, m2⟩ := M1
    have E2 : p_Mo_read (some m) (mo_em (rf_em (fns_em H2 fq' FF') rd b lt p' e) m sc ar) = some (e.1, 0, 0, mo_em (rf_em (fns_em H2 fq' FF') rd b lt p' e) m (tld_ (sp_ (va_up sc 0 0) pm e)) ar') := by
      rw [s_Mo_read0, bd_0 m2, show hm_fuel = 999999 + 1 from rfl, p_Mo_read_11, mo_get7, sp_7, ev_ite, if_neg he', kxm_f _ _ _ (by rw [sp_7]; exact he'), sp_7]
    refine fin_ hm (s8_fz zz) (Φ' := Φ - (1659 * cn_ fqb - 1659 * cn_ fq')) (cb := cb) (f := f) (cw := cw) (fw := fw) (ft := e) (na := na) (FA := FA) ⟨b, w, lt, vf, A, B, rb, len, rw', lw, fqa, fq', cA3, fl, ⟨ol, pg, fn, sv, av, by rw [hk7]; exact o1, fun k h1 h2 => by rw [hk46 k _ h1]; exact i1 k h1 h2⟩, brR_fz b1 zz, brR_fz b2 zz, b3, ⟨dsR_fz D zz hAB hx, h12, h1, hs, ⟨k, FF', D3B⟩, hx⟩, by omega⟩ E1 E2 ?_ (by omega) (by omega)
    refine rel_sb0 hr m1 h12 ?_ ?_ ?_ ?_
    · unfold tld_; rw [va_up_ne _ _ (by decide), va_up_ne _ _ (by decide)]; simp [sp_, va_up]
    · unfold tld_; rw [va_up_ne _ _ (by decide), va_up_ne _ _ (by decide)]; simp [sp_, va_up]
    · unfold tld_; rw [va_up_ne _ _ (by decide), va_up_self, sp_7]
    · unfold tld_; rw [va_up_self, sp_8]
  | inr x =>
    obtain ⟨⟨np, l⟩, pE⟩ := x
    rw [eS] at K
    obtain ⟨k, k1, k12, rfl, hl, C, S, H2, fq', FA', FF', p', p1, e1, d1, d2, d3, d4, d5, d6, d7, d8, d9⟩ := K
    have z3 := ri_fz d6 fq' FF' p' (0, -1)
    have hx : cross_ fqa fq' := cross_new D hX (fun i q hi e => (d5 i q hi e).elim Or.inl (fun z => Or.inr (Nat.le_trans hH1 z)))
    have D3B := dsR_rf (dsR_fns d2 FF') rd b lt p' (0, -1)
    have cA3 : clA_ (rf_em (fns_em H2 fq' FF') rd b lt p' (0, -1)) sb b w lt vf A B := ⟨by rw [z3.2.2.2.2.2.1 0 sb (Or.inl rfl)]; exact cA1.1, cA.2.1, hAB⟩
    have hk7 : ∀ a, (rf_em (fns_em H2 fq' FF') rd b lt p' (0, -1)).2.2.2 7 a = H1.2.2.2 7 a := fun a => by
      rw [rf_k _ _ _ _ _ _ (by decide), fns_k (by decide), d6.2.2.2 7 a (by omega), rf_k _ _ _ _ _ _ (by decide)]
    have hk46 : ∀ k a, 4 ≤ k → (rf_em (fns_em H2 fq' FF') rd b lt p' (0, -1)).2.1 k a = H1.2.1 k a := fun k a hk => by
      show (fns_em H2 fq' FF').2.1 k a = _
      rw [fns_k1 hk, d6.2.1 k a (Or.inl hk)]; rfl
    have fl := rf_f (fns_em H2 fq' FF') rd b lt p' (0, -1)
    have self3 := vq_self (H := rf_em (fns_em H2 fq' FF') rd b lt p' (0, -1)) (ft := (0, -1)) (by rw [hk7]; exact o1) (fun k h1 h2 => by rw [hk46 k _ h1]; exact i1 k h1 h2) fl
    -- what is read
    have sfs : ∃ pa pb, sfs_ (ar 10) cb (nI k) k 0 pa = .inr (l, pb) := by
      have eS' := eS
      unfold spg_ at eS'
      obtain ⟨x1, y1, -, eS'⟩ := sbd_inr eS'
      obtain ⟨x2, y2, -, eS'⟩ := sbd_inr eS'
      obtain ⟨x3, y3, -, eS'⟩ := sbd_inr eS'
      obtain ⟨x4, y4, -, eS'⟩ := sbd_inr eS'
      obtain ⟨x5, y5, q5, eS'⟩ := sbd_inr eS'
      obtain ⟨x6, y6, -, eS'⟩ := sbd_inr eS'
      cases eS'
      rw [nI_clamp (by omega)] at q5
      exact ⟨y4, y5, q5⟩
    obtain ⟨pa, pb, sfs⟩ := sfs
    have AG := ag_prog k12 k 0 pa pb l FA' (u2_ ar 12 1 (nI k)) (by omega) sfs (fun g hg => by omega)
    have A3 := a3_prog k12 k 0 pa pb l FA' (by omega) sfs (fun g hg => by omega)
    rw [← d9] at AG A3
    obtain ⟨NN, hN⟩ : ∃ N : Nat → Nat, ∀ g, g < k → ∃ hn, fok_ k (FF' g) (N g) hn ∧ agf_ (FF' g) (mpu_ ar (nI k, l)) 1 g (N g) hn := pick (P := fun g n => ∃ hn, fok_ k (FF' g) n hn ∧ agf_ (FF' g) (mpu_ ar (nI k, l)) 1 g n hn) (fun g hg => AG g (by omega))
    obtain ⟨HN, hH⟩ := pick hN
    have hok := fun g hg => (hH g hg).1
    have hag := fun g hg => (hH g hg).2
    have e12 : mpu_ ar (nI k, l) 12 1 = nI k := by
      unfold mpu_
      rw [mfus_k (by omega), u2_at, if_pos ⟨rfl, rfl⟩]
    have e10 : ∀ j, j < 12 → mpu_ ar (nI k, l) j = ar j := fun j hj => by
      unfold mpu_
      rw [mfus_k (by omega), u2_k _ _ _ (by omega)]
    obtain ⟨ol', pg', fn', sv', av', h', FF2, w1, w2, w3, w4, w5, w6, w7⟩ := vloopC (kx := kxr_ sb) (ar := mpu_ ar (nI k, l)) k12 d3 k hm_fuel (rf_em (fns_em H2 fq' FF') rd b lt p' (0, -1)) FF' ol pg fn sv av (Nat.le_refl _) (by unfold hm_fuel; omega) cA3 D3B hok hag
    rw [Nat.sub_self, self3] at w1
    rw [Nat.sub_self] at w6 w7
    have zz : fz_ B fq' H (vq_em h' vf lt ol' pg' fn' sv' ((vs_ (V_ (mpu_ ar (nI k, l)) NN HN) k 0).getD (0, -1)) av') := by
      have z4 := fz_vq w2 vf lt ol pg fn sv (0, -1) av ol' pg' fn' sv' ((vs_ (V_ (mpu_ ar (nI k, l)) NN HN) k 0).getD (0, -1)) av'
      rw [self3] at z4
      exact fz_tr (z1 fq') (fz_tr z3 z4)
    obtain ⟨V5, F5⟩ := vq_V h' vf lt ol' pg' fn' sv' ((vs_ (V_ (mpu_ ar (nI k, l)) NN HN) k 0).getD (0, -1)) av'
    have cA5 := clA_vq w3 lt vf ol' pg' fn' sv' ((vs_ (V_ (mpu_ ar (nI k, l)) NN HN) k 0).getD (0, -1)) av'
    have D5 := dsR_vq w4 vf lt ol' pg' fn' sv' ((vs_ (V_ (mpu_ ar (nI k, l)) NN HN) k 0).getD (0, -1)) av'
    have D5A := dsR_fz D zz hAB hx
    generalize hH5 : vq_em h' vf lt ol' pg' fn' sv' ((vs_ (V_ (mpu_ ar (nI k, l)) NN HN) k 0).getD (0, -1)) av' = H5 at w1 zz V5 F5 cA5 D5 D5A
    have start2 : p_SB_read (some sb) H = hm_tk 1 3 (hm_tk C S (kxr_ sb H5)) := by
      rw [start, bd_ok d1]
      exact congrArg (hm_tk 1 3) (congrArg (hm_tk C S) w1)
    have refr : ∀ hh, ∃ sc' ar'', p_Mo_read (some m) (mo_em hh m sc ar) = kxm_ m (mo_em hh m sc' ar'') ∧ sc' 7 = ((vs_ (V_ (mpu_ ar (nI k, l)) NN HN) k 0).getD (0, -1)).1 ∧ sc' 8 = ((vs_ (V_ (mpu_ ar (nI k, l)) NN HN) k 0).getD (0, -1)).2 ∧ sc' 2 = sc 2 ∧ sc' 4 = sc 4 ∧ sb0_ ar ar'' ∧ sb1_ (mpu_ ar (nI k, l)) ar'' ∧ (vs_ (V_ (mpu_ ar (nI k, l)) NN HN) k 0 = none → ∀ g, g < k → ∃ s, V_ (mpu_ ar (nI k, l)) NN HN g = .inr s ∧ ∀ j, j < 400 → ar'' 26 (4800 * 1 + 400 * g + j) = s.1 j ∧ ar'' 27 (4800 * 1 + 400 * g + j) = s.2.1 j) := by
      intro hh
      have M1 := M hh
      rw [eS] at M1
      obtain ⟨-, -, m1, m2⟩ := M1
      have m2 : p_Mo_readProgram (some m) (mo_em hh m (va_up sc 0 0) ar) = some ((), 0, 0, mo_em hh m (sp_ (va_up sc 0 0) (nI pE) (0, -1)) (mpu_ ar (nI k, l))) := m2
      obtain ⟨sc', ar'', x1, x2, x3, x4, x5, x6⟩ := vloopM (kx := kxm_ m) (m := m) k12 hok hag e12 hh k hm_fuel (sp_ (va_up sc 0 0) (nI pE) (0, -1)) (mpu_ ar (nI k, l)) (Nat.le_refl _) (by unfold hm_fuel; omega) (sb1_rfl _) (sp_7 _ _ _) (sp_8 _ _ _)
      rw [Nat.sub_self] at x1 x2 x3 x6
      refine ⟨sc', ar'', ?_, x2, x3, ?_, ?_, sb0_sb1 m1 x5, x5, fun z g hg => (x6 z g hg).2 (by omega)⟩
      · rw [s_Mo_read0, bd_0 m2]
        exact x1
      · rw [x4 2 (by omega)]; simp [sp_, va_up]
      · rw [x4 4 (by omega)]; simp [sp_, va_up]
    cases ev : vs_ (V_ (mpu_ ar (nI k, l)) NN HN) k 0 with
    | some e =>
      have he' := w6 e ev
      rw [ev] at F5 refr
      have F5 : H5.2.2.2 2 lt = some [vi_ e.1, vi_ e.2] := F5
      obtain ⟨sc', ar'', y1, y2, y3, y4, y5, y6, y7, y8⟩ := refr H5
      have y2 : sc' 7 = e.1 := y2
      have y3 : sc' 8 = e.2 := y3
      have E1 : p_SB_read (some sb) H = some (e.1, 1 + C, 3 + S, H5) := by
        rw [start2, kxr_f cA5 F5 he', hm_tk_some, Nat.add_zero, Nat.add_zero, hm_tk_some]
      have E2 : p_Mo_read (some m) (mo_em H5 m sc ar) = some (e.1, 0, 0, mo_em H5 m (tld_ sc') ar'') := by
        rw [y1, kxm_f _ _ _ (by rw [y2]; exact he'), y2]
      refine fin_ hm (s8_fz zz) (Φ' := Φ - (1659 * cn_ fqb - 1659 * cn_ fq')) (cb := cb) (f := f) (cw := cw) (fw := fw) (ft := e) (na := na) (FA := FA) ⟨b, w, lt, vf, A, B, rb, len, rw', lw, fqa, fq', cA5, F5, V5, brR_fz b1 zz, brR_fz b2 zz, b3, ⟨D5A, h12, h1, hs, ⟨k, FF2, D5⟩, hx⟩, by omega⟩ E1 E2 ?_ (by omega) (by omega)
      refine rel_sb0 hr y6 h12 ?_ ?_ ?_ ?_
      · unfold tld_; rw [va_up_ne _ _ (by decide), va_up_ne _ _ (by decide)]; exact y4
      · unfold tld_; rw [va_up_ne _ _ (by decide), va_up_ne _ _ (by decide)]; exact y5
      · unfold tld_; rw [va_up_ne _ _ (by decide), va_up_self]; exact y2
      · unfold tld_; rw [va_up_self]; exact y3
    | none =>
      rw [ev] at F5 refr
      have F5 : H5.2.2.2 2 lt = some [vi_ (0 : Int32), vi_ (-1)] := F5
      obtain ⟨sc', ar'', y1, y2, y3, y4, y5, y6, y7, y8⟩ := refr (swp_ H5 sb b w lt vf A B)
      have y2 : sc' 7 = 0 := y2
      have y3 : sc' 8 = -1 := y3
      have E1 : p_SB_read (some sb) H = some (0, 1 + C, 3 + S, swp_ H5 sb b w lt vf A B) := by
        rw [start2, kxr_0 (e := (0, -1)) cA5 F5 rfl, hm_tk_some, Nat.add_zero, Nat.add_zero, hm_tk_some]
      have E2 : p_Mo_read (some m) (mo_em (swp_ H5 sb b w lt vf A B) m sc ar) = some (0, 0, 0, mo_em (swp_ H5 sb b w lt vf A B) m (tld_ sc') (cpb_ ar'' 1 0)) := by
        rw [y1, kxm_0 _ _ _ y2, y2]
      have sk := fun k (hk : k ≠ 0) a => swp_k H5 sb b w lt vf A B hk a
      have s8 : s8_ H (swp_ H5 sb b w lt vf A B) := s8_tr (s8_fz zz) ⟨fun a => sk 8 (by omega) a, fun _ _ _ => rfl⟩
      have cS : clA_ (swp_ H5 sb b w lt vf A B) sb b w lt vf B A := ⟨swp_sb _ _ _ _ _ _ _ _, cA5.2.1, Ne.symm hAB⟩
      have dS : ∀ {a n : Nat} {fq : Nat → Option Nat} {F : Nat → fc_}, dsR H5 a n fq F → dsR (swp_ H5 sb b w lt vf A B) a n fq F := fun D => dsR_s D (Nat.le_refl _) (fun _ _ _ => rfl) rfl (fun k a hk => sk k (by omega) a)
      have bS : ∀ {y most yr len cnt : Nat} {f : Nat → Int32}, brR H5 y most yr len cnt f → brR (swp_ H5 sb b w lt vf A B) y most yr len cnt f := fun R => ⟨by rw [sk 1 (by omega)]; exact R.1, R.2⟩
      have vS : clV_ (swp_ H5 sb b w lt vf A B) vf := by
        obtain ⟨g0, g1, g2, g3, g4, g5, g6⟩ := V5
        exact ⟨g0, g1, g2, g3, g4, by rw [sk 7 (by omega)]; exact g5, g6⟩
      refine fin_ hm s8 (Φ' := Φ - (1659 * cn_ fqb - 1659 * cn_ fq')) (cb := cb) (f := f) (cw := cw) (fw := fw) (ft := (0, -1)) (na := k) (FA := FF2) ⟨b, w, lt, vf, B, A, rb, len, rw', lw, fq', fqa, cS, by rw [sk 2 (by omega)]; exact F5, vS, bS (brR_fz b1 zz), bS (brR_fz b2 zz), b3, ⟨dS D5, k12, k1, d3, ⟨na, FA, dS D5A⟩, cross_sym hx⟩, by omega⟩ E1 E2 ?_ (by omega) (by omega)
      obtain ⟨r1, r2, r3, r4, r5, r6, r7, r8, r9⟩ := hr
      have c10 : ∀ j, j < 12 → cpb_ ar'' 1 0 j = ar j := fun j hj => by rw [cpb_10 _ _ _ hj]; exact y6.1 j hj
      have t0 : ∀ j, j < 5 → tld_ sc' j = sc' j := fun j hj => by unfold tld_; rw [va_up_ne _ _ (by omega), va_up_ne _ _ (by omega)]
      refine ⟨by rw [t0 2 (by omega), y4]; exact r1, by rw [c10 10 (by omega)]; exact r2, by rw [t0 4 (by omega), y5]; exact r3, r4, by rw [c10 11 (by omega)]; exact r5, ?_, ?_, ?_, fun g hg => ?_⟩
      · unfold tld_; rw [va_up_ne _ _ (by decide), va_up_self]; exact y2
      · unfold tld_; rw [va_up_self]; exact y3
      · have := cpb_at ar'' 1 0 (k := 12) (j := 0) (by omega) (by omega) (by decide)
        have this : cpb_ ar'' 1 0 12 0 = ar'' 12 1 := this
        rw [this, y7.1 12 (by omega)]; exact e12
      · have q1 := sm_fok (w5 g) (hok g hg)
        have n4 := q1.2.2.1
        have n6 := q1.2.2.2.2.1
        have qa : anyb_ (FF2 g) (HN g) := by
          intro i hi
          rw [(w5 g).2.1]
          exact A3 g (by omega) (HN g) n6 (hok g hg).2.2.2.1 i hi
        obtain ⟨s, s1, s2⟩ := y8 rfl g hg
        obtain ⟨s', s1', s3, s4⟩ := (w7 ev g hg).2 (by omega)
        rw [s1] at s1'
        cases s1'
        have vk : vok_ (FF2 g) ar'' 1 g (NN g) := by
          intro i hi
          obtain ⟨t1, t2⟩ := s2 i (by omega)
          obtain ⟨t3, t4⟩ := s4 i hi
          rw [t1, t2, t3, t4]
          refine ⟨rfl, rfl, ?_⟩
          rcases s3 i hi with ⟨z, -⟩ | ⟨d, z1, z2⟩
          · exact Or.inl z
          · exact Or.inr ⟨d, z1, z2.1⟩
        have vk0 := vok_cp (d := 0) vk (by omega) n4
        refine ⟨NN g, HN g, q1, agf_cp (sm_agf (w5 g) y7.1 (hag g hg)) (by omega) n4 n6 qa, qa, fun i hi => ?_⟩
        have := vk0 i hi
        rw [Nat.mul_zero, Nat.zero_add] at this
        exact this
