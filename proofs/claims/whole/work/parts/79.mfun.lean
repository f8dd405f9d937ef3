/-! THE REFERENCE: readFunction -/
section MFN
variable (h : hc_H) (m : Nat) {sc : Nat → Int32} (B : Nat → Int32) {N : Nat}
def r6_ (m f : Nat) (a22 : Option Nat) : hM Unit := hm_bind (hm_on 8 (some m) (p_Mo_numberNext (some m) 1 0 6)) fun a23 => hm_bind (hm_ist 18 a22 (nI (12 + f)) a23) fun _ => p_Mo_readFunction_164 (some m) (nI f) (nI (12 + f)) (hm_ret ()) hm_fuel 0
def r6p_ (m f : Nat) : hM Unit := hm_bind (hm_getr 8 15 (some m)) fun a22 => r6_ m f a22
def r5_ (m f : Nat) (all : Int32) (a15 : Option Nat) : hM Unit := hm_bind (hm_on 8 (some m) (p_Mo_numberNext (some m) 2 1 400)) fun a16 => hm_bind (hm_ist 17 a15 (nI (12 + f)) a16) fun _ => p_Mo_readFunction_109 (some m) (nI f) all (nI (12 + f)) (r6p_ m f) hm_fuel 0
def r4_ (m f : Nat) (all z : Int32) (a12 : Option Nat) : hM Unit := hm_bind (hm_on 8 (some m) (p_Mo_numberNext (some m) 1 0 z)) fun a14 => hm_bind (hm_ist 16 a12 (nI (12 + f)) a14) fun _ => hm_bind (hm_getr 8 14 (some m)) fun a15 => r5_ m f all a15
def r3_ (m f : Nat) (all z : Int32) (a8 : Option Nat) (lo : Int32) : hM Unit := hm_bind (hm_on 8 (some m) (p_Mo_numberNext (some m) 2 0 (((1 : Int32) <<< ((lo &&& 15) &&& 31)) - 1))) fun a11 => hm_bind (hm_ist 15 a8 (nI (12 + f)) a11) fun _ => hm_bind (hm_getr 8 13 (some m)) fun a12 => r4_ m f all z a12
def r2_ (m f : Nat) (all z : Int32) (a4 : Option Nat) (pa : Int32) : hM Unit := hm_bind (hm_on 8 (some m) (p_Mo_numberNext (some m) 1 pa 12)) fun a7 => hm_bind (hm_ist 14 a4 (nI (12 + f)) a7) fun _ => hm_bind (hm_getr 8 12 (some m)) fun a8 => hm_bind (hm_getr 8 11 (some m)) fun a9 => hm_bind (hm_ild 14 a9 (nI (12 + f))) fun a10 => r3_ m f all z a8 a10
def r1_ (m f : Nat) (all z y : Int32) (a1 : Option Nat) : hM Unit := hm_bind (hm_on 8 (some m) (p_Mo_numberNext (some m) 1 0 y)) fun a3 => hm_bind (hm_ist 13 a1 (nI (12 + f)) a3) fun _ => hm_bind (hm_getr 8 11 (some m)) fun a4 => hm_bind (hm_getr 8 10 (some m)) fun a5 => hm_bind (hm_ild 13 a5 (nI (12 + f))) fun a6 => r2_ m f all z a4 a6
theorem rf_eq (f : Nat) (hf : f < 12) (all : Int32) : p_Mo_readFunction (some m) (nI f) all = hm_bind (hm_getr 8 10 (some m)) fun a1 => r1_ m f all (if f = 0 then 1 else 2) (if f = 0 then 0 else 4) a1 := by
  simp only [p_Mo_readFunction, hm_jn]
  rw [ix12]
  by_cases c : f = 0
  · subst c
    simp only [show nI 0 = 0 by decide, if_true]
    rfl
  · have : ¬ nI f = 0 := nI_ne0 (by omega) (by omega)
    simp only [if_neg this, if_neg c]
    rfl
theorem r6_t {f : Nat} (hf : f < 12) : RT_ h m sc B (r6_ m f (some (m + 9))) :=
  rt_bind sb0_tr (mnt_ h m sc B 1 (by omega) _ _) (fun v _ => rt_pre sb0_tr (m' := p_Mo_readFunction_164 (some m) (nI f) (nI (12 + f)) (hm_ret ()) hm_fuel 0) (fun ar p ft hB => ⟨u2_ ar 18 (12 + f) v, u2_B B (by omega) _ _ hB, u2_12 ar (by omega) (by omega) (by omega) v, by rw [mo_ist18, if_neg (ix_in2 hf), ix_cl2 hf]; rfl⟩) (mhl_t h m B hf 0 (rt_ret sb0_rfl trivial) 999999))
theorem r6p_t {f : Nat} (hf : f < 12) : RT_ h m sc B (r6p_ m f) :=
  rt_pre sb0_tr (m' := r6_ m f (some (m + 9))) (fun ar p ft hB => ⟨ar, hB, sb0_rfl _, by rw [r6p_, mo_ref15]⟩) (r6_t h m B hf)
theorem r5_t {f : Nat} (hf : f < 12) (all : Int32) : RT_ h m sc B (r5_ m f all (some (m + 8))) :=
  rt_bind sb0_tr (mnt_ h m sc B 2 (by omega) _ _) (fun v _ => rt_pre sb0_tr (m' := p_Mo_readFunction_109 (some m) (nI f) all (nI (12 + f)) (r6p_ m f) hm_fuel 0) (fun ar p ft hB => ⟨u2_ ar 17 (12 + f) v, u2_B B (by omega) _ _ hB, u2_12 ar (by omega) (by omega) (by omega) v, by rw [mo_ist17, if_neg (ix_in2 hf), ix_cl2 hf]; rfl⟩) (mlp_t h m B f hf all 0 _ (r6p_t h m B hf) 999999))
theorem r4_t {f : Nat} (hf : f < 12) (all z : Int32) : RT_ h m sc B (r4_ m f all z (some (m + 7))) :=
  rt_bind sb0_tr (mnt_ h m sc B 1 (by omega) _ _) (fun v _ => rt_pre sb0_tr (m' := r5_ m f all (some (m + 8))) (fun ar p ft hB => ⟨u2_ ar 16 (12 + f) v, u2_B B (by omega) _ _ hB, u2_12 ar (by omega) (by omega) (by omega) v, by rw [mo_ist16, if_neg (ix_in2 hf), ix_cl2 hf, mo_ref14]; rfl⟩) (r5_t h m B hf all))
theorem r3_t {f : Nat} (hf : f < 12) (all z lo : Int32) : RT_ h m sc B (r3_ m f all z (some (m + 6)) lo) :=
  rt_bind sb0_tr (mnt_ h m sc B 2 (by omega) _ _) (fun v _ => rt_pre sb0_tr (m' := r4_ m f all z (some (m + 7))) (fun ar p ft hB => ⟨u2_ ar 15 (12 + f) v, u2_B B (by omega) _ _ hB, u2_12 ar (by omega) (by omega) (by omega) v, by rw [mo_ist15, if_neg (ix_in2 hf), ix_cl2 hf, mo_ref13]; rfl⟩) (r4_t h m B hf all z))
theorem r2_t {f : Nat} (hf : f < 12) (all z pa : Int32) : RT_ h m sc B (r2_ m f all z (some (m + 5)) pa) :=
  rt_bind sb0_tr (mnt_ h m sc B 1 (by omega) _ _) (fun v _ => rt_pre sb0_tr (m' := r3_ m f all z (some (m + 6)) v) (fun ar p ft hB => ⟨u2_ ar 14 (12 + f) v, u2_B B (by omega) _ _ hB, u2_12 ar (by omega) (by omega) (by omega) v, by rw [mo_ist14, if_neg (ix_in2 hf), ix_cl2 hf, mo_ref12, mo_ref11, mo_ild14, if_neg (ix_in2 hf), ix_cl2 hf, va_up_self, va_up_self]; rfl⟩) (r3_t h m B hf all z v))
theorem r1_t {f : Nat} (hf : f < 12) (all z y : Int32) : RT_ h m sc B (r1_ m f all z y (some (m + 4))) :=
  rt_bind sb0_tr (mnt_ h m sc B 1 (by omega) _ _) (fun v _ => rt_pre sb0_tr (m' := r2_ m f all z (some (m + 5)) v) (fun ar p ft hB => ⟨u2_ ar 13 (12 + f) v, u2_B B (by omega) _ _ hB, u2_12 ar (by omega) (by omega) (by omega) v, by rw [mo_ist13, if_neg (ix_in2 hf), ix_cl2 hf, mo_ref11, mo_ref10, mo_ild13, if_neg (ix_in2 hf), ix_cl2 hf, va_up_self, va_up_self]; rfl⟩) (r2_t h m B hf all z v))
theorem readFunction_t {f : Nat} (hf : f < 12) (all : Int32) : RT_ h m sc B (p_Mo_readFunction (some m) (nI f) all) := by
  rw [rf_eq m f hf]
  exact rt_pre sb0_tr (m' := r1_ m f all (if f = 0 then 1 else 2) (if f = 0 then 0 else 4) (some (m + 4))) (fun ar p ft hB => ⟨ar, hB, sb0_rfl _, by rw [mo_ref10]⟩) (r1_t h m B hf all _ _)
def mhd_ (ar : Nat → Nat → Int32) (f : Nat) (d : hd5_) : Nat → Nat → Int32 := u2_ (u2_ (u2_ (u2_ (u2_ ar 13 (12 + f) d.1) 14 (12 + f) d.2.1) 15 (12 + f) d.2.2.1) 16 (12 + f) d.2.2.2.1) 17 (12 + f) d.2.2.2.2
def mfu_ (ar : Nat → Nat → Int32) (f : Nat) (d : fd_) : Nat → Nat → Int32 := mhs_ f (u2_ (mws_ f (mhd_ ar f d.1) 0 d.2.1) 18 (12 + f) d.2.2.1) 0 d.2.2.2
theorem mws_k (f : Nat) {j : Nat} (hj : j < 19) : ∀ (l : List (Int32 × Int32)) (ar : Nat → Nat → Int32) (i : Nat), mws_ f ar i l j = ar j
  | [], _, _ => rfl
  | d :: l, ar, i => by rw [mws_, mws_k f hj l, mw_, u2_k _ _ _ (by omega), u2_k _ _ _ (by omega)]
theorem mhs_k (f : Nat) {j : Nat} (hj : j < 21) : ∀ (l : List hd5_) (ar : Nat → Nat → Int32) (i : Nat), mhs_ f ar i l j = ar j
  | [], _, _ => rfl
  | d :: l, ar, i => by rw [mhs_, mhs_k f hj l, mh_k _ _ _ _ hj]
theorem lo_15 : ∀ j, j ≤ 12 → (nI j &&& 15) &&& 31 = nI j &&& 31 := by decide +kernel
theorem readFunction_o (e2 : sc 2 = nI N) (hN : N ≤ 4096) {f : Nat} (hf : f < 12) (all : Int32) (ar : Nat → Nat → Int32) (hB : ar 10 = B) : ro_ (Em_ h m sc) N (IB_ B) sb0_ (p_Mo_readFunction (some m) (nI f) all) ar (sf_ B N f all) (fun _ => ()) (fun d => mfu_ ar f d) (fun _ => True) := by
  rw [rf_eq m f hf]
  refine ro_pre0 sb0_tr (c' := ar) (m' := r1_ m f all (if f = 0 then 1 else 2) (if f = 0 then 0 else 4) (some (m + 4))) (sb0_rfl _) (fun p ft _ => by rw [mo_ref10]) ?_
  have key : ro_ (Em_ h m sc) N (IB_ B) sb0_ (r1_ m f all (if f = 0 then 1 else 2) (if f = 0 then 0 else 4) (some (m + 4))) ar (sbd_ (nn_ B N 1 0 (if f = 0 then 0 else 4)) fun pa => sbd_ (nn_ B N 1 pa 12) fun lo => sbd_ (nn_ B N 2 0 (((1 : Int32) <<< (lo &&& 31)) - 1)) fun rb => sbd_ (nn_ B N 1 0 (if f = 0 then 1 else 2)) fun rs => sbd_ (nn_ B N 2 1 400) fun sz => sbd_ (sls_ (si_ B N lo sz all) sz.toNatClampNeg) fun il => sbd_ (nn_ B N 1 0 6) fun hn => sbd_ (sls_ (sh_ B N sz) hn.toNatClampNeg) fun hl => sre_ ((pa, lo, rb, rs, sz), il, hn, hl)) (fun _ => ()) (fun d => mfu_ ar f d) (fun _ => True) := by
    refine ro_bind sb0_tr (mno_ h m B e2 hN ar hB 1 (by omega) _ _) (fun pa p p' hs => ?_) (fun v _ => rt_pre sb0_tr (m' := r2_ m f all (if f = 0 then 1 else 2) (some (m + 5)) v) (fun ar p ft hB => ⟨u2_ ar 13 (12 + f) v, u2_B B (by omega) _ _ hB, u2_12 ar (by omega) (by omega) (by omega) v, by rw [mo_ist13, if_neg (ix_in2 hf), ix_cl2 hf, mo_ref11, mo_ref10, mo_ild13, if_neg (ix_in2 hf), ix_cl2 hf, va_up_self, va_up_self]; rfl⟩) (r2_t h m B hf all _ v))
    have hpa := (nn_in hs).1
    have hB1 := u2_B B (k := 13) (by omega) (12 + f) pa hB
    refine ro_pre0 sb0_tr (c' := u2_ ar 13 (12 + f) pa) (m' := r2_ m f all (if f = 0 then 1 else 2) (some (m + 5)) pa) (u2_12 ar (by omega) (by omega) (by omega) pa) (fun p ft _ => by rw [mo_ist13, if_neg (ix_in2 hf), ix_cl2 hf, mo_ref11, mo_ref10, mo_ild13, if_neg (ix_in2 hf), ix_cl2 hf, va_up_self, va_up_self]; rfl) ?_
    refine ro_bind sb0_tr (mno_ h m B e2 hN _ hB1 1 (by omega) _ _) (fun lo p p' hs => ?_) (fun v _ => rt_pre sb0_tr (m' := r3_ m f all (if f = 0 then 1 else 2) (some (m + 6)) v) (fun ar p ft hB => ⟨u2_ ar 14 (12 + f) v, u2_B B (by omega) _ _ hB, u2_12 ar (by omega) (by omega) (by omega) v, by rw [mo_ist14, if_neg (ix_in2 hf), ix_cl2 hf, mo_ref12, mo_ref11, mo_ild14, if_neg (ix_in2 hf), ix_cl2 hf, va_up_self, va_up_self]; rfl⟩) (r3_t h m B hf all _ v))
    have hlo := nn_in hs
    have elo : (lo &&& 15) &&& 31 = lo &&& 31 := by
      obtain ⟨j, hj, rfl⟩ : ∃ j, j ≤ 12 ∧ lo = nI j := nI_of2 (M := 12) (n := 12) (by decide) (fun z => hlo.1 (Int32.lt_of_lt_of_le z (Int32.not_lt.mp hpa))) (Int32.not_lt.mp hlo.2)
      exact lo_15 j hj
    have hB2 := u2_B B (k := 14) (by omega) (12 + f) lo hB1
    refine ro_pre0 sb0_tr (c' := u2_ (u2_ ar 13 (12 + f) pa) 14 (12 + f) lo) (m' := r3_ m f all (if f = 0 then 1 else 2) (some (m + 6)) lo) (u2_12 _ (by omega) (by omega) (by omega) lo) (fun p ft _ => by rw [mo_ist14, if_neg (ix_in2 hf), ix_cl2 hf, mo_ref12, mo_ref11, mo_ild14, if_neg (ix_in2 hf), ix_cl2 hf, va_up_self, va_up_self]; rfl) ?_
    unfold r3_
    rw [elo]
    refine ro_bind sb0_tr (mno_ h m B e2 hN _ hB2 2 (by omega) _ _) (fun rb p p' hs => ?_) (fun v _ => rt_pre sb0_tr (m' := r4_ m f all (if f = 0 then 1 else 2) (some (m + 7))) (fun ar p ft hB => ⟨u2_ ar 15 (12 + f) v, u2_B B (by omega) _ _ hB, u2_12 ar (by omega) (by omega) (by omega) v, by rw [mo_ist15, if_neg (ix_in2 hf), ix_cl2 hf, mo_ref13]; rfl⟩) (r4_t h m B hf all _))
    have hB3 := u2_B B (k := 15) (by omega) (12 + f) rb hB2
    refine ro_pre0 sb0_tr (c' := u2_ (u2_ (u2_ ar 13 (12 + f) pa) 14 (12 + f) lo) 15 (12 + f) rb) (m' := r4_ m f all (if f = 0 then 1 else 2) (some (m + 7))) (u2_12 _ (by omega) (by omega) (by omega) rb) (fun p ft _ => by rw [mo_ist15, if_neg (ix_in2 hf), ix_cl2 hf, mo_ref13]; rfl) ?_
    refine ro_bind sb0_tr (mno_ h m B e2 hN _ hB3 1 (by omega) _ _) (fun rs p p' hs => ?_) (fun v _ => rt_pre sb0_tr (m' := r5_ m f all (some (m + 8))) (fun ar p ft hB => ⟨u2_ ar 16 (12 + f) v, u2_B B (by omega) _ _ hB, u2_12 ar (by omega) (by omega) (by omega) v, by rw [mo_ist16, if_neg (ix_in2 hf), ix_cl2 hf, mo_ref14]; rfl⟩) (r5_t h m B hf all))
    have hB4 := u2_B B (k := 16) (by omega) (12 + f) rs hB3
    refine ro_pre0 sb0_tr (c' := u2_ (u2_ (u2_ (u2_ ar 13 (12 + f) pa) 14 (12 + f) lo) 15 (12 + f) rb) 16 (12 + f) rs) (m' := r5_ m f all (some (m + 8))) (u2_12 _ (by omega) (by omega) (by omega) rs) (fun p ft _ => by rw [mo_ist16, if_neg (ix_in2 hf), ix_cl2 hf, mo_ref14]; rfl) ?_
    refine ro_bind sb0_tr (mno_ h m B e2 hN _ hB4 2 (by omega) _ _) (fun sz p p' hs => ?_) (fun v _ => rt_pre sb0_tr (m' := p_Mo_readFunction_109 (some m) (nI f) all (nI (12 + f)) (r6p_ m f) hm_fuel 0) (fun ar p ft hB => ⟨u2_ ar 17 (12 + f) v, u2_B B (by omega) _ _ hB, u2_12 ar (by omega) (by omega) (by omega) v, by rw [mo_ist17, if_neg (ix_in2 hf), ix_cl2 hf]; rfl⟩) (mlp_t h m B f hf all 0 _ (r6p_t h m B hf) 999999))
    have hsz := nn_in hs
    obtain ⟨n, hn, rfl⟩ : ∃ n, n ≤ 400 ∧ sz = nI n := nI_of2 (M := 400) (n := 400) (by decide) (fun z => hsz.1 (Int32.lt_trans z (by decide))) (Int32.not_lt.mp hsz.2)
    have hB5 := u2_B B (k := 17) (by omega) (12 + f) (nI n) hB4
    refine ro_pre0 sb0_tr (c' := mhd_ ar f (pa, lo, rb, rs, nI n)) (m' := p_Mo_readFunction_109 (some m) (nI f) all (nI (12 + f)) (r6p_ m f) hm_fuel 0) (u2_12 _ (by omega) (by omega) (by omega) _) (fun p ft _ => by rw [mo_ist17, if_neg (ix_in2 hf), ix_cl2 hf]; rfl) ?_
    rw [nI_clamp (by omega)]
    have e17 : mhd_ ar f (pa, lo, rb, rs, nI n) 17 (12 + f) = nI n := u2_s _ _ _ _
    have e14 : mhd_ ar f (pa, lo, rb, rs, nI n) 14 (12 + f) = lo := by
      unfold mhd_
      rw [u2_k _ _ _ (by decide), u2_k _ _ _ (by decide), u2_k _ _ _ (by decide), u2_s]
    have loop := mlp_o h m B e2 hN f hf n hn lo all (r6p_ m f) (r6p_t h m B hf) (T := fun il => sbd_ (nn_ B N 1 0 6) fun hn => sbd_ (sls_ (sh_ B N (nI n)) hn.toNatClampNeg) fun hl => sre_ ((pa, lo, rb, rs, nI n), il, hn, hl)) (upd := fun d => mfu_ ar f d) n hm_fuel (mhd_ ar f (pa, lo, rb, rs, nI n)) (Nat.le_refl _) (by unfold hm_fuel; omega) hB5 e17 e14 (fun il hil hBl => ?_)
    · rw [Nat.sub_self] at loop
      exact loop
    · rw [Nat.sub_self] at hBl ⊢
      refine ro_pre0 sb0_tr (c' := mws_ f (mhd_ ar f (pa, lo, rb, rs, nI n)) 0 il) (m' := r6_ m f (some (m + 9))) (sb0_rfl _) (fun p ft _ => by rw [r6p_, mo_ref15]) ?_
      refine ro_bind sb0_tr (mno_ h m B e2 hN _ hBl 1 (by omega) _ _) (fun hn' p p' hs => ?_) (fun v _ => rt_pre sb0_tr (m' := p_Mo_readFunction_164 (some m) (nI f) (nI (12 + f)) (hm_ret ()) hm_fuel 0) (fun ar p ft hB => ⟨u2_ ar 18 (12 + f) v, u2_B B (by omega) _ _ hB, u2_12 ar (by omega) (by omega) (by omega) v, by rw [mo_ist18, if_neg (ix_in2 hf), ix_cl2 hf]; rfl⟩) (mhl_t h m B hf 0 (rt_ret sb0_rfl trivial) 999999))
      have hh := nn_in hs
      obtain ⟨k, hk, rfl⟩ : ∃ k, k ≤ 6 ∧ hn' = nI k := nI_of2 (M := 6) (n := 6) (by decide) hh.1 (Int32.not_lt.mp hh.2)
      refine ro_pre0 sb0_tr (c' := u2_ (mws_ f (mhd_ ar f (pa, lo, rb, rs, nI n)) 0 il) 18 (12 + f) (nI k)) (m' := p_Mo_readFunction_164 (some m) (nI f) (nI (12 + f)) (hm_ret ()) hm_fuel 0) (u2_12 _ (by omega) (by omega) (by omega) _) (fun p ft _ => by rw [mo_ist18, if_neg (ix_in2 hf), ix_cl2 hf]; rfl) ?_
      rw [nI_clamp (by omega)]
      have loop2 := mhl_o h m B e2 hN hf k hk (nI n) (kx := hm_ret ()) (rt_ret sb0_rfl trivial) (T := fun hl => sre_ ((pa, lo, rb, rs, nI n), il, nI k, hl)) (upd := fun d => mfu_ ar f d) k hm_fuel (u2_ (mws_ f (mhd_ ar f (pa, lo, rb, rs, nI n)) 0 il) 18 (12 + f) (nI k)) (Nat.le_refl _) (by unfold hm_fuel; omega) (u2_B B (by omega) _ _ hBl) (u2_s _ _ _ _) (by rw [u2_k _ _ _ (by decide), mws_k f (by omega)]; exact e17) (fun hl hhl hBh => ?_)
      · rw [Nat.sub_self] at loop2
        exact loop2
      · rw [Nat.sub_self] at hBh ⊢
        exact ro_ret sb0_rfl hBh rfl rfl
  refine ro_eq key (fun p => ?_)
  rw [sf_, shd_, sbd_as]
  refine sbd_c _ (fun a p => ?_) p
  rw [sbd_as]
  refine sbd_c _ (fun a p => ?_) p
  rw [sbd_as]
  refine sbd_c _ (fun a p => ?_) p
  rw [sbd_as]
  refine sbd_c _ (fun a p => ?_) p
  rw [sbd_as]
  exact sbd_c _ (fun a p => rfl) p
end MFN
