/-! THE CLASS's READER: head, instructions, handlers -/
theorem s_bytesBehind (o : Int32) (H : hc_H) : p_Kinds_bytesBehind o H = some (nI (bb_ o), 0, 0, H) := by
  unfold p_Kinds_bytesBehind bb_
  rw [ev_ite]
  by_cases h0 : o = 0
  · rw [if_pos h0, if_pos h0]; rfl
  · rw [if_neg h0, if_neg h0, ev_ite]
    by_cases h1 : o = 4 ∨ o = 5 ∨ o = 25 ∨ o = 26 ∨ o = 29
    · rw [if_pos h1, if_pos h1]; rfl
    · rw [if_neg h1, if_neg h1, ev_ite]
      by_cases h2 : o = 18 ∨ o = 19 ∨ o = 20
      · rw [if_pos h2, if_pos h2]; rfl
      · rw [if_neg h2, if_neg h2]; rfl
theorem s_leastBehind (o : Int32) (H : hc_H) : p_Kinds_leastBehind o H = some (lb_ o, 0, 0, H) := by
  unfold p_Kinds_leastBehind lb_
  rw [ev_ite]
  split <;> rfl
theorem s_mostBehind {q : Nat} {F : fc_} {H : hc_H} (R : fnR H q F) (o x : Int32) : p_Kinds_mostBehind o (some q) x H = some (mb_ o (F.1 1) (F.1 4) x, 0, 0, H) := by
  unfold p_Kinds_mostBehind mb_
  rw [ev_ite]
  by_cases h0 : o = 0
  · rw [if_pos h0, if_pos h0]; rfl
  · rw [if_neg h0, if_neg h0, ev_ite]
    by_cases h1 : o = 4 ∨ o = 5
    · rw [if_pos h1, if_pos h1, fr_get1 R]; rfl
    · rw [if_neg h1, if_neg h1, ev_ite]
      by_cases h2 : o = 18 ∨ o = 19 ∨ o = 20
      · rw [if_pos h2, if_pos h2, fr_get4 R]; rfl
      · rw [if_neg h2, if_neg h2, ev_ite]
        by_cases h3 : o = 25
        · rw [if_pos h3, if_pos h3]; rfl
        · rw [if_neg h3, if_neg h3, ev_ite]
          split <;> rfl
section RHD
variable (g : hc_H) (q rd b lt most rb len N : Nat) (f : Nat → Int32)
abbrev IT_ : fc_ → Prop := fun _ => True
abbrev KT_ : fc_ → fc_ → Prop := fun _ _ => True
abbrev Ek_ : fc_ → Int32 → Int32 × Int32 → hc_H := Ec_ (fn_em g q) rd b lt
abbrev B_ (f : Nat → Int32) : Nat → Int32 := fun j => f j &&& 255
theorem kt_tr : ∀ a b c : fc_, KT_ a b → KT_ b c → KT_ a c := fun _ _ _ _ _ => trivial
theorem kt_rf : ∀ a : fc_, KT_ a a := fun _ => trivial
variable {g most rb len N f}
theorem nt_ (R : brR g b most rb len N f) (n : Nat) (hn : n ≤ 8) (lo hi : Int32) : rt_ (Ek_ g q rd b lt) IT_ KT_ (hm_on 6 (some rd) (p_Reader_number (some rd) (nI n) lo hi)) (fun x => x = lo) :=
  rt_on (fun _ _ _ => rf_on _ _ _ _ _ _ _) (ct_number (fn_em g q) rd b lt most rb len N f (fun c _ => brR_fn R q c) kt_rf kt_tr n hn lo hi)
theorem no_ (R : brR g b most rb len N f) (F : fc_) (n : Nat) (hn : n ≤ 8) (lo hi : Int32) : ro_ (Ek_ g q rd b lt) N IT_ KT_ (hm_on 6 (some rd) (p_Reader_number (some rd) (nI n) lo hi)) F (nn_ (B_ f) N n lo hi) (fun v => v) (fun _ => F) (fun x => x = lo) :=
  ro_on (fun _ _ _ => rf_on _ _ _ _ _ _ _) (co_number (fn_em g q) rd b lt most rb len N f (fun c _ => brR_fn R q c) kt_rf kt_tr F trivial n hn lo hi)
def h5_ (rd q : Nat) : hM Unit := hm_bind (hm_on 6 (some rd) (p_Reader_number (some rd) 2 1 400)) fun a => hm_bind (hm_puti 3 4 (some q) a) fun _ => hm_ret ()
def h4_ (rd q : Nat) (z : Int32) : hM Unit := hm_bind (hm_on 6 (some rd) (p_Reader_number (some rd) 1 0 z)) fun a => hm_bind (hm_puti 3 3 (some q) a) fun _ => h5_ rd q
def h3_ (rd q : Nat) (z lo : Int32) : hM Unit := hm_bind (hm_on 6 (some rd) (p_Reader_number (some rd) 2 0 (((1 : Int32) <<< (lo &&& 31)) - 1))) fun a => hm_bind (hm_puti 3 2 (some q) a) fun _ => h4_ rd q z
def h2_ (rd q : Nat) (z pa : Int32) : hM Unit := hm_bind (hm_on 6 (some rd) (p_Reader_number (some rd) 1 pa 12)) fun a => hm_bind (hm_puti 3 1 (some q) a) fun _ => hm_bind (hm_geti 3 1 (some q)) fun lo => h3_ rd q z lo
def h1_ (rd q : Nat) (y z : Int32) : hM Unit := hm_bind (hm_on 6 (some rd) (p_Reader_number (some rd) 1 0 y)) fun a => hm_bind (hm_puti 3 0 (some q) a) fun _ => hm_bind (hm_geti 3 0 (some q)) fun pa => h2_ rd q z pa
theorem h5_t (R : brR g b most rb len N f) : rt_ (Ek_ g q rd b lt) IT_ KT_ (h5_ rd q) (fun _ => True) :=
  rt_bind kt_tr (nt_ q rd b lt R 2 (by omega) 1 400) (fun v _ => rt_pre kt_tr (m' := hm_ret ()) (fun c p ft _ => ⟨_, trivial, trivial, by rw [fe_put4]⟩) (rt_ret kt_rf trivial))
theorem h4_t (R : brR g b most rb len N f) (z : Int32) : rt_ (Ek_ g q rd b lt) IT_ KT_ (h4_ rd q z) (fun _ => True) :=
  rt_bind kt_tr (nt_ q rd b lt R 1 (by omega) 0 z) (fun v _ => rt_pre kt_tr (m' := h5_ rd q) (fun c p ft _ => ⟨_, trivial, trivial, by rw [fe_put3]⟩) (h5_t q rd b lt R))
theorem h3_t (R : brR g b most rb len N f) (z lo : Int32) : rt_ (Ek_ g q rd b lt) IT_ KT_ (h3_ rd q z lo) (fun _ => True) :=
  rt_bind kt_tr (nt_ q rd b lt R 2 (by omega) 0 _) (fun v _ => rt_pre kt_tr (m' := h4_ rd q z) (fun c p ft _ => ⟨_, trivial, trivial, by rw [fe_put2]⟩) (h4_t q rd b lt R z))
theorem h2_t (R : brR g b most rb len N f) (z pa : Int32) : rt_ (Ek_ g q rd b lt) IT_ KT_ (h2_ rd q z pa) (fun _ => True) :=
  rt_bind kt_tr (nt_ q rd b lt R 1 (by omega) pa 12) (fun v _ => rt_pre kt_tr (m' := h3_ rd q z v) (fun c p ft _ => ⟨_, trivial, trivial, by rw [fe_put1, fr_get1 (fe_R _ _ _ _ _ _ _ _)]; rfl⟩) (h3_t q rd b lt R z v))
theorem h1_t (R : brR g b most rb len N f) (y z : Int32) : rt_ (Ek_ g q rd b lt) IT_ KT_ (h1_ rd q y z) (fun _ => True) :=
  rt_bind kt_tr (nt_ q rd b lt R 1 (by omega) 0 y) (fun v _ => rt_pre kt_tr (m' := h2_ rd q z v) (fun c p ft _ => ⟨_, trivial, trivial, by rw [fe_put0, fr_get0 (fe_R _ _ _ _ _ _ _ _)]; rfl⟩) (h2_t q rd b lt R z v))
/-- the head's five numbers are written -/
def hdu_ (F : fc_) (d : hd5_) : fc_ := (va_up (va_up (va_up (va_up (va_up F.1 0 d.1) 1 d.2.1) 2 d.2.2.1) 3 d.2.2.2.1) 4 d.2.2.2.2, F.2)
theorem h1_o (R : brR g b most rb len N f) (F : fc_) (y z : Int32) : ro_ (Ek_ g q rd b lt) N IT_ KT_ (h1_ rd q y z) F (sbd_ (nn_ (B_ f) N 1 0 y) fun pa => sbd_ (nn_ (B_ f) N 1 pa 12) fun lo => sbd_ (nn_ (B_ f) N 2 0 (((1 : Int32) <<< (lo &&& 31)) - 1)) fun rb => sbd_ (nn_ (B_ f) N 1 0 z) fun rs => sbd_ (nn_ (B_ f) N 2 1 400) fun sz => sre_ (pa, lo, rb, rs, sz)) (fun _ => ()) (hdu_ F) (fun _ => True) := by
  refine ro_bind kt_tr (no_ q rd b lt R F 1 (by omega) 0 y) (fun pa _ _ _ => ?_) (fun v _ => rt_pre kt_tr (m' := h2_ rd q z v) (fun c p ft _ => ⟨_, trivial, trivial, by rw [fe_put0, fr_get0 (fe_R _ _ _ _ _ _ _ _)]; rfl⟩) (h2_t q rd b lt R z v))
  refine ro_pre0 kt_tr (c' := (va_up F.1 0 pa, F.2)) (m' := h2_ rd q z pa) trivial (fun p ft _ => by rw [fe_put0, fr_get0 (fe_R _ _ _ _ _ _ _ _)]; rfl) ?_
  refine ro_bind kt_tr (no_ q rd b lt R _ 1 (by omega) pa 12) (fun lo _ _ _ => ?_) (fun v _ => rt_pre kt_tr (m' := h3_ rd q z v) (fun c p ft _ => ⟨_, trivial, trivial, by rw [fe_put1, fr_get1 (fe_R _ _ _ _ _ _ _ _)]; rfl⟩) (h3_t q rd b lt R z v))
  refine ro_pre0 kt_tr (c' := (va_up (va_up F.1 0 pa) 1 lo, F.2)) (m' := h3_ rd q z lo) trivial (fun p ft _ => by rw [fe_put1, fr_get1 (fe_R _ _ _ _ _ _ _ _)]; rfl) ?_
  refine ro_bind kt_tr (no_ q rd b lt R _ 2 (by omega) 0 _) (fun rb _ _ _ => ?_) (fun v _ => rt_pre kt_tr (m' := h4_ rd q z) (fun c p ft _ => ⟨_, trivial, trivial, by rw [fe_put2]⟩) (h4_t q rd b lt R z))
  refine ro_pre0 kt_tr (c' := (va_up (va_up (va_up F.1 0 pa) 1 lo) 2 rb, F.2)) (m' := h4_ rd q z) trivial (fun p ft _ => by rw [fe_put2]) ?_
  refine ro_bind kt_tr (no_ q rd b lt R _ 1 (by omega) 0 z) (fun rs _ _ _ => ?_) (fun v _ => rt_pre kt_tr (m' := h5_ rd q) (fun c p ft _ => ⟨_, trivial, trivial, by rw [fe_put3]⟩) (h5_t q rd b lt R))
  refine ro_pre0 kt_tr (c' := (va_up (va_up (va_up (va_up F.1 0 pa) 1 lo) 2 rb) 3 rs, F.2)) (m' := h5_ rd q) trivial (fun p ft _ => by rw [fe_put3]) ?_
  refine ro_bind kt_tr (no_ q rd b lt R _ 2 (by omega) 1 400) (fun sz _ _ _ => ?_) (fun v _ => rt_pre kt_tr (m' := hm_ret ()) (fun c p ft _ => ⟨_, trivial, trivial, by rw [fe_put4]⟩) (rt_ret kt_rf trivial))
  refine ro_pre0 kt_tr (c' := hdu_ F (pa, lo, rb, rs, sz)) (m' := hm_ret ()) trivial (fun p ft _ => by rw [fe_put4]; rfl) ?_
  exact ro_ret kt_rf trivial rfl rfl
theorem head_eq (rd q : Nat) (x : Int32) : p_Reader_head (some rd) (some q) x = if x = 0 then h1_ rd q 4 2 else h1_ rd q 0 1 := by
  simp only [p_Reader_head, hm_jn]
  by_cases c : x = 0
  · simp only [if_pos c]; rfl
  · simp only [if_neg c]; rfl
theorem ct_head (R : brR g b most rb len N f) (x : Int32) : rt_ (Ek_ g q rd b lt) IT_ KT_ (p_Reader_head (some rd) (some q) x) (fun _ => True) := by
  rw [head_eq]
  split
  · exact h1_t q rd b lt R 4 2
  · exact h1_t q rd b lt R 0 1
theorem co_head (R : brR g b most rb len N f) (F : fc_) (fi : Nat) : ro_ (Ek_ g q rd b lt) N IT_ KT_ (p_Reader_head (some rd) (some q) (if fi = 0 then 1 else 0)) F (shd_ (B_ f) N fi) (fun _ => ()) (hdu_ F) (fun _ => True) := by
  rw [head_eq]
  unfold shd_
  by_cases c : fi = 0
  · rw [if_pos c, if_pos c, if_pos c, if_neg (by decide)]
    exact h1_o q rd b lt R F 0 1
  · rw [if_neg c, if_neg c, if_neg c, if_pos rfl]
    exact h1_o q rd b lt R F 4 2
/-! instructions -/
theorem ins_x (R : brR g b most rb len N f) (x2 x3 : Int32) (kx : hM Unit) {D : Unit → Prop} (hk : rt_ (Ek_ g q rd b lt) IT_ KT_ kx D) (fu : Nat) : rt_ (Ek_ g q rd b lt) IT_ KT_ (p_Reader_instructions_2 (some rd) (some q) x2 kx (fu + 1) x3) D := by
  refine rt_pre2 kt_tr (ι := Unit) (m' := fun _ => kx) (fun c p ft _ hf => ⟨(), c, trivial, trivial, ?_⟩) (fun _ => hk)
  rw [p_Reader_instructions_2, fr_get4 (fe_R _ _ _ _ _ _ _ _), ev_ite]
  split
  · rfl
  · rw [rf_ref1, rf_fk, ev_ite, if_neg (lt_ne hf)]
def iw_ (F : fc_) (i : Nat) (d : Int32 × Int32) : fc_ := (F.1, va_up (va_up F.2.1 0 (va_up (F.2.1 0) i d.1)) 1 (va_up (F.2.1 1) i d.2), F.2.2)
def iws_ : fc_ → Nat → List (Int32 × Int32) → fc_
  | F, _, [] => F
  | F, i, d :: l => iws_ (iw_ F i d) (i + 1) l
def i2_ (rd q : Nat) (i : Nat) (L : hM Unit) (o hi : Int32) : hM Unit := hm_bind (hm_on 6 (some rd) (p_Reader_number (some rd) (nI (bb_ o)) (lb_ o) hi)) fun a => hm_bind (hm_ist 1 (some (q + 2)) (nI i) a) fun _ => L
def i1_ (rd q : Nat) (x2 : Int32) (i : Nat) (L : hM Unit) (a4 : Int32) : hM Unit := hm_bind (hm_getr 3 6 (some q)) fun a5 => hm_bind (hm_ist 0 a5 (nI i) a4) fun _ => hm_bind (hm_getr 3 7 (some q)) fun a6 => hm_bind (p_Kinds_bytesBehind a4) fun a7 => hm_bind (p_Kinds_leastBehind a4) fun a8 => hm_bind (p_Kinds_mostBehind a4 (some q) x2) fun a9 => hm_bind (hm_on 6 (some rd) (p_Reader_number (some rd) a7 a8 a9)) fun a10 => hm_bind (hm_ist 1 a6 (nI i) a10) fun _ => L
theorem i1_e (F : fc_) (p : Int32) (ft : Int32 × Int32) (x2 : Int32) (i : Nat) (hi : i < 400) (L : hM Unit) (o : Int32) : i1_ rd q x2 i L o (Ef_ g q rd b lt F p ft) = i2_ rd q i L o (mb_ o (F.1 1) (F.1 4) x2) (Ef_ g q rd b lt (F.1, va_up F.2.1 0 (va_up (F.2.1 0) i o), F.2.2) p ft) := by
  rw [i1_, fr_ref6 (fe_R _ _ _ _ _ _ _ _), fe_ist0 _ _ _ _ _ _ _ _ _ hi, fr_ref7 (fe_R _ _ _ _ _ _ _ _), bd_0 (s_bytesBehind _ _), bd_0 (s_leastBehind _ _), bd_0 (s_mostBehind (fe_R _ _ _ _ _ _ _ _) _ _)]
  rfl
theorem i2_t (R : brR g b most rb len N f) (i : Nat) (hi4 : i < 400) (L : hM Unit) (hL : rt_ (Ek_ g q rd b lt) IT_ KT_ L (fun _ => True)) (o hi : Int32) : rt_ (Ek_ g q rd b lt) IT_ KT_ (i2_ rd q i L o hi) (fun _ => True) :=
  rt_bind kt_tr (nt_ q rd b lt R (bb_ o) (bb_8 o) (lb_ o) hi) (fun v _ => rt_pre kt_tr (m' := L) (fun c p ft _ => ⟨_, trivial, trivial, by rw [fe_ist1 _ _ _ _ _ _ _ _ _ hi4]⟩) hL)
theorem i1_t (R : brR g b most rb len N f) (x2 : Int32) (i : Nat) (hi4 : i < 400) (L : hM Unit) (hL : rt_ (Ek_ g q rd b lt) IT_ KT_ L (fun _ => True)) (o : Int32) : rt_ (Ek_ g q rd b lt) IT_ KT_ (i1_ rd q x2 i L o) (fun _ => True) :=
  rt_pre2 kt_tr (m' := fun hi => i2_ rd q i L o hi) (fun c p ft _ _ => ⟨_, _, trivial, trivial, i1_e q rd b lt c p ft x2 i hi4 L o⟩) (fun hi => i2_t q rd b lt R i hi4 L hL o hi)
theorem co_ins (R : brR g b most rb len N f) (n : Nat) (hn : n ≤ 400) (lo x2 : Int32) (kx : hM Unit) (hk : rt_ (Ek_ g q rd b lt) IT_ KT_ kx (fun _ => True)) {δ : Type} {T : List (Int32 × Int32) → rs_ δ} {upd : δ → fc_} : ∀ (r fu : Nat) (F : fc_), r ≤ n → r < fu → F.1 4 = nI n → F.1 1 = lo → (∀ l, l.length = r → ro_ (Ek_ g q rd b lt) N IT_ KT_ kx (iws_ F (n - r) l) (T l) (fun _ => ()) upd (fun _ => True)) → ro_ (Ek_ g q rd b lt) N IT_ KT_ (p_Reader_instructions_2 (some rd) (some q) x2 kx fu (nI (n - r))) F (sbd_ (sls_ (si_ (B_ f) N lo (nI n) x2) r) T) (fun _ => ()) upd (fun _ => True) := by
  intro r
  induction r generalizing T with
  | zero =>
    intro fu F _ hfu e4 e1 hT
    obtain ⟨u, rfl⟩ : ∃ u, fu = u + 1 := ⟨fu - 1, by omega⟩
    refine ro_pre0 kt_tr (c' := F) (m' := kx) trivial (fun p ft _ => ?_) (hT [] rfl)
    rw [p_Reader_instructions_2, fr_get4 (fe_R _ _ _ _ _ _ _ _), e4, ev_ite, if_pos (nI_le (by omega) (by omega))]
  | succ r ih =>
    intro fu F hr hfu e4 e1 hT
    obtain ⟨u, rfl⟩ : ∃ u, fu = u + 1 := ⟨fu - 1, by omega⟩
    obtain ⟨u, rfl⟩ : ∃ k, u = k + 1 := ⟨u - 1, by omega⟩
    have hi4 : n - (r + 1) < 400 := by omega
    have tL := ins_x q rd b lt R x2 (nI (n - r)) kx hk u
    refine ro_pre0 kt_tr (c' := F) (m' := hm_bind (hm_on 6 (some rd) (p_Reader_number (some rd) 1 0 29)) fun a4 => i1_ rd q x2 (n - (r + 1)) (p_Reader_instructions_2 (some rd) (some q) x2 kx (u + 1) (nI (n - r))) a4) trivial (fun p ft hf => ?_) ?_
    · rw [p_Reader_instructions_2, fr_get4 (fe_R _ _ _ _ _ _ _ _), e4, ev_ite, if_neg (nI_ge (by omega) (by omega)), rf_ref1, rf_fk, ev_ite, if_pos hf, nI_1, show n - (r + 1) + 1 = n - r by omega]
      rfl
    · have key := ro_bind kt_tr (k := fun a4 => i1_ rd q x2 (n - (r + 1)) (p_Reader_instructions_2 (some rd) (some q) x2 kx (u + 1) (nI (n - r))) a4) (T := fun o => sbd_ (nn_ (B_ f) N (bb_ o) (lb_ o) (mb_ o lo (nI n) x2)) fun v => sbd_ (sls_ (si_ (B_ f) N lo (nI n) x2) r) fun l => T ((o, v) :: l)) (val2 := fun _ => ()) (upd2 := upd) (D' := fun _ => True) (no_ q rd b lt R F 1 (by omega) 0 29) (fun o _ _ _ => ?_) (fun v _ => i1_t q rd b lt R x2 _ hi4 _ tL v)
      · refine ro_eq key (fun p => ?_)
        rw [sls_, sbd_as, si_, sbd_as]
        refine sbd_c _ (fun o p => ?_) p
        rw [sbd_as]
        refine sbd_c _ (fun v p => ?_) p
        rw [sbd_l, sbd_as]
        exact sbd_c _ (fun l p => rfl) p
      · refine ro_pre0 kt_tr (c' := (F.1, va_up F.2.1 0 (va_up (F.2.1 0) (n - (r + 1)) o), F.2.2)) (m' := i2_ rd q (n - (r + 1)) (p_Reader_instructions_2 (some rd) (some q) x2 kx (u + 1) (nI (n - r))) o (mb_ o lo (nI n) x2)) trivial (fun p ft hf => by rw [← e1, ← e4]; exact i1_e q rd b lt F p ft x2 _ hi4 _ o) ?_
        refine ro_bind kt_tr (no_ q rd b lt R _ (bb_ o) (bb_8 o) (lb_ o) _) (fun v _ _ _ => ?_) (fun v _ => rt_pre kt_tr (m' := p_Reader_instructions_2 (some rd) (some q) x2 kx (u + 1) (nI (n - r))) (fun c p ft _ => ⟨_, trivial, trivial, by rw [fe_ist1 _ _ _ _ _ _ _ _ _ hi4]⟩) tL)
        refine ro_pre0 kt_tr (c' := iw_ F (n - (r + 1)) (o, v)) (m' := p_Reader_instructions_2 (some rd) (some q) x2 kx (u + 1) (nI (n - r))) trivial (fun p ft hf => by rw [fe_ist1 _ _ _ _ _ _ _ _ _ hi4]; rfl) ?_
        refine ih (u + 1) (iw_ F (n - (r + 1)) (o, v)) (by omega) (by omega) e4 e1 (fun l hl => ?_)
        have := hT ((o, v) :: l) (by rw [List.length_cons, hl])
        rw [iws_, show n - (r + 1) + 1 = n - r by omega] at this
        exact this
end RHD
