/-! THE CLASS's READER: handlers -/
def hwk_ (F : fc_) (k : Nat) (s : Nat → Int32) : fc_ := (F.1, F.2.1, va_up F.2.2 k s)
theorem hwk_self (F : fc_) (k : Nat) : hwk_ F k (F.2.2 k) = F := by
  unfold hwk_
  refine Prod.ext rfl (Prod.ext rfl (funext fun j => ?_))
  show va_up F.2.2 k (F.2.2 k) j = F.2.2 j
  simp only [va_up]
  split
  · next e => rw [e]
  · rfl
section RHN
variable {β : Type} (g : hc_H) (q rd b lt : Nat) (F : fc_) (k : Nat) (s : Nat → Int32) (p : Int32) (ft : Int32 × Int32)
theorem fe_hw0 (hk : k < 6) (v : Int32) (kont : Unit → hM β) : hm_bind (hm_puti 4 0 (some (q + 6 + k)) v) kont (Ef_ g q rd b lt (hwk_ F k s) p ft) = kont () (Ef_ g q rd b lt (hwk_ F k (va_up s 0 v)) p ft) := by
  rw [fe_hput0 g q rd b lt _ p ft k hk v]
  simp only [hwk_, va_up_self, bx_uu]
theorem fe_hg0 (hk : k < 6) (kont : Int32 → hM β) : hm_bind (hm_geti 4 0 (some (q + 6 + k))) kont (Ef_ g q rd b lt (hwk_ F k s) p ft) = kont (s 0) (Ef_ g q rd b lt (hwk_ F k s) p ft) := by
  rw [fr_h0 (fe_R _ _ _ _ _ _ _ _) k hk]
  simp only [hwk_, va_up_self]
theorem fe_hw1 (hk : k < 6) (v : Int32) (kont : Unit → hM β) : hm_bind (hm_puti 4 1 (some (q + 6 + k)) v) kont (Ef_ g q rd b lt (hwk_ F k s) p ft) = kont () (Ef_ g q rd b lt (hwk_ F k (va_up s 1 v)) p ft) := by
  rw [fe_hput1 g q rd b lt _ p ft k hk v]
  simp only [hwk_, va_up_self, bx_uu]
theorem fe_hg1 (hk : k < 6) (kont : Int32 → hM β) : hm_bind (hm_geti 4 1 (some (q + 6 + k))) kont (Ef_ g q rd b lt (hwk_ F k s) p ft) = kont (s 1) (Ef_ g q rd b lt (hwk_ F k s) p ft) := by
  rw [fr_h1 (fe_R _ _ _ _ _ _ _ _) k hk]
  simp only [hwk_, va_up_self]
theorem fe_hw2 (hk : k < 6) (v : Int32) (kont : Unit → hM β) : hm_bind (hm_puti 4 2 (some (q + 6 + k)) v) kont (Ef_ g q rd b lt (hwk_ F k s) p ft) = kont () (Ef_ g q rd b lt (hwk_ F k (va_up s 2 v)) p ft) := by
  rw [fe_hput2 g q rd b lt _ p ft k hk v]
  simp only [hwk_, va_up_self, bx_uu]
theorem fe_hg2 (hk : k < 6) (kont : Int32 → hM β) : hm_bind (hm_geti 4 2 (some (q + 6 + k))) kont (Ef_ g q rd b lt (hwk_ F k s) p ft) = kont (s 2) (Ef_ g q rd b lt (hwk_ F k s) p ft) := by
  rw [fr_h2 (fe_R _ _ _ _ _ _ _ _) k hk]
  simp only [hwk_, va_up_self]
theorem fe_hw3 (hk : k < 6) (v : Int32) (hv : v = 0 ∨ v = 1) (kont : Unit → hM β) : hm_bind (hm_putz 4 3 (some (q + 6 + k)) v) kont (Ef_ g q rd b lt (hwk_ F k s) p ft) = kont () (Ef_ g q rd b lt (hwk_ F k (va_up s 3 v)) p ft) := by
  rw [fe_hput3 g q rd b lt _ p ft k hk v hv]
  simp only [hwk_, va_up_self, bx_uu]
theorem fe_hg3 (hk : k < 6) (kont : Int32 → hM β) : hm_bind (hm_geti 4 3 (some (q + 6 + k))) kont (Ef_ g q rd b lt (hwk_ F k s) p ft) = kont (s 3) (Ef_ g q rd b lt (hwk_ F k s) p ft) := by
  rw [fr_h3 (fe_R _ _ _ _ _ _ _ _) k hk]
  simp only [hwk_, va_up_self]
theorem fe_hw4 (hk : k < 6) (v : Int32) (kont : Unit → hM β) : hm_bind (hm_puti 4 4 (some (q + 6 + k)) v) kont (Ef_ g q rd b lt (hwk_ F k s) p ft) = kont () (Ef_ g q rd b lt (hwk_ F k (va_up s 4 v)) p ft) := by
  rw [fe_hput4 g q rd b lt _ p ft k hk v]
  simp only [hwk_, va_up_self, bx_uu]
theorem fe_hg4 (hk : k < 6) (kont : Int32 → hM β) : hm_bind (hm_geti 4 4 (some (q + 6 + k))) kont (Ef_ g q rd b lt (hwk_ F k s) p ft) = kont (s 4) (Ef_ g q rd b lt (hwk_ F k s) p ft) := by
  rw [fr_h4 (fe_R _ _ _ _ _ _ _ _) k hk]
  simp only [hwk_, va_up_self]
end RHN
theorem hwk_ex (F : fc_) (k : Nat) : ∃ F' s, F = hwk_ F' k s := ⟨F, F.2.2 k, (hwk_self F k).symm⟩
section RHN2
variable (g : hc_H) (q rd b lt most rb len N : Nat) (f : Nat → Int32)
def g5_ (rd q k : Nat) (L : hM Unit) (n : Nat) : hM Unit := hm_bind (hm_on 6 (some rd) (p_Reader_number (some rd) (nI n) (-2147483648) 2147483647)) fun a => hm_bind (hm_puti 4 4 (some (q + 6 + k)) a) fun _ => L
def g4b_ (rd q k : Nat) (L : hM Unit) (z : Int32) : hM Unit := hm_bind (hm_putz 4 3 (some (q + 6 + k)) z) fun _ => hm_bind (hm_geti 4 3 (some (q + 6 + k))) fun a => if a = 0 then g5_ rd q k L 4 else g5_ rd q k L 0
def g4_ (rd q k : Nat) (L : hM Unit) : hM Unit := hm_bind (hm_on 6 (some rd) (p_Reader_number (some rd) 1 0 1)) fun a => if a = 0 then g4b_ rd q k L 1 else g4b_ rd q k L 0
def g3_ (rd q k : Nat) (L : hM Unit) (cnt : Int32) : hM Unit := hm_bind (hm_on 6 (some rd) (p_Reader_number (some rd) 2 0 (cnt - 1))) fun a => hm_bind (hm_puti 4 2 (some (q + 6 + k)) a) fun _ => g4_ rd q k L
def g2_ (rd q k : Nat) (L : hM Unit) (a9 a10 : Int32) : hM Unit := hm_bind (hm_on 6 (some rd) (p_Reader_number (some rd) 2 (a9 + 1) a10)) fun a => hm_bind (hm_puti 4 1 (some (q + 6 + k)) a) fun _ => hm_bind (hm_geti 3 4 (some q)) fun a12 => g3_ rd q k L a12
def g1_ (rd q k : Nat) (L : hM Unit) (cnt : Int32) : hM Unit := hm_bind (hm_on 6 (some rd) (p_Reader_number (some rd) 2 0 (cnt - 1))) fun a => hm_bind (hm_puti 4 0 (some (q + 6 + k)) a) fun _ => hm_bind (hm_geti 4 0 (some (q + 6 + k))) fun a9 => hm_bind (hm_geti 3 4 (some q)) fun a10 => g2_ rd q k L a9 a10
variable {g most rb len N f}
theorem g5_t (R : brR g b most rb len N f) (k : Nat) (hk : k < 6) (L : hM Unit) (hL : rt_ (Ek_ g q rd b lt) IT_ KT_ L (fun _ => True)) (n : Nat) (hn : n ≤ 8) : rt_ (Ek_ g q rd b lt) IT_ KT_ (g5_ rd q k L n) (fun _ => True) :=
  rt_bind kt_tr (nt_ q rd b lt R n hn _ _) (fun v _ => rt_pre kt_tr (m' := L) (fun c p ft _ => ⟨_, trivial, trivial, by rw [fe_hput4 _ _ _ _ _ _ _ _ k hk]⟩) hL)
theorem g4b_t (R : brR g b most rb len N f) (k : Nat) (hk : k < 6) (L : hM Unit) (hL : rt_ (Ek_ g q rd b lt) IT_ KT_ L (fun _ => True)) (z : Int32) (hz : z = 0 ∨ z = 1) : rt_ (Ek_ g q rd b lt) IT_ KT_ (g4b_ rd q k L z) (fun _ => True) := by
  refine rt_pre kt_tr (m' := if z = 0 then g5_ rd q k L 4 else g5_ rd q k L 0) (fun c p ft _ => ?_) ?_
  · obtain ⟨F', s, rfl⟩ := hwk_ex c k
    refine ⟨hwk_ F' k (va_up s 3 z), trivial, trivial, ?_⟩
    rw [g4b_, fe_hw3 _ _ _ _ _ _ _ _ _ _ hk z hz, fe_hg3 _ _ _ _ _ _ _ _ _ _ hk, va_up_self]
  · split
    · exact g5_t q rd b lt R k hk L hL 4 (by omega)
    · exact g5_t q rd b lt R k hk L hL 0 (by omega)
theorem g4_t (R : brR g b most rb len N f) (k : Nat) (hk : k < 6) (L : hM Unit) (hL : rt_ (Ek_ g q rd b lt) IT_ KT_ L (fun _ => True)) : rt_ (Ek_ g q rd b lt) IT_ KT_ (g4_ rd q k L) (fun _ => True) := by
  refine rt_bind kt_tr (nt_ q rd b lt R 1 (by omega) 0 1) (fun v _ => ?_)
  by_cases c : v = 0
  · rw [if_pos c]; exact g4b_t q rd b lt R k hk L hL 1 (Or.inr rfl)
  · rw [if_neg c]; exact g4b_t q rd b lt R k hk L hL 0 (Or.inl rfl)
theorem g3_t (R : brR g b most rb len N f) (k : Nat) (hk : k < 6) (L : hM Unit) (hL : rt_ (Ek_ g q rd b lt) IT_ KT_ L (fun _ => True)) (cnt : Int32) : rt_ (Ek_ g q rd b lt) IT_ KT_ (g3_ rd q k L cnt) (fun _ => True) :=
  rt_bind kt_tr (nt_ q rd b lt R 2 (by omega) 0 _) (fun v _ => rt_pre kt_tr (m' := g4_ rd q k L) (fun c p ft _ => ⟨_, trivial, trivial, by rw [fe_hput2 _ _ _ _ _ _ _ _ k hk]⟩) (g4_t q rd b lt R k hk L hL))
theorem g2_t (R : brR g b most rb len N f) (k : Nat) (hk : k < 6) (L : hM Unit) (hL : rt_ (Ek_ g q rd b lt) IT_ KT_ L (fun _ => True)) (a9 a10 : Int32) : rt_ (Ek_ g q rd b lt) IT_ KT_ (g2_ rd q k L a9 a10) (fun _ => True) :=
  rt_bind kt_tr (nt_ q rd b lt R 2 (by omega) _ _) (fun v _ => rt_pre2 kt_tr (m' := fun cnt => g3_ rd q k L cnt) (fun c p ft _ _ => ⟨_, _, trivial, trivial, by rw [fe_hput1 _ _ _ _ _ _ _ _ k hk, fr_get4 (fe_R _ _ _ _ _ _ _ _)]⟩) (fun cnt => g3_t q rd b lt R k hk L hL cnt))
theorem g1_t (R : brR g b most rb len N f) (k : Nat) (hk : k < 6) (L : hM Unit) (hL : rt_ (Ek_ g q rd b lt) IT_ KT_ L (fun _ => True)) (cnt : Int32) : rt_ (Ek_ g q rd b lt) IT_ KT_ (g1_ rd q k L cnt) (fun _ => True) :=
  rt_bind kt_tr (nt_ q rd b lt R 2 (by omega) _ _) (fun v _ => rt_pre2 kt_tr (m' := fun i : Int32 × Int32 => g2_ rd q k L i.1 i.2) (fun c p ft _ _ => ⟨(_, _), _, trivial, trivial, by rw [fe_hput0 _ _ _ _ _ _ _ _ k hk, fr_h0 (fe_R _ _ _ _ _ _ _ _) k hk, fr_get4 (fe_R _ _ _ _ _ _ _ _)]⟩) (fun i => g2_t q rd b lt R k hk L hL i.1 i.2))
theorem hdl_x (R : brR g b most rb len N f) (x : Int32) (kx : hM Unit) {D : Unit → Prop} (hk : rt_ (Ek_ g q rd b lt) IT_ KT_ kx D) (fu : Nat) : rt_ (Ek_ g q rd b lt) IT_ KT_ (p_Reader_handlers_14 (some rd) (some q) kx (fu + 1) x) D := by
  refine rt_pre2 kt_tr (ι := Unit) (m' := fun _ => kx) (fun c p ft _ hf => ⟨(), c, trivial, trivial, ?_⟩) (fun _ => hk)
  rw [p_Reader_handlers_14, fr_get5 (fe_R _ _ _ _ _ _ _ _), ev_ite]
  split
  · rfl
  · rw [rf_ref1, rf_fk, ev_ite, if_neg (lt_ne hf)]
def h5w_ (s : Nat → Int32) (d : hd5_) : Nat → Int32 := va_up (va_up (va_up (va_up (va_up s 0 d.1) 1 d.2.1) 2 d.2.2.1) 3 d.2.2.2.1) 4 d.2.2.2.2
def hw_ (F : fc_) (k : Nat) (d : hd5_) : fc_ := hwk_ F k (h5w_ (F.2.2 k) d)
def hws_ : fc_ → Nat → List hd5_ → fc_
  | F, _, [] => F
  | F, k, d :: l => hws_ (hw_ F k d) (k + 1) l
theorem g1_o (R : brR g b most rb len N f) (k : Nat) (hk : k < 6) (L : hM Unit) (hL : rt_ (Ek_ g q rd b lt) IT_ KT_ L (fun _ => True)) (F : fc_) (cnt : Int32) (e4 : F.1 4 = cnt) {δ : Type} {T : hd5_ → rs_ δ} {upd : δ → fc_} (hT : ∀ d, ro_ (Ek_ g q rd b lt) N IT_ KT_ L (hw_ F k d) (T d) (fun _ => ()) upd (fun _ => True)) : ro_ (Ek_ g q rd b lt) N IT_ KT_ (g1_ rd q k L cnt) F (sbd_ (sh_ (B_ f) N cnt) T) (fun _ => ()) upd (fun _ => True) := by
  have key : ro_ (Ek_ g q rd b lt) N IT_ KT_ (g1_ rd q k L cnt) (hwk_ F k (F.2.2 k)) (sbd_ (nn_ (B_ f) N 2 0 (cnt - 1)) fun a => sbd_ (nn_ (B_ f) N 2 (a + 1) cnt) fun t => sbd_ (nn_ (B_ f) N 2 0 (cnt - 1)) fun tg => sbd_ (nn_ (B_ f) N 1 0 1) fun an => sbd_ (nn_ (B_ f) N (if an = 0 then 0 else 4) (-2147483648) 2147483647) fun cd => T (a, t, tg, if an = 0 then 1 else 0, cd)) (fun _ => ()) upd (fun _ => True) := by
    refine ro_bind kt_tr (no_ q rd b lt R _ 2 (by omega) _ _) (fun a _ _ _ => ?_) (fun v _ => rt_pre2 kt_tr (m' := fun i : Int32 × Int32 => g2_ rd q k L i.1 i.2) (fun c p ft _ _ => ⟨(_, _), _, trivial, trivial, by rw [fe_hput0 _ _ _ _ _ _ _ _ k hk, fr_h0 (fe_R _ _ _ _ _ _ _ _) k hk, fr_get4 (fe_R _ _ _ _ _ _ _ _)]⟩) (fun i => g2_t q rd b lt R k hk L hL i.1 i.2))
    refine ro_pre0 kt_tr (c' := hwk_ F k (va_up (F.2.2 k) 0 a)) (m' := g2_ rd q k L a cnt) trivial (fun p ft _ => by rw [fe_hw0 _ _ _ _ _ _ _ _ _ _ hk, fe_hg0 _ _ _ _ _ _ _ _ _ _ hk, fr_get4 (fe_R _ _ _ _ _ _ _ _), va_up_self, show (hwk_ F k (va_up (F.2.2 k) 0 a)).1 4 = cnt from e4]) ?_
    refine ro_bind kt_tr (no_ q rd b lt R _ 2 (by omega) _ _) (fun t _ _ _ => ?_) (fun v _ => rt_pre2 kt_tr (m' := fun cnt => g3_ rd q k L cnt) (fun c p ft _ _ => ⟨_, _, trivial, trivial, by rw [fe_hput1 _ _ _ _ _ _ _ _ k hk, fr_get4 (fe_R _ _ _ _ _ _ _ _)]⟩) (fun cnt => g3_t q rd b lt R k hk L hL cnt))
    refine ro_pre0 kt_tr (c' := hwk_ F k (va_up (va_up (F.2.2 k) 0 a) 1 t)) (m' := g3_ rd q k L cnt) trivial (fun p ft _ => by rw [fe_hw1 _ _ _ _ _ _ _ _ _ _ hk, fr_get4 (fe_R _ _ _ _ _ _ _ _), show (hwk_ F k (va_up (va_up (F.2.2 k) 0 a) 1 t)).1 4 = cnt from e4]) ?_
    refine ro_bind kt_tr (no_ q rd b lt R _ 2 (by omega) _ _) (fun tg _ _ _ => ?_) (fun v _ => rt_pre kt_tr (m' := g4_ rd q k L) (fun c p ft _ => ⟨_, trivial, trivial, by rw [fe_hput2 _ _ _ _ _ _ _ _ k hk]⟩) (g4_t q rd b lt R k hk L hL))
    refine ro_pre0 kt_tr (c' := hwk_ F k (va_up (va_up (va_up (F.2.2 k) 0 a) 1 t) 2 tg)) (m' := g4_ rd q k L) trivial (fun p ft _ => by rw [fe_hw2 _ _ _ _ _ _ _ _ _ _ hk]) ?_
    refine ro_bind kt_tr (no_ q rd b lt R _ 1 (by omega) _ _) (fun an _ _ _ => ?_) (fun v _ => ?_)
    · refine ro_pre0 kt_tr (c' := hwk_ F k (va_up (va_up (va_up (va_up (F.2.2 k) 0 a) 1 t) 2 tg) 3 (if an = 0 then 1 else 0))) (m' := g5_ rd q k L (if an = 0 then 0 else 4)) trivial (fun p ft _ => ?_) ?_
      · by_cases c : an = 0
        · rw [if_pos c, if_pos c, if_pos c, g4b_, fe_hw3 _ _ _ _ _ _ _ _ _ _ hk 1 (Or.inr rfl), fe_hg3 _ _ _ _ _ _ _ _ _ _ hk, va_up_self, ev_ite, if_neg (by decide)]
        · rw [if_neg c, if_neg c, if_neg c, g4b_, fe_hw3 _ _ _ _ _ _ _ _ _ _ hk 0 (Or.inl rfl), fe_hg3 _ _ _ _ _ _ _ _ _ _ hk, va_up_self, ev_ite, if_pos rfl]
      · refine ro_bind kt_tr (no_ q rd b lt R _ _ (by split <;> omega) _ _) (fun cd _ _ _ => ?_) (fun v _ => rt_pre kt_tr (m' := L) (fun c p ft _ => ⟨_, trivial, trivial, by rw [fe_hput4 _ _ _ _ _ _ _ _ k hk]⟩) hL)
        refine ro_pre0 kt_tr (c' := hw_ F k (a, t, tg, if an = 0 then 1 else 0, cd)) (m' := L) trivial (fun p ft _ => by rw [fe_hw4 _ _ _ _ _ _ _ _ _ _ hk]; rfl) (hT _)
    · by_cases c : v = 0
      · rw [if_pos c]; exact g4b_t q rd b lt R k hk L hL 1 (Or.inr rfl)
      · rw [if_neg c]; exact g4b_t q rd b lt R k hk L hL 0 (Or.inl rfl)
  rw [hwk_self] at key
  refine ro_eq key (fun p => ?_)
  rw [sh_, sbd_as]
  refine sbd_c _ (fun a p => ?_) p
  rw [sbd_as]
  refine sbd_c _ (fun t p => ?_) p
  rw [sbd_as]
  refine sbd_c _ (fun t p => ?_) p
  rw [sbd_as]
  refine sbd_c _ (fun t p => ?_) p
  rw [sbd_as]
  exact sbd_c _ (fun t p => rfl) p
theorem co_hdl (R : brR g b most rb len N f) (n : Nat) (hn : n ≤ 6) (cnt : Int32) (kx : hM Unit) (hk : rt_ (Ek_ g q rd b lt) IT_ KT_ kx (fun _ => True)) {δ : Type} {T : List hd5_ → rs_ δ} {upd : δ → fc_} : ∀ (r fu : Nat) (F : fc_), r ≤ n → r < fu → F.1 5 = nI n → F.1 4 = cnt → (∀ l, l.length = r → ro_ (Ek_ g q rd b lt) N IT_ KT_ kx (hws_ F (n - r) l) (T l) (fun _ => ()) upd (fun _ => True)) → ro_ (Ek_ g q rd b lt) N IT_ KT_ (p_Reader_handlers_14 (some rd) (some q) kx fu (nI (n - r))) F (sbd_ (sls_ (sh_ (B_ f) N cnt) r) T) (fun _ => ()) upd (fun _ => True) := by
  intro r
  induction r generalizing T with
  | zero =>
    intro fu F _ hfu e5 e4 hT
    obtain ⟨u, rfl⟩ : ∃ u, fu = u + 1 := ⟨fu - 1, by omega⟩
    refine ro_pre0 kt_tr (c' := F) (m' := kx) trivial (fun p ft _ => ?_) (hT [] rfl)
    rw [p_Reader_handlers_14, fr_get5 (fe_R _ _ _ _ _ _ _ _), e5, ev_ite, if_pos (nI_le (by omega) (by omega))]
  | succ r ih =>
    intro fu F hr hfu e5 e4 hT
    obtain ⟨u, rfl⟩ : ∃ u, fu = u + 1 := ⟨fu - 1, by omega⟩
    obtain ⟨u, rfl⟩ : ∃ k, u = k + 1 := ⟨u - 1, by omega⟩
    have hk6 : n - (r + 1) < 6 := by omega
    have tL := hdl_x q rd b lt R (nI (n - r)) kx hk u
    refine ro_pre0 kt_tr (c' := F) (m' := g1_ rd q (n - (r + 1)) (p_Reader_handlers_14 (some rd) (some q) kx (u + 1) (nI (n - r))) cnt) trivial (fun p ft hf => ?_) ?_
    · rw [p_Reader_handlers_14, fr_get5 (fe_R _ _ _ _ _ _ _ _), e5, ev_ite, if_neg (nI_ge (by omega) (by omega)), rf_ref1, rf_fk, ev_ite, if_pos hf, fr_ref10 (fe_R _ _ _ _ _ _ _ _), fr_qld (fe_R _ _ _ _ _ _ _ _) _ hk6, fr_get4 (fe_R _ _ _ _ _ _ _ _), e4, nI_1, show n - (r + 1) + 1 = n - r by omega]
      rfl
    · have key := g1_o q rd b lt R (n - (r + 1)) hk6 _ tL F cnt e4 (T := fun d => sbd_ (sls_ (sh_ (B_ f) N cnt) r) fun l => T (d :: l)) (upd := upd) (fun d => ?_)
      · refine ro_eq key (fun p => ?_)
        rw [sls_, sbd_as]
        refine sbd_c _ (fun o p => ?_) p
        rw [sbd_as]
        exact sbd_c _ (fun l p => rfl) p
      · refine ih (u + 1) (hw_ F (n - (r + 1)) d) (by omega) (by omega) e5 e4 (fun l hl => ?_)
        have := hT (d :: l) (by rw [List.length_cons, hl])
        rw [hws_, show n - (r + 1) + 1 = n - r by omega] at this
        exact this
theorem ct_handlers (R : brR g b most rb len N f) : rt_ (Ek_ g q rd b lt) IT_ KT_ (p_Reader_handlers (some rd) (some q)) (fun _ => True) := by
  refine rt_bind kt_tr (nt_ q rd b lt R 1 (by omega) 0 6) (fun v _ => rt_pre kt_tr (m' := p_Reader_handlers_14 (some rd) (some q) (hm_ret ()) hm_fuel 0) (fun c p ft _ => ⟨_, trivial, trivial, by rw [fe_put5]⟩) ?_)
  exact hdl_x q rd b lt R 0 (hm_ret ()) (rt_ret kt_rf trivial) 999999
theorem ct_instructions (R : brR g b most rb len N f) (x : Int32) : rt_ (Ek_ g q rd b lt) IT_ KT_ (p_Reader_instructions (some rd) (some q) x) (fun _ => True) :=
  ins_x q rd b lt R x 0 (hm_ret ()) (rt_ret kt_rf trivial) 999999
theorem co_instructions (R : brR g b most rb len N f) (n : Nat) (hn : n ≤ 400) (F : fc_) (e4 : F.1 4 = nI n) (x : Int32) : ro_ (Ek_ g q rd b lt) N IT_ KT_ (p_Reader_instructions (some rd) (some q) x) F (sls_ (si_ (B_ f) N (F.1 1) (nI n) x) n) (fun _ => ()) (fun l => iws_ F 0 l) (fun _ => True) := by
  have := co_ins q rd b lt R n hn (F.1 1) x (hm_ret ()) (rt_ret kt_rf trivial) (T := fun l => sre_ l) (upd := fun l => iws_ F 0 l) n hm_fuel F (Nat.le_refl _) (by unfold hm_fuel; omega) e4 rfl (fun l hl => by
    rw [Nat.sub_self]
    exact ro_ret kt_rf trivial rfl rfl)
  rw [Nat.sub_self] at this
  refine ro_eq this (fun p => ?_)
  unfold sbd_ sre_
  rcases sls_ (si_ (B_ f) N (F.1 1) (nI n) x) n p with e | ⟨d, p'⟩ <;> rfl
theorem co_handlers (R : brR g b most rb len N f) (F : fc_) : ro_ (Ek_ g q rd b lt) N IT_ KT_ (p_Reader_handlers (some rd) (some q)) F (sbd_ (nn_ (B_ f) N 1 0 6) fun hn => sbd_ (sls_ (sh_ (B_ f) N (F.1 4)) hn.toNatClampNeg) fun hl => sre_ (hn, hl)) (fun _ => ()) (fun d => hws_ (va_up F.1 5 d.1, F.2) 0 d.2) (fun _ => True) := by
  refine ro_bind kt_tr (no_ q rd b lt R F 1 (by omega) 0 6) (fun hn p p' hs => ?_) (fun v _ => rt_pre kt_tr (m' := p_Reader_handlers_14 (some rd) (some q) (hm_ret ()) hm_fuel 0) (fun c p ft _ => ⟨_, trivial, trivial, by rw [fe_put5]⟩) (hdl_x q rd b lt R 0 (hm_ret ()) (rt_ret kt_rf trivial) 999999))
  obtain ⟨h1, h2⟩ := nn_in hs
  obtain ⟨n, hn6, rfl⟩ : ∃ n, n ≤ 6 ∧ hn = nI n := nI_of2 (M := 6) (n := 6) (by decide) h1 (Int32.not_lt.mp h2)
  refine ro_pre0 kt_tr (c' := (va_up F.1 5 (nI n), F.2)) (m' := p_Reader_handlers_14 (some rd) (some q) (hm_ret ()) hm_fuel 0) trivial (fun p ft hf => by rw [fe_put5]) ?_
  rw [nI_clamp (by omega)]
  have := co_hdl q rd b lt R n hn6 (F.1 4) (hm_ret ()) (rt_ret kt_rf trivial) (T := fun l => sre_ (nI n, l)) (upd := fun d => hws_ (va_up F.1 5 d.1, F.2) 0 d.2) n hm_fuel (va_up F.1 5 (nI n), F.2) (Nat.le_refl _) (by unfold hm_fuel; omega) (va_up_self F.1 5 (nI n)) (va_up_ne F.1 (nI n) (show (4 : Nat) ≠ 5 by decide)) (fun l hl => by
    rw [Nat.sub_self]
    exact ro_ret kt_rf trivial rfl rfl)
  rw [Nat.sub_self] at this
  exact this
end RHN2
