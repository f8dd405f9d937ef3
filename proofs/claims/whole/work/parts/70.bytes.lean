/-! ROWS OF BYTES of the class -/
/-- what is stored of a byte, and what is read of it -/
def sx_ (x : Int32) : Int32 := (Int32.toInt8 ((Int32.toInt8 x).toInt32)).toInt32
theorem sx_255 (x : Int32) : sx_ x &&& 255 = x &&& 255 := by
  unfold sx_
  apply Int32.toBitVec_inj.mp
  apply BitVec.eq_of_getLsbD_eq
  intro i hi
  have h255 : (255 : Int32).toBitVec = 255#32 := by decide
  simp only [Int32.toBitVec_and, BitVec.getLsbD_and, h255]
  by_cases c : i < 8
  · have : (Int32.toInt8 ((Int32.toInt8 x).toInt32)).toInt32.toBitVec.getLsbD i = x.toBitVec.getLsbD i := by
      simp only [Int8.toBitVec_toInt32, Int32.toBitVec_toInt8, BitVec.getLsbD_signExtend, c, if_true, hi, decide_true, Bool.true_and]
    rw [this]
  · have : (255#32).getLsbD i = false := by
      have key : ∀ i, i < 32 → ¬ i < 8 → (255#32).getLsbD i = false := by decide
      exact key i hi c
    rw [this, Bool.and_false, Bool.and_false]
theorem l32_255 (v : Int64) : Int64.toInt32 v &&& 255 = Int64.toInt32 (v &&& 255) := by
  apply Int32.toBitVec_inj.mp
  apply BitVec.eq_of_getLsbD_eq
  intro i hi
  have h255 : (255 : Int32).toBitVec = 255#32 := by decide
  have h255' : (255 : Int64).toBitVec = 255#64 := by decide
  have key : ∀ i, i < 32 → (255#32).getLsbD i = (255#64).getLsbD i := by decide
  simp only [Int32.toBitVec_and, BitVec.getLsbD_and, h255, Int64.toBitVec_toInt32, BitVec.getLsbD_signExtend, hi, decide_true, Bool.true_and, show i < 64 by omega, if_true, Int64.toBitVec_and, h255', key i hi]
def brR (H : hc_H) (b most rb len cnt : Nat) (f : Nat → Int32) : Prop := H.2.2.2 1 b = some [vi_ (nI most), vr_ (some rb), vi_ (nI cnt)] ∧ H.2.1 7 rb = some (len, f) ∧ cnt ≤ len ∧ len ≤ most ∧ 64 ≤ len ∧ most ≤ 30000 ∧ rb < H.1
section BRR
variable {β : Type} {H : hc_H} {b most rb len cnt : Nat} {f : Nat → Int32}
theorem br_get0 (R : brR H b most rb len cnt f) (kont : Int32 → hM β) : hm_bind (hm_geti 1 0 (some b)) kont H = kont (nI most) H := by
  rw [bd_geti, ev_fld, R.1]; rfl
theorem br_get2 (R : brR H b most rb len cnt f) (kont : Int32 → hM β) : hm_bind (hm_geti 1 2 (some b)) kont H = kont (nI cnt) H := by
  rw [bd_geti, ev_fld, R.1]; rfl
theorem br_ref1 (R : brR H b most rb len cnt f) (kont : Option Nat → hM β) : hm_bind (hm_getr 1 1 (some b)) kont H = kont (some rb) H := by
  rw [bd_getr, ev_fld, R.1]; rfl
theorem br_on {α : Type} (R : brR H b most rb len cnt f) (mm : hM α) (kont : α → hM β) : hm_bind (hm_on 1 (some b) mm) kont H = hm_bind mm kont H := by
  rw [bd_on, R.1]; rfl
theorem br_len (R : brR H b most rb len cnt f) (kont : Int32 → hM β) : hm_bind (hm_leni 7 (some rb)) kont H = kont (nI len) H := by
  rw [bd_leni, R.2.1]; rfl
theorem br_ild (R : brR H b most rb len cnt f) {i : Nat} (hi : i < len) (kont : Int32 → hM β) : hm_bind (hm_ild 7 (some rb) (nI i)) kont H = kont (f i) H := by
  have h3 := R.2.2.2.1
  have h4 := R.2.2.2.2.2.1
  rw [bd_ild, R.2.1]
  dsimp only
  rw [if_neg (nI_in hi (by omega)), nI_clamp (by omega)]
theorem br_ist (R : brR H b most rb len cnt f) {i : Nat} (hi : i < len) (x : Int32) (kont : Unit → hM β) : hm_bind (hm_ist 7 (some rb) (nI i) x) kont H = kont () (hc_up H rb (.inl (7, len, va_up f i x))) := by
  have h3 := R.2.2.2.1
  have h4 := R.2.2.2.2.2.1
  rw [bd_ist, R.2.1]
  dsimp only
  rw [if_neg (nI_in hi (by omega)), nI_clamp (by omega)]
theorem br_put2 (R : brR H b most rb len cnt f) (x : Int32) (kont : Unit → hM β) : hm_bind (hm_puti 1 2 (some b) x) kont H = kont () (hc_up H b (.inr (.inr (1, [vi_ (nI most), vr_ (some rb), vi_ x])))) := by
  rw [bd_puti, R.1]
  dsimp only
  rw [if_pos (show 2 < [vi_ (nI most), vr_ (some rb), vi_ (nI cnt)].length from Nat.le_of_ble_eq_true rfl)]
  rfl
theorem br_cnt (R : brR H b most rb len cnt f) {c : Nat} (hc : c ≤ len) : brR (hc_up H b (.inr (.inr (1, [vi_ (nI most), vr_ (some rb), vi_ (nI c)])))) b most rb len c f := by
  refine ⟨?_, R.2.1, hc, R.2.2.2.1, R.2.2.2.2.1, R.2.2.2.2.2⟩
  rw [up_o4, if_pos ⟨rfl, rfl⟩]
theorem br_row (R : brR H b most rb len cnt f) (g : Nat → Int32) : brR (hc_up H rb (.inl (7, len, g))) b most rb len cnt g := by
  refine ⟨R.1, ?_, R.2.2⟩
  rw [up_i2, if_pos ⟨rfl, rfl⟩]
end BRR
/-- the heap behind an operation on the row of bytes b with its bytes at rb: only that row, and new cells, have changed -/
def fb_ (b rb : Nat) (H H' : hc_H) : Prop := H.1 ≤ H'.1 ∧ H'.2.2.1 = H.2.2.1 ∧ (∀ k a, ¬ (k = 1 ∧ a = b) → H'.2.2.2 k a = H.2.2.2 k a) ∧ ∀ k a, ¬ (k = 7 ∧ (a = rb ∨ H.1 ≤ a)) → H'.2.1 k a = H.2.1 k a
theorem fb_rfl (b rb : Nat) (H : hc_H) : fb_ b rb H H := ⟨Nat.le_refl _, rfl, fun _ _ _ => rfl, fun _ _ _ => rfl⟩
theorem fb_o (b rb : Nat) (H : hc_H) (x : List lc_V) : fb_ b rb H (hc_up H b (.inr (.inr (1, x)))) := by
  refine ⟨Nat.le_refl _, rfl, fun k a h => ?_, fun _ _ _ => rfl⟩
  rw [up_o4, if_neg h]
theorem fb_i (b rb : Nat) (H : hc_H) (n : Nat) (g : Nat → Int32) : fb_ b rb H (hc_up H rb (.inl (7, n, g))) := by
  refine ⟨Nat.le_refl _, rfl, fun _ _ _ => rfl, fun k a h => ?_⟩
  rw [up_i2, if_neg (fun z => h ⟨z.1, Or.inl z.2⟩)]
theorem fb_tr {b rb rb' : Nat} {H H1 H2 : hc_H} (h1 : fb_ b rb H H1) (h2 : fb_ b rb' H1 H2) (hr : rb' = rb ∨ H.1 ≤ rb') : fb_ b rb H H2 := by
  refine ⟨Nat.le_trans h1.1 h2.1, h2.2.1.trans h1.2.1, fun k a h => (h2.2.2.1 k a h).trans (h1.2.2.1 k a h), fun k a h => ?_⟩
  have : H.1 ≤ H1.1 := h1.1
  rw [h2.2.2.2 k a (fun z => h ⟨z.1, ?_⟩), h1.2.2.2 k a h]
  rcases z.2 with e | e
  · rcases hr with r | r
    · exact Or.inl (e.trans r)
    · exact Or.inr (by omega)
  · exact Or.inr (by omega)
/-- what may still be made of new rows for this one -/
def pot_ (most len : Nat) : Nat := if len = most then 0 else 3 * most - 2 * len
section BRO
variable {H : hc_H} {b most rb len cnt : Nat} {f : Nat → Int32}
theorem s_br_at (R : brR H b most rb len cnt f) (x : Int32) : p_ByteRow_at (some b) x H = some (if x < 0 ∨ nI cnt ≤ x then -1 else f x.toNatClampNeg &&& 255, 0, 0, H) := by
  have h1 := R.2.2.1
  have h3 := R.2.2.2.1
  have h4 := R.2.2.2.2.2.1
  rw [p_ByteRow_at, ev_ite]
  by_cases h0 : x < 0
  · rw [if_pos h0, if_pos (Or.inl h0), ev_ret]
  · rw [if_neg h0, br_get2 R, ev_ite]
    by_cases h1 : nI cnt ≤ x
    · rw [if_neg (Int32.not_lt.mpr h1), if_pos (Or.inr h1), ev_ret]
    · obtain ⟨k, hk, rfl⟩ := nI_ex h0 h1 (by omega)
      rw [if_pos (Int32.not_le.mp h1), if_neg (fun z => z.elim h0 h1), br_ref1 R, br_ild R (by omega), ev_ret, nI_clamp (by omega)]
theorem s_br_keep (R : brR H b most rb len cnt f) (x : Int32) : p_ByteRow_keepFirst (some b) x H = if x < 0 ∨ nI cnt < x then some (0, 0, 0, H) else some (1, 0, 0, hc_up H b (.inr (.inr (1, [vi_ (nI most), vr_ (some rb), vi_ x])))) := by
  rw [p_ByteRow_keepFirst, ev_ite]
  by_cases h0 : x < 0
  · rw [if_pos h0, if_pos (Or.inl h0), ev_z0]
  · rw [if_neg h0, br_get2 R, ev_ite]
    by_cases h1 : x ≤ nI cnt
    · rw [if_pos h1, if_neg (fun z => z.elim h0 (Int32.not_lt.mpr h1)), br_put2 R, ev_z1]
    · rw [if_neg h1, if_pos (Or.inr (Int32.not_le.mp h1)), ev_z0]
theorem s_br_set (R : brR H b most rb len cnt f) (x y : Int32) : p_ByteRow_set (some b) x y H = if x < 0 ∨ nI cnt ≤ x then some (0, 0, 0, H) else some (1, 0, 0, hc_up H rb (.inl (7, len, va_up f x.toNatClampNeg (sx_ y)))) := by
  have h1 := R.2.2.1
  have h3 := R.2.2.2.1
  have h4 := R.2.2.2.2.2.1
  rw [p_ByteRow_set, ev_ite]
  by_cases h0 : x < 0
  · rw [if_pos h0, if_pos (Or.inl h0), ev_z0]
  · rw [if_neg h0, br_get2 R, ev_ite]
    by_cases h1 : nI cnt ≤ x
    · rw [if_neg (Int32.not_lt.mpr h1), if_pos (Or.inr h1), ev_z0]
    · obtain ⟨k, hk, rfl⟩ := nI_ex h0 h1 (by omega)
      rw [if_pos (Int32.not_le.mp h1), if_neg (fun z => z.elim h0 h1), br_ref1 R, br_ist R (by omega), ev_z1, nI_clamp (by omega)]
      rfl
theorem s_br_room (R : brR H b most rb len cnt f) {need : Nat} (hn : need ≤ most) : ∃ C S H' rb' len' f', p_ByteRow_makeRoom (some b) (nI need) H = some ((), C, S, H') ∧ brR H' b most rb' len' cnt f' ∧ need ≤ len' ∧ (∀ j, j < cnt → f' j = f j) ∧ fb_ b rb H H' ∧ (rb' = rb ∨ H.1 ≤ rb') ∧ C + pot_ most len' ≤ pot_ most len ∧ S + pot_ most len' ≤ pot_ most len := by
  have R' := R
  obtain ⟨r1, r2, r3, r4, r5, r6, r7⟩ := R'
  rw [p_ByteRow_makeRoom, br_ref1 R, br_len R, ev_ite]
  by_cases c : need ≤ len
  · rw [if_pos (nI_le c (by omega)), ev_ret]
    exact ⟨0, 0, H, rb, len, f, rfl, R, c, fun _ _ => rfl, fb_rfl _ _ _, Or.inl rfl, by omega, by omega⟩
  · rw [if_neg (nI_ge (by omega) (by omega)), br_ref1 R, br_get0 R, br_ref1 R, br_len R]
    have e2 : (2 : Int32) * nI len = nI (2 * len) := pk_mul 2 len
    have em : (if (2 : Int32) * nI len < nI most then (2 : Int32) * nI len else nI most) = nI (min (2 * len) most) := by
      rw [e2]
      rcases Nat.lt_or_ge (2 * len) most with z | z
      · rw [if_pos (nI_lt z (by omega)), Nat.min_eq_left (by omega)]
      · rw [if_neg (nI_nlt z (by omega)), Nat.min_eq_right z]
    have eM : (if nI need < nI (min (2 * len) most) then nI (min (2 * len) most) else nI need) = nI (max need (min (2 * len) most)) := by
      rcases Nat.lt_or_ge need (min (2 * len) most) with z | z
      · rw [if_pos (nI_lt z (by omega)), Nat.max_eq_right (by omega)]
      · rw [if_neg (nI_nlt z (by omega)), Nat.max_eq_left z]
    rw [em, eM]
    generalize eqM : max need (min (2 * len) most) = M
    have M1 : M ≤ most := by omega
    have M2 : len < M := by omega
    have M3 : need ≤ M := by omega
    have M4 : 2 * len ≤ M ∨ M = most := by omega
    have ecp : p_Ar_copyOf (some rb) (nI M) H = some (some H.1, 1, M, hc_up (hc_nw H (.inl (7, M, fun _ => 0))) H.1 (.inl (7, M, va_cpy f (fun _ => 0) 0 0 len))) := by
      rw [p_Ar_copyOf, br_len R, ev_ite, if_neg (fun z => by have := (nI_eq (by omega) (by omega)).mp z; omega)]
      have e1 : hm_newi 7 (nI M) H = some (H.1, 1, M, hc_nw H (.inl (7, M, fun _ => 0))) := by
        unfold hm_newi
        rw [if_neg (fun z => z.elim (nI_pos (by omega)) (fun z => by rw [nI_clamp (by omega)] at z; omega)), nI_clamp (by omega)]
      rw [bd_ok e1]
      have i1 : (hc_nw H (.inl (7, M, fun _ => (0 : Int32)))).2.1 7 rb = some (len, f) := by
        show (if 7 = 7 ∧ rb = H.1 then some (M, fun _ => (0 : Int32)) else H.2.1 7 rb) = _
        rw [if_neg (by omega), r2]
      have i2 : (hc_nw H (.inl (7, M, fun _ => (0 : Int32)))).2.1 7 H.1 = some (M, fun _ => 0) := by
        show (if 7 = 7 ∧ H.1 = H.1 then some (M, fun _ => (0 : Int32)) else H.2.1 7 H.1) = _
        rw [if_pos ⟨rfl, rfl⟩]
      have e3 : ∀ kont : Int32 → hM (Option Nat), hm_bind (hm_leni 7 (some rb)) kont (hc_nw H (.inl (7, M, fun _ => 0))) = kont (nI len) (hc_nw H (.inl (7, M, fun _ => 0))) := by
        intro kont
        rw [bd_leni, i1]; rfl
      rw [e3, if_neg (nI_nlt (by omega) (by omega))]
      have := bd_copy (s := 0) (d := 0) (n := len) i1 i2 (by omega) (by omega) (by omega) (by omega) (fun _ => hm_ret (some H.1))
      have this : hm_bind (hm_copy 7 7 (some rb) 0 (some H.1) 0 (nI len)) (fun _ => hm_ret (some H.1)) (hc_nw H (.inl (7, M, fun _ => 0))) = _ := this
      rw [this, ev_ret]
      rfl
    rw [bd_ok ecp]
    have o1 : (hc_up (hc_nw H (.inl (7, M, fun _ => 0))) H.1 (.inl (7, M, va_cpy f (fun _ => 0) 0 0 len))).2.2.2 1 b = some [vi_ (nI most), vr_ (some rb), vi_ (nI cnt)] := r1
    rw [bd_putr, o1]
    dsimp only
    rw [if_pos (show 1 < [vi_ (nI most), vr_ (some rb), vi_ (nI cnt)].length from Nat.le_of_ble_eq_true rfl), ev_ret]
    refine ⟨1, M, _, H.1, M, va_cpy f (fun _ => 0) 0 0 len, rfl, ⟨?_, ?_, by omega, M1, by omega, r6, ?_⟩, M3, fun j hj => ?_, ⟨?_, rfl, fun k a h => ?_, fun k a h => ?_⟩, Or.inr (Nat.le_refl _), ?_, ?_⟩
    · rw [up_o4, if_pos ⟨rfl, rfl⟩]; rfl
    · show (if 7 = 7 ∧ H.1 = H.1 then _ else _) = _
      rw [if_pos ⟨rfl, rfl⟩]
    · exact Nat.lt_succ_self _
    · rw [pk_cpy_in (by omega) (by omega)]; simp
    · exact Nat.le_succ _
    · rw [up_o4, if_neg h]; rfl
    · show (if k = 7 ∧ a = H.1 then _ else if k = 7 ∧ a = H.1 then _ else H.2.1 k a) = _
      rw [if_neg (fun z => h ⟨z.1, Or.inr (by omega)⟩), if_neg (fun z => h ⟨z.1, Or.inr (by omega)⟩)]
    · unfold pot_; split <;> split <;> omega
    · unfold pot_; split <;> split <;> omega
/-- the lowest byte of v above its k lowest bytes -/
def by_ (v : Int64) (k : Nat) : Int32 := Int64.toInt32 (v >>> (Int32.toInt64 (8 * nI k) &&& 63))
def wb_ (g : Nat → Int32) (v : Nat → Int32) : Nat → Nat → Nat → Int32
  | 0, _ => g
  | r + 1, c => wb_ (va_up g c (v r)) v r (c + 1)
theorem s_add_30 (v : Int64) (kx : hM Int32) : ∀ (r fu : Nat) (H : hc_H) (cnt : Nat) (f : Nat → Int32), brR H b most rb len cnt f → cnt + r ≤ len → r ≤ 8 → r < fu → ∃ H', p_ByteRow_add_30 (some b) v kx fu (nI r + (-1)) H = kx H' ∧ brR H' b most rb len (cnt + r) (wb_ f (fun k => sx_ (by_ v k)) r cnt) ∧ fb_ b rb H H' := by
  intro r
  induction r with
  | zero =>
    intro fu H cnt f R _ _ hf
    obtain ⟨g, rfl⟩ : ∃ g, fu = g + 1 := ⟨fu - 1, by omega⟩
    refine ⟨H, ?_, R, fb_rfl _ _ _⟩
    rw [p_ByteRow_add_30, ev_ite, if_pos (show nI 0 + (-1) < 0 by decide)]
  | succ r ih =>
    intro fu H cnt f R hr h8 hf
    obtain ⟨g, rfl⟩ : ∃ g, fu = g + 1 := ⟨fu - 1, by omega⟩
    have R2 := br_row R (va_up f cnt (sx_ (by_ v r)))
    have R3 := br_cnt R2 (c := cnt + 1) (by omega)
    obtain ⟨H', e1, e2, e3⟩ := ih g _ (cnt + 1) _ R3 (by omega) (by omega) (by omega)
    refine ⟨H', ?_, by rw [show cnt + (r + 1) = cnt + 1 + r by omega]; exact e2, fb_tr (fb_tr (fb_i b rb H len _) (fb_o b rb _ _) (Or.inl rfl)) e3 (Or.inl rfl)⟩
    rw [pk_m1, p_ByteRow_add_30, ev_ite, if_neg (nI_pos (by omega)), br_ref1 R, br_get2 R, br_ist R (by omega)]
    rw [show (Int32.toInt8 ((Int32.toInt8 (Int64.toInt32 (v >>> (Int32.toInt64 (8 * nI r) &&& 63)))).toInt32)).toInt32 = sx_ (by_ v r) from rfl]
    rw [br_get2 R2, br_put2 R2, nI_1]
    exact e1
theorem s_br_add (R : brR H b most rb len cnt f) (v : Int64) {n : Nat} (h8 : n ≤ 8) : if most < cnt + n then p_ByteRow_add (some b) v (nI n) H = some (0, 0, 0, H) else ∃ C S H' rb' len' f', p_ByteRow_add (some b) v (nI n) H = some (1, C, S, H') ∧ brR H' b most rb' len' (cnt + n) (wb_ f' (fun k => sx_ (by_ v k)) n cnt) ∧ (∀ j, j < cnt → f' j = f j) ∧ fb_ b rb H H' ∧ (rb' = rb ∨ H.1 ≤ rb') ∧ C + pot_ most len' ≤ pot_ most len ∧ S + pot_ most len' ≤ pot_ most len := by
  have R' := R
  obtain ⟨r1, r2, r3, r4, r5, r6, r7⟩ := R'
  have e1 : nI most - nI cnt = nI (most - cnt) := pk_sub (by omega)
  rw [p_ByteRow_add, br_get0 R, br_get2 R, e1, ev_ite]
  by_cases c : most < cnt + n
  · rw [if_pos c, if_neg (nI_ge (by omega) (by omega)), ev_z0]
  · rw [if_neg c, if_pos (nI_le (by omega) (by omega)), br_get2 R, br_on R, nI_add]
    obtain ⟨C, S, H1, rb1, len1, f1, a1, a2, a3, a4, a5, a6, a7, a8⟩ := s_br_room R (need := cnt + n) (by omega)
    rw [bd_ok a1, show nI n - 1 = nI n + (-1) from Int32.sub_eq_add_neg _ _]
    obtain ⟨H', b1, b2, b3⟩ := s_add_30 (b := b) (most := most) (rb := rb1) (len := len1) v (hm_z 1) n hm_fuel H1 cnt f1 a2 a3 h8 (by unfold hm_fuel; omega)
    rw [b1, ev_z1]
    exact ⟨C, S, H', rb1, len1, f1, by rw [hm_tk_some, Nat.add_zero, Nat.add_zero], b2, a4, fb_tr a5 b3 a6, a6, a7, a8⟩
end BRO
