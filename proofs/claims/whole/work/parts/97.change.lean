/-! CALL: change -/
theorem prd {a : Nat} (ha : a ≤ 5000) (v : Int32) : nI a - 1 < v ↔ nI a ≤ v := by
  have e : (nI a - 1).toInt = (a : Int) - 1 := by
    rcases Nat.eq_zero_or_pos a with z | z
    · subst z; decide
    · rw [show nI a - 1 = nI (a - 1) from pk_sub (b := 1) z, nI_toInt (by omega)]; omega
  rw [Int32.lt_iff_toInt_lt, Int32.le_iff_toInt_le, nI_toInt (by omega), e]
  omega
theorem ext_lo (v : Int32) : ¬ v < -2147483648 := by
  rw [Int32.lt_iff_toInt_lt]
  have := v.le_toInt
  have e : (-2147483648 : Int32).toInt = -2147483648 := by decide
  rw [e]
  omega
theorem ext_hi (v : Int32) : ¬ 2147483647 < v := by
  rw [Int32.lt_iff_toInt_lt]
  have := v.toInt_lt
  have e : (2147483647 : Int32).toInt = 2147483647 := by decide
  rw [e]
  omega
theorem s_canC {q : Nat} {F : fc_} {H : hc_H} (R : fnR H q F) (o v y : Int32) : p_Kinds_canStand o v (some q) y H = some (if o < 0 ∨ 29 < o ∨ v < lb_ o ∨ mb_ o (F.1 1) (F.1 4) y < v then 0 else 1, 0, 0, H) := by
  rw [p_Kinds_canStand, ev_ite]
  by_cases c1 : o < 0
  · rw [if_pos c1, if_pos (Or.inl c1), ev_z0]
  rw [if_neg c1, ev_ite]
  by_cases c2 : 29 < o
  · rw [if_pos c2, if_pos (Or.inr (Or.inl c2)), ev_z0]
  rw [if_neg c2, bd_0 (s_leastBehind _ _), ev_ite]
  by_cases c3 : v < lb_ o
  · rw [if_pos c3, if_pos (Or.inr (Or.inr (Or.inl c3))), ev_z0]
  rw [if_neg c3, bd_0 (s_mostBehind R _ _), ev_ite]
  by_cases c4 : mb_ o (F.1 1) (F.1 4) y < v
  · rw [if_pos c4, if_pos (Or.inr (Or.inr (Or.inr c4))), ev_z0]
  rw [if_neg c4, if_neg (fun z : o < 0 ∨ 29 < o ∨ v < lb_ o ∨ mb_ o (F.1 1) (F.1 4) y < v => z.elim c1 (fun z => z.elim c2 (fun z => z.elim c3 c4))), ev_z1]
theorem thr {a : Nat} (ha : a ≤ 5000) (v : Int32) (H : hc_H) : (if v < 0 then hm_z 0 else if nI a ≤ v then hm_z 0 else hm_z 1) H = some (if v < 0 ∨ nI a - 1 < v then 0 else 1, 0, 0, H) := by
  rw [ev_ite]
  by_cases c1 : v < 0
  · rw [if_pos c1, if_pos (Or.inl c1), ev_z0]
  rw [if_neg c1, ev_ite]
  by_cases c2 : nI a ≤ v
  · rw [if_pos c2, if_pos (Or.inr ((prd ha v).mpr c2)), ev_z0]
  · rw [if_neg c2, if_neg (fun z => z.elim c1 (fun z => c2 ((prd ha v).mp z))), ev_z1]
theorem s_canM (h : hc_H) (m : Nat) (sc : Nat → Int32) (ar : Nat → Nat → Int32) {g n lo na : Nat} (hg : g < 12) (e14 : ar 14 g = nI lo) (hlo : lo ≤ 12) (e17 : ar 17 g = nI n) (hn : n ≤ 400) (e12 : ar 12 0 = nI na) (hna : na ≤ 12) {o : Int32} (ho : ∃ j, j ≤ 29 ∧ o = nI j) (v : Int32) : p_Mo_canStand (some m) (nI g) o v (mo_em h m sc ar) = some (if v < lb_ o ∨ mb_ o (nI lo) (nI n) (nI na) < v then 0 else 1, 0, 0, mo_em h m sc ar) := by
  have ht := gtp_iff ho
  have in1 := in24 hg
  have cl1 : (nI g).toNatClampNeg = g := nI_clamp (by omega)
  have in0 : ¬ ((0 : Int32) < 0 ∨ 2 ≤ (0 : Int32).toNatClampNeg) := by decide
  have key : ∀ (a : Nat) (P : hM Int32), a ≤ 5000 → (¬ v < 0 → P (mo_em h m sc ar) = (if nI a ≤ v then hm_z 0 else hm_z 1) (mo_em h m sc ar)) → (if v < 0 then hm_z 0 else P) (mo_em h m sc ar) = some (if v < 0 ∨ nI a - 1 < v then 0 else 1, 0, 0, mo_em h m sc ar) := by
    intro a P ha hP
    rw [← thr ha v (mo_em h m sc ar), ev_ite, ev_ite]
    by_cases c : v < 0
    · rw [if_pos c, if_pos c]
    · rw [if_neg c, if_neg c, hP c]
  have k14 := key lo (hm_bind (hm_getr 8 11 (some m)) fun a1 => hm_bind (hm_ild 14 a1 (nI g)) fun a2 => if a2 ≤ v then hm_z 0 else hm_z 1) (by omega) (fun _ => by rw [mo_ref11, mo_ild14, if_neg in1, cl1, e14])
  have k17 := key n (hm_bind (hm_getr 8 14 (some m)) fun a5 => hm_bind (hm_ild 17 a5 (nI g)) fun a6 => if a6 ≤ v then hm_z 0 else hm_z 1) (by omega) (fun _ => by rw [mo_ref14, mo_ild17, if_neg in1, cl1, e17])
  have k12 := key na (hm_bind (hm_getr 8 9 (some m)) fun a3 => hm_bind (hm_ild 12 a3 0) fun a4 => if a4 ≤ v then hm_z 0 else hm_z 1) (by omega) (fun _ => by rw [mo_ref9, mo_ild12, if_neg in0, show (0 : Int32).toNatClampNeg = 0 by decide, e12])
  have k16 := thr (a := 16) (by omega) v (mo_em h m sc ar)
  rw [show nI 16 - 1 = 15 by decide, show nI 16 = 16 by decide] at k16
  unfold p_Mo_canStand
  simp only [hm_jn]
  by_cases c4 : o = 4
  · subst c4
    rw [ev_ite, if_pos rfl, show lb_ 4 = 0 from rfl, show mb_ 4 (nI lo) (nI n) (nI na) = nI lo - 1 from rfl]
    exact k14
  by_cases c5 : o = 5
  · subst c5
    rw [ev_ite, if_neg c4, ev_ite, if_pos rfl, show lb_ 5 = 0 from rfl, show mb_ 5 (nI lo) (nI n) (nI na) = nI lo - 1 from rfl]
    exact k14
  rw [ev_ite, if_neg c4, ev_ite, if_neg c5]
  by_cases ct : o = 18 ∨ o = 19 ∨ o = 20
  · have c2 := ht.mp ct
    have eb : lb_ o = 0 ∧ mb_ o (nI lo) (nI n) (nI na) = nI n - 1 := by
      rcases ct with rfl | rfl | rfl <;> exact ⟨rfl, rfl⟩
    rw [ev_ite, if_neg (Int32.not_le.mpr c2.1), ev_ite, if_neg (Int32.not_le.mpr c2.2), eb.1, eb.2]
    exact k17
  have fin : (if o = 0 then hm_z 1 else if o = 25 then (if v < 0 then hm_z 0 else hm_bind (hm_getr 8 9 (some m)) fun a3 => hm_bind (hm_ild 12 a3 0) fun a4 => if a4 ≤ v then hm_z 0 else hm_z 1) else if o = 26 then (if v < 0 then hm_z 0 else if 16 ≤ v then hm_z 0 else hm_z 1) else if o = 29 then (if v < 0 then hm_z 0 else if 16 ≤ v then hm_z 0 else hm_z 1) else if v = 0 then hm_z 1 else hm_z 0) (mo_em h m sc ar) = some (if v < lb_ o ∨ mb_ o (nI lo) (nI n) (nI na) < v then 0 else 1, 0, 0, mo_em h m sc ar) := by
    by_cases d0 : o = 0
    · subst d0
      rw [ev_ite, if_pos rfl, show lb_ 0 = -2147483648 from rfl, show mb_ 0 (nI lo) (nI n) (nI na) = 2147483647 from rfl, if_neg (fun z => z.elim (ext_lo v) (ext_hi v)), ev_z1]
    by_cases d1 : o = 25
    · subst d1
      rw [ev_ite, if_neg d0, ev_ite, if_pos rfl, show lb_ 25 = 0 from rfl, show mb_ 25 (nI lo) (nI n) (nI na) = nI na - 1 from rfl]
      exact k12
    by_cases d2 : o = 26
    · subst d2
      rw [ev_ite, if_neg d0, ev_ite, if_neg d1, ev_ite, if_pos rfl, show lb_ 26 = 0 from rfl, show mb_ 26 (nI lo) (nI n) (nI na) = 15 from rfl]
      exact k16
    by_cases d3 : o = 29
    · subst d3
      rw [ev_ite, if_neg d0, ev_ite, if_neg d1, ev_ite, if_neg d2, ev_ite, if_pos rfl, show lb_ 29 = 0 from rfl, show mb_ 29 (nI lo) (nI n) (nI na) = 15 from rfl]
      exact k16
    have eb : lb_ o = 0 ∧ mb_ o (nI lo) (nI n) (nI na) = 0 := by
      unfold lb_ mb_
      rw [if_neg d0, if_neg d0, if_neg (fun z : o = 4 ∨ o = 5 => z.elim c4 c5), if_neg ct, if_neg d1, if_neg (fun z : o = 26 ∨ o = 29 => z.elim d2 d3)]
      exact ⟨rfl, rfl⟩
    rw [ev_ite, if_neg d0, ev_ite, if_neg d1, ev_ite, if_neg d2, ev_ite, if_neg d3, eb.1, eb.2, ev_ite]
    by_cases d4 : v = 0
    · subst d4
      rw [if_pos rfl, if_neg (by decide), ev_z1]
    · rw [if_neg d4, if_pos, ev_z0]
      rcases Int32.lt_or_lt_of_ne d4 with z | z
      · exact Or.inl z
      · exact Or.inr z
  rw [ev_ite]
  by_cases d : o ≤ 17
  · rw [if_pos d]; exact fin
  · rw [if_neg d, ev_ite]
    by_cases d' : 21 ≤ o
    · rw [if_pos d']; exact fin
    · exact absurd (ht.mpr ⟨Int32.not_le.mp d, Int32.not_le.mp d'⟩) ct
theorem iok_of {np n : Nat} (hn : n ≤ 400) (hnp : np ≤ 12) {lo o v : Int32} (ho : ∃ j, j ≤ 29 ∧ o = nI j) (h1 : ¬ v < lb_ o) (h2 : ¬ mb_ o lo (nI n) (nI np) < v) : iok_ np n o v := by
  have iv := And.intro h1 h2
  refine ⟨ho, fun z => ?_, fun z => ?_, fun z => ?_⟩
  · have e : mb_ o lo (nI n) (nI np) = nI n - 1 ∧ lb_ o = 0 := by
      rcases z with rfl | rfl | rfl <;> exact ⟨rfl, rfl⟩
    rw [e.1, e.2] at iv
    exact in_pred iv (by omega)
  · subst z
    exact in_pred (n := np) iv (by omega)
  · have e : mb_ o lo (nI n) (nI np) = 15 ∧ lb_ o = 0 := by
      rcases z with rfl | rfl <;> exact ⟨rfl, rfl⟩
    rw [e.1, e.2] at iv
    obtain ⟨j, hj, e⟩ := in_nI iv (by decide) (n := 15) (by decide)
    exact ⟨j, by omega, e⟩
theorem fr_ist0 {β : Type} {h : hc_H} {q : Nat} {F : fc_} (R : fnR h q F) {i : Nat} (hi : i < 400) (x : Int32) (kont : Unit → hM β) : hm_bind (hm_ist 0 (some (q + 1)) (nI i) x) kont h = kont () (hc_up h (q + 1) (.inl (0, 400, va_up (F.2.1 0) i x))) := by
  have := R.2.1 0 (by omega)
  rw [bd_ist, this]
  dsimp only
  rw [if_neg (nI_in hi (by omega)), nI_clamp (by omega)]
theorem fr_ist1 {β : Type} {h : hc_H} {q : Nat} {F : fc_} (R : fnR h q F) {i : Nat} (hi : i < 400) (x : Int32) (kont : Unit → hM β) : hm_bind (hm_ist 1 (some (q + 2)) (nI i) x) kont h = kont () (hc_up h (q + 2) (.inl (1, 400, va_up (F.2.1 1) i x))) := by
  have := R.2.1 1 (by omega)
  rw [bd_ist, this]
  dsimp only
  rw [if_neg (nI_in hi (by omega)), nI_clamp (by omega)]
/-- one instruction of a function is another -/
def fi_ (F : fc_) (i : Nat) (x y : Int32) : fc_ := ru_ (ru_ F 0 (va_up (F.2.1 0) i x)) 1 (va_up (F.2.1 1) i y)
theorem fi_0 (F : fc_) (i : Nat) (x y : Int32) : (fi_ F i x y).2.1 0 = va_up (F.2.1 0) i x := by
  simp only [fi_, ru_]; rw [va_up_ne _ _ (by decide), va_up_self]
theorem fi_1 (F : fc_) (i : Nat) (x y : Int32) : (fi_ F i x y).2.1 1 = va_up (F.2.1 1) i y := by
  simp only [fi_, ru_]; rw [va_up_self]
theorem fi_k (F : fc_) (i : Nat) (x y : Int32) {k : Nat} (h : 2 ≤ k) : (fi_ F i x y).2.1 k = F.2.1 k := by
  simp only [fi_, ru_]; rw [va_up_ne _ _ (by omega), va_up_ne _ _ (by omega)]
theorem fi_fi (F : fc_) (i : Nat) (x y : Int32) : fi_ (fi_ F i x y) i (F.2.1 0 i) (F.2.1 1 i) = F := by
  have e : (fi_ (fi_ F i x y) i (F.2.1 0 i) (F.2.1 1 i)).2.1 = F.2.1 := by
    funext k
    by_cases c0 : k = 0
    · subst c0; rw [fi_0, fi_0, bx_uu, up_same]
    · by_cases c1 : k = 1
      · subst c1; rw [fi_1, fi_1, bx_uu, up_same]
      · rw [fi_k _ _ _ _ (by omega), fi_k _ _ _ _ (by omega)]
  show (F.1, (fi_ (fi_ F i x y) i (F.2.1 0 i) (F.2.1 1 i)).2.1, F.2.2) = F
  rw [e]
def kcf_ (sb : Nat) : hM Int32 := hm_bind (hm_getr 0 2 (some sb)) fun a4 => hm_bind (hm_on 2 a4 (p_Fault_tell a4 3 (-1))) fun _ => hm_bind (hm_getr 0 2 (some sb)) fun a5 => hm_bind (hm_geti 2 0 a5) fun a6 => hm_ret a6
def kmf_ (m : Nat) : hM Int32 := hm_bind (hm_on 8 (some m) (p_Mo_wrong (some m) 3 (-1))) fun _ => hm_bind (hm_on 8 (some m) (p_Mo_told (some m))) fun a1 => hm_ret a1
def kct_ (sb q i : Nat) (a12 a14 : Int32) : hM Int32 := hm_bind (hm_getr 0 2 (some sb)) fun a19 => hm_bind (hm_geti 2 0 a19) fun a20 => hm_jn (hm_bind (hm_getr 0 2 (some sb)) fun a21 => hm_bind (hm_geti 2 0 a21) fun a22 => hm_ret a22) fun k141 => if a20 = 0 then k141 else (hm_bind (hm_getr 3 6 (some q)) fun a23 => hm_bind (hm_ist 0 a23 (nI i) a12) fun _ => hm_bind (hm_getr 3 7 (some q)) fun a24 => hm_bind (hm_ist 1 a24 (nI i) a14) fun _ => k141)
theorem s_kcf {H : hc_H} {sb b w lt vf A B : Nat} (cA : clA_ H sb b w lt vf A B) (ol pg fn : Option Nat) (sv : Nat → Int32) (av : Nat → Nat → Int32) : kcf_ sb (vq_em H vf lt ol pg fn sv (0, -1) av) = some (3, 0, 0, vq_em H vf lt ol pg fn sv (3, -1) av) := by
  have tl := vq_tell H vf lt ol pg fn sv (0, -1) av 3 (-1)
  rw [if_pos rfl] at tl
  rw [kcf_, sb_ref2 (clA_vq cA _ _ _ _ _ _ _ _), vq_onf, bd_0 tl, sb_ref2 (clA_vq cA _ _ _ _ _ _ _ _), vq_fk, ev_ret]
theorem s_kmf (h : hc_H) (m : Nat) {sc : Nat → Int32} (ar : Nat → Nat → Int32) (e7 : sc 7 = 0) : kmf_ m (mo_em h m sc ar) = some (3, 0, 0, mo_em h m (tld_ (va_up (va_up sc 7 3) 8 (-1))) ar) := by
  have tl := s_Mo_wrong h m sc ar 3 (-1)
  rw [if_pos e7] at tl
  have e3 : va_up (va_up sc 7 3) 8 (-1) 7 = 3 := by rw [va_up_ne _ _ (show (7 : Nat) ≠ 8 by decide), va_up_self]
  rw [kmf_, mo_on, bd_0 tl, mo_on, bd_0 (s_Mo_told _ _ _ _), ev_ret]
  unfold tld_
  rw [e3]
def sc1_ (sc : Nat → Int32) : Nat → Int32 := va_up (va_up (va_up sc 0 0) 7 0) 8 (-1)
theorem sc1_7 (sc : Nat → Int32) : sc1_ sc 7 = 0 := by unfold sc1_; rw [va_up_ne _ _ (by decide), va_up_self]
theorem sc1_8 (sc : Nat → Int32) : sc1_ sc 8 = -1 := va_up_self _ _ _
theorem sc1_k (sc : Nat → Int32) {k : Nat} (h : 1 ≤ k) (h' : k < 7) : sc1_ sc k = sc k := by
  unfold sc1_; rw [va_up_ne _ _ (by omega), va_up_ne _ _ (by omega), va_up_ne _ _ (by omega)]
theorem ixJ (g i : Nat) : (4800 + (400 * nI g)) + nI i = nI (4800 * 1 + 400 * g + i) := by
  rw [show (400 : Int32) = nI 400 by decide, show (4800 : Int32) = nI 4800 by decide, pk_mul, nI_add, nI_add]
def u3_ (ar : Nat → Nat → Int32) (J : Nat) (x y : Int32) : Nat → Nat → Int32 := u2_ (u2_ ar 19 J x) 20 J y
theorem u3_k (ar : Nat → Nat → Int32) (J : Nat) (x y : Int32) {k : Nat} (h : k ≠ 19 ∧ k ≠ 20) : u3_ ar J x y k = ar k := by
  unfold u3_; rw [u2_k _ _ _ h.2, u2_k _ _ _ h.1]
theorem u3_19 (ar : Nat → Nat → Int32) (J : Nat) (x y : Int32) (j : Nat) : u3_ ar J x y 19 j = if j = J then x else ar 19 j := by
  unfold u3_
  rw [u2_k _ _ _ (by decide), u2_at]
  by_cases c : j = J
  · rw [if_pos ⟨rfl, c⟩, if_pos c]
  · rw [if_neg (fun z => c z.2), if_neg c]
theorem u3_20 (ar : Nat → Nat → Int32) (J : Nat) (x y : Int32) (j : Nat) : u3_ ar J x y 20 j = if j = J then y else ar 20 j := by
  unfold u3_
  rw [u2_at, u2_k _ _ _ (show (20 : Nat) ≠ 19 by decide)]
  by_cases c : j = J
  · rw [if_pos ⟨rfl, c⟩, if_pos c]
  · rw [if_neg (fun z => c z.2), if_neg c]
theorem agf_u3 {F : fc_} {ar : Nat → Nat → Int32} {g g' n hn i : Nat} (h : agf_ F ar 1 g' n hn) (h4 : n ≤ 400) (hi : i < 400) (hne : g' ≠ g) (x y : Int32) : agf_ F (u3_ ar (4800 * 1 + 400 * g + i) x y) 1 g' n hn := by
  obtain ⟨k1, k2, k3⟩ := h
  refine ⟨fun j hj => ?_, fun i' hi' => ?_, fun k hk j hj => ?_⟩
  · rw [u3_k _ _ _ _ (by omega)]; exact k1 j hj
  · rw [u3_19, u3_20, if_neg (by omega), if_neg (by omega)]; exact k2 i' hi'
  · rw [u3_k _ _ _ _ (by omega)]; exact k3 k hk j hj
theorem agf_u3s {F : fc_} {ar : Nat → Nat → Int32} {g n hn i : Nat} (h : agf_ F ar 1 g n hn) (x y : Int32) : agf_ (fi_ F i x y) (u3_ ar (4800 * 1 + 400 * g + i) x y) 1 g n hn := by
  obtain ⟨k1, k2, k3⟩ := h
  refine ⟨fun j hj => ?_, fun i' hi' => ?_, fun k hk j hj => ?_⟩
  · rw [u3_k _ _ _ _ (by omega)]; exact k1 j hj
  · rw [u3_19, u3_20, fi_0, fi_1]
    by_cases c : i' = i
    · subst c; rw [va_up_self, va_up_self, if_pos rfl, if_pos rfl]; exact ⟨rfl, rfl⟩
    · rw [va_up_ne _ _ c, va_up_ne _ _ c, if_neg (by omega), if_neg (by omega)]; exact k2 i' hi'
  · rw [u3_k _ _ _ _ (by omega)]; exact k3 k hk j hj
theorem fok_fi {np n hn i : Nat} {F : fc_} {x y : Int32} (h : fok_ np F n hn) (hi : iok_ np n x y) : fok_ np (fi_ F i x y) n hn := by
  obtain ⟨a1, a2, a3, a4, a5, a6, a7, a8, a9, a10⟩ := h
  refine ⟨a1, a2, a3, a4, a5, a6, a7, a8, a9, fun j hj => ?_⟩
  rw [fi_0, fi_1]
  by_cases c : j = i
  · subst c; rw [va_up_self, va_up_self]; exact hi
  · rw [va_up_ne _ _ c, va_up_ne _ _ c]; exact a10 j hj
theorem sb0_cp (ar : Nat → Nat → Int32) : sb0_ ar (cpb_ ar 0 1) := ⟨fun k hk => cpb_10 _ _ _ hk, fun k j hk hj => cpb_no _ _ _ (by omega)⟩
theorem sb0_u3 {a ar : Nat → Nat → Int32} (h : sb0_ a ar) {J : Nat} (hJ : 4800 ≤ J) (x y : Int32) : sb0_ a (u3_ ar J x y) := sb0_tr _ _ _ h (sb0_tr _ _ _ (sb0_up ar (k := 19) (by omega) (by rw [bk19 (by omega)]; exact hJ) x) (sb0_up (u2_ ar 19 J x) (k := 20) (by omega) (by rw [bk19 (by omega)]; exact hJ) y))
/-- both rows of an instruction are written -/
def wi_ (h : hc_H) (q : Nat) (F : fc_) (i : Nat) (x y : Int32) : hc_H := hc_up (hc_up h (q + 1) (.inl (0, 400, va_up (F.2.1 0) i x))) (q + 2) (.inl (1, 400, va_up (F.2.1 1) i y))
theorem wr2 {β : Type} {h : hc_H} {q : Nat} {F : fc_} (R : fnR h q F) {i : Nat} (hi : i < 400) (x y : Int32) (vf lt : Nat) (ol pg fn : Option Nat) (sv : Nat → Int32) (e : Int32 × Int32) (av : Nat → Nat → Int32) (kont : hM β) : (hm_bind (hm_getr 3 6 (some q)) fun a15 => hm_bind (hm_ist 0 a15 (nI i) x) fun _ => hm_bind (hm_getr 3 7 (some q)) fun a16 => hm_bind (hm_ist 1 a16 (nI i) y) fun _ => kont) (vq_em h vf lt ol pg fn sv e av) = kont (vq_em (wi_ h q F i x y) vf lt ol pg fn sv e av) := by
  have R1 := fnR_vq R vf lt ol pg fn sv e av
  have R2 := fnR_vq (fnR_ru R (k0 := 0) (by omega) (va_up (F.2.1 0) i x)) vf lt ol pg fn sv e av
  have R2 : fnR (vq_em (hc_up h (q + 1) (.inl (0, 400, va_up (F.2.1 0) i x))) vf lt ol pg fn sv e av) q (ru_ F 0 (va_up (F.2.1 0) i x)) := R2
  have er : (ru_ F 0 (va_up (F.2.1 0) i x)).2.1 1 = F.2.1 1 := by
    simp only [ru_]; rw [va_up_ne _ _ (by decide)]
  rw [fr_ref6 R1, fr_ist0 R1 hi, vq_hup _ _ _ _ _ _ _ _ _ _ 0 400 _ (by omega), fr_ref7 R2, fr_ist1 R2 hi, vq_hup _ _ _ _ _ _ _ _ _ _ 1 400 _ (by omega), er]
  rfl
theorem dsR_wi {h : hc_H} {a n : Nat} {fq : Nat → Option Nat} {FF : Nat → fc_} (D : dsR h a n fq FF) {f q : Nat} (hf : f < 12) (hq : fq f = some q) (i : Nat) (x y : Int32) : dsR (wi_ h q (FF f) i x y) a n fq (va_up FF f (fi_ (FF f) i x y)) := by
  have D1 := dsR_ru D hf hq (k0 := 0) (by omega) (va_up ((FF f).2.1 0) i x)
  have D2 := dsR_ru D1 hf hq (k0 := 1) (by omega) (va_up ((FF f).2.1 1) i y)
  rw [va_up_self, bx_uu] at D2
  exact D2
theorem fz_wi {B : Nat} {h : hc_H} {fq : Nat → Option Nat} {f q : Nat} (hf : f < 12) (hq : fq f = some q) (F : fc_) (i : Nat) (x y : Int32) : fz_ B fq h (wi_ h q F i x y) := fz_tr (fz_ru hf hq (k0 := 0) (by omega) _) (fz_ru hf hq (k0 := 1) (by omega) _)
theorem scq_k (sc : Nat → Int32) (q : sq_) {k : Nat} (h : k < 27) : scq_ sc q k = sc k := by
  unfold scq_
  rw [if_neg (by omega), if_neg (by omega)]
theorem scf_k (sc : Nat → Int32) (e : Int32 × Int32) {k : Nat} (h : k < 7) : scf_ sc e k = sc k := by
  unfold scf_
  rw [va_up_ne _ _ (by omega), va_up_ne _ _ (by omega)]
theorem tld_k (sc : Nat → Int32) {k : Nat} (h : k < 5) : tld_ sc k = sc k := by
  unfold tld_
  rw [va_up_ne _ _ (by omega), va_up_ne _ _ (by omega)]
theorem tld_5 (sc : Nat → Int32) : tld_ sc 5 = sc 7 := by
  unfold tld_
  rw [va_up_ne _ _ (by decide), va_up_self]
theorem tld_6 (sc : Nat → Int32) : tld_ sc 6 = sc 8 := va_up_self _ _ _
theorem vok_ar3 {F : fc_} {ar : Nat → Nat → Int32} {g g' n : Nat} (h : vok_ F ar 1 g' n) (h4 : n ≤ 400) (hne : g' ≠ g) (s : s3_) : vok_ F (ar3_ ar (4800 * 1 + 400 * g) s) 1 g' n := by
  intro i hi
  obtain ⟨k1, k2, k3⟩ := h i hi
  refine ⟨?_, ?_, k3⟩
  · simp only [ar3_]; rw [if_pos trivial, if_neg (by omega)]; exact k1
  · simp only [ar3_]; rw [if_neg (by omega), if_pos trivial, if_neg (by omega)]; exact k2
theorem vok_u3 {F : fc_} {ar : Nat → Nat → Int32} {b g n J : Nat} (h : vok_ F ar b g n) (x y : Int32) : vok_ F (u3_ ar J x y) b g n := by
  intro i hi
  rw [u3_k _ _ _ _ (show (26 : Nat) ≠ 19 ∧ (26 : Nat) ≠ 20 by decide), u3_k _ _ _ _ (show (27 : Nat) ≠ 19 ∧ (27 : Nat) ≠ 20 by decide)]
  exact h i hi
theorem call_change (sb m : Nat) (x1 x2 x3 x4 : Int32) : call_ sb m (p_SB_change (some sb) x1 x2 x3 x4) (p_Mo_change (some m) x1 x2 x3 x4) := by
  intro H Φ ⟨cb, f, cw, fw, ft, na, FA, sc, ar, hc, hm, hr⟩
  obtain ⟨b, w, lt, vf, A, B, rb, len, rw', lw, fqa, fqb, cA, a5, ⟨ol, pg, fn, sv, av, v1, v2⟩, b1, b2, b3, ⟨D, h12, h1, hs, ⟨nb, FB, DB⟩, hX⟩, c2⟩ := hc
  have hAB := cA.2.2
  have self := vq_self v1 v2 a5
  have ecl := vq_clear H vf lt ol pg fn sv ft av
  rw [self] at ecl
  have cA1 := clA_vq cA lt vf ol pg fn sv (0, -1) av
  have D1 := dsR_vq D vf lt ol pg fn sv (0, -1) av
  have on2 : ∀ k : Unit → hM Int32, hm_bind (hm_on 2 (some lt) (p_Fault_clear (some lt))) k H = k () (vq_em H vf lt ol pg fn sv (0, -1) av) := by
    intro k
    rw [bd_on, a5]
    exact (if_pos rfl).trans (bd_0 ecl)
  have e12 := hr.2.2.2.2.2.2.2.1
  have in0 : ¬ ((0 : Int32) < 0 ∨ 2 ≤ (0 : Int32).toNatClampNeg) := by decide
  have cl0 : (0 : Int32).toNatClampNeg = 0 := by decide
  have Kc := s_kcf cA ol pg fn sv av
  have frame : ∀ {h' : hc_H} (ol' pg' fn' : Option Nat) (sv' : Nat → Int32) (e : Int32 × Int32) (av' : Nat → Nat → Int32), fz_ A fqa H h' → fz_ A fqa H (vq_em h' vf lt ol' pg' fn' sv' e av') := by
    intro h' ol' pg' fn' sv' e av' z
    have := fz_vq z vf lt ol pg fn sv ft av ol' pg' fn' sv' e av'
    rw [self] at this
    exact this
  have done : ∀ {h' : hc_H} (ol' pg' fn' : Option Nat) (sv' : Nat → Int32) (e : Int32 × Int32) (av' : Nat → Nat → Int32) (FA' : Nat → fc_) (sc' : Nat → Int32) (ar' : Nat → Nat → Int32), fz_ A fqa H h' → clA_ h' sb b w lt vf A B → dsR h' A na fqa FA' → rel_ cb f cw fw e na FA' sc' ar' → p_SB_change (some sb) x1 x2 x3 x4 H = some (e.1, 0, 0, vq_em h' vf lt ol' pg' fn' sv' e av') → p_Mo_change (some m) x1 x2 x3 x4 (mo_em (vq_em h' vf lt ol' pg' fn' sv' e av') m sc ar) = some (e.1, 0, 0, mo_em (vq_em h' vf lt ol' pg' fn' sv' e av') m sc' ar') → ∃ r C S H1 H2 Φ', p_SB_change (some sb) x1 x2 x3 x4 H = some (r, C, S, H1) ∧ H1.2.2.2 8 m ≠ none ∧ p_Mo_change (some m) x1 x2 x3 x4 H1 = some (r, 0, 0, H2) ∧ inv_ H2 sb m Φ' ∧ C + Φ' ≤ Φ + 3 ∧ S + Φ' ≤ Φ + 3 := by
    intro h' ol' pg' fn' sv' e av' FA' sc' ar' z cA' DA' rl E1 E2
    have zz := frame ol' pg' fn' sv' e av' z
    obtain ⟨V5, F5⟩ := vq_V h' vf lt ol' pg' fn' sv' e av'
    exact fin_ hm (s8_fz zz) (Φ' := Φ) (C := 0) (S := 0) ⟨b, w, lt, vf, A, B, rb, len, rw', lw, fqa, fqb, clA_vq cA' _ _ _ _ _ _ _ _, F5, V5, brR_fz b1 zz, brR_fz b2 zz, b3, ⟨dsR_vq DA' _ _ _ _ _ _ _ _, h12, h1, hs, ⟨nb, FB, dsR_fz DB zz (Ne.symm hAB) (cross_sym hX)⟩, hX⟩, c2⟩ E1 E2 rl (by omega) (by omega)
  have fail : p_SB_change (some sb) x1 x2 x3 x4 H = kcf_ sb (vq_em H vf lt ol pg fn sv (0, -1) av) → (∀ hh, p_Mo_change (some m) x1 x2 x3 x4 (mo_em hh m sc ar) = kmf_ m (mo_em hh m (sc1_ sc) ar)) → ∃ r C S H1 H2 Φ', p_SB_change (some sb) x1 x2 x3 x4 H = some (r, C, S, H1) ∧ H1.2.2.2 8 m ≠ none ∧ p_Mo_change (some m) x1 x2 x3 x4 H1 = some (r, 0, 0, H2) ∧ inv_ H2 sb m Φ' ∧ C + Φ' ≤ Φ + 3 ∧ S + Φ' ≤ Φ + 3 := by
    intro E1 E2
    refine done ol pg fn sv (3, -1) av FA _ ar (fz_rfl H) cA D ?_ (E1.trans Kc) ((E2 _).trans (s_kmf _ m ar (sc1_7 sc)))
    refine rel_sb0 hr (sb0_rfl _) h12 ?_ ?_ ?_ ?_
    · unfold tld_; rw [va_up_ne _ _ (by decide), va_up_ne _ _ (by decide), va_up_ne _ _ (by decide), va_up_ne _ _ (by decide)]; exact sc1_k sc (by omega) (by omega)
    · unfold tld_; rw [va_up_ne _ _ (by decide), va_up_ne _ _ (by decide), va_up_ne _ _ (by decide), va_up_ne _ _ (by decide)]; exact sc1_k sc (by omega) (by omega)
    · unfold tld_; rw [va_up_ne _ _ (by decide), va_up_self, va_up_ne _ _ (by decide), va_up_self]
    · unfold tld_; rw [va_up_self, va_up_self]
  -- the function
  have Hc := s_at D1.1 h12 x1
  by_cases c1 : x1 < 0 ∨ nI na ≤ x1
  · rw [if_pos c1] at Hc
    refine fail ?_ (fun hh => ?_)
    · rw [p_SB_change, sb_ref2 cA, on2, sb_ref4 cA1, pr_on D1.1, bd_0 Hc]
      simp only [hm_jn]
      rw [ev_ite, if_pos trivial]
      rfl
    · rw [p_Mo_change, mo_put0, mo_put7, mo_put8]
      simp only [hm_jn]
      rw [ev_ite]
      by_cases c : x1 < 0
      · rw [if_pos c]; rfl
      · rw [if_neg c, mo_ref9, mo_ild12, if_neg in0, cl0, e12, ev_ite, if_pos (c1.resolve_left c)]
        rfl
  rw [if_neg c1] at Hc
  have n1 : ¬ x1 < 0 := fun z => c1 (Or.inl z)
  have n2 : ¬ nI na ≤ x1 := fun z => c1 (Or.inr z)
  obtain ⟨g, hg, rfl⟩ : ∃ g, g < na ∧ x1 = nI g := nI_ex n1 n2 (by omega)
  obtain ⟨q, hq⟩ := hs g hg
  have hg12 : g < 12 := by omega
  rw [nI_clamp (by omega), hq] at Hc
  have R := (D.2.2 g q hg12 hq).1
  have R1 := (D1.2.2 g q hg12 hq).1
  have hrg := hr.2.2.2.2.2.2.2.2
  obtain ⟨NN, hN⟩ : ∃ N : Nat → Nat, ∀ g, g < na → ∃ hn, fok_ na (FA g) (N g) hn ∧ agf_ (FA g) ar 0 g (N g) hn ∧ anyb_ (FA g) hn ∧ vok_ (FA g) ar 0 g (N g) := pick (P := fun g n => ∃ hn, fok_ na (FA g) n hn ∧ agf_ (FA g) ar 0 g n hn ∧ anyb_ (FA g) hn ∧ vok_ (FA g) ar 0 g n) (fun g hg => by
    obtain ⟨n, hn, q1, q2, q3, q4⟩ := hrg g hg
    refine ⟨n, hn, q1, q2, q3, fun i hi => ?_⟩
    rw [Nat.mul_zero, Nat.zero_add]
    exact q4 i hi)
  obtain ⟨HN, hH⟩ := pick hN
  obtain ⟨q1, q2, qa, qv⟩ := hH g hg
  have e4 := q1.1
  have h4 := q1.2.2.1
  have e17 : ar 17 g = nI (NN g) := by rw [← e4]; exact (ag6 q2 (j := 4) (by omega)).symm
  have in1 := in24 hg12
  have clg : (nI g).toNatClampNeg = g := nI_clamp (by omega)
  have one : ¬ (1 : Int32) = 0 := by decide
  have Hh := s_has R1 h4 e4 x2
  have n12 : ¬ (12 : Int32) ≤ nI g := nI_ge (b := 12) hg12 (by omega)
  have headM : ∀ hh, ¬ x2 < 0 → p_Mo_change (some m) (nI g) x2 x3 x4 (mo_em hh m sc ar) = (if nI (NN g) ≤ x2 then kmf_ m else if x3 < 0 then kmf_ m else if 29 < x3 then kmf_ m else hm_bind (hm_on 8 (some m) (p_Mo_canStand (some m) (nI g) x3 x4)) fun a7 => if a7 = 0 then kmf_ m else hm_bind (hm_on 8 (some m) (p_Mo_copyProgram (some m) 0 1)) fun _ => hm_bind (hm_getr 8 16 (some m)) fun a8 => hm_bind (hm_ist 19 a8 ((4800 + (400 * nI g)) + x2) x3) fun _ => hm_bind (hm_getr 8 17 (some m)) fun a9 => hm_bind (hm_ist 20 a9 ((4800 + (400 * nI g)) + x2) x4) fun _ => hm_bind (hm_on 8 (some m) (p_Mo_verify (some m) 1 (nI g))) fun _ => kxm_ m) (mo_em hh m (sc1_ sc) ar) := by
    intro hh hx
    rw [p_Mo_change, mo_put0, mo_put7, mo_put8]
    simp only [hm_jn]
    rw [ev_ite, if_neg n1, mo_ref9, mo_ild12, if_neg in0, cl0, e12, ev_ite, if_neg n2, ev_ite, if_neg hx, mo_ref14, ev_ite, if_neg n1, ev_ite, if_neg n12, mo_ild17, if_neg in1, clg, e17]
    rfl
  have headC : ∀ y, p_Function_has (some q) x2 (vq_em H vf lt ol pg fn sv (0, -1) av) = some (y, 0, 0, vq_em H vf lt ol pg fn sv (0, -1) av) → p_SB_change (some sb) (nI g) x2 x3 x4 H = (if y = 0 then kcf_ sb else hm_bind (p_Kinds_canStand x3 x4 (some q) (nI na)) fun a10 => if a10 = 0 then kcf_ sb else hm_bind (hm_getr 3 6 (some q)) fun a11 => hm_bind (hm_ild 0 a11 x2) fun a12 => hm_bind (hm_getr 3 7 (some q)) fun a13 => hm_bind (hm_ild 1 a13 x2) fun a14 => hm_bind (hm_getr 3 6 (some q)) fun a15 => hm_bind (hm_ist 0 a15 x2 x3) fun _ => hm_bind (hm_getr 3 7 (some q)) fun a16 => hm_bind (hm_ist 1 a16 x2 x4) fun _ => hm_bind (hm_getr 0 3 (some sb)) fun a17 => hm_bind (hm_getr 0 4 (some sb)) fun a18 => hm_bind (hm_getr 0 2 (some sb)) fun aL => hm_bind (hm_on 7 a17 (p_Verifier_verify a17 a18 (nI g) aL)) fun _ => hm_bind (hm_getr 0 2 (some sb)) fun a19 => hm_bind (hm_geti 2 0 a19) fun a20 => hm_jn (hm_bind (hm_getr 0 2 (some sb)) fun a21 => hm_bind (hm_geti 2 0 a21) fun a22 => hm_ret a22) fun k141 => if a20 = 0 then k141 else (hm_bind (hm_getr 3 6 (some q)) fun a23 => hm_bind (hm_ist 0 a23 x2 a12) fun _ => hm_bind (hm_getr 3 7 (some q)) fun a24 => hm_bind (hm_ist 1 a24 x2 a14) fun _ => k141)) (vq_em H vf lt ol pg fn sv (0, -1) av) := by
    intro y hy
    rw [p_SB_change, sb_ref2 cA, on2, sb_ref4 cA1, pr_on D1.1, bd_0 Hc]
    simp only [hm_jn]
    rw [ev_ite, if_neg (so_ne q), fr_on R1, bd_0 hy, ev_ite, ev_ite]
    by_cases c : y = 0
    · rw [if_pos c, if_pos c]; rfl
    · rw [if_neg c, if_neg c, sb_ref4 cA1, pr_get1 D1.1]; rfl
  by_cases d1 : x2 < 0
  · rw [if_pos (Or.inl d1)] at Hh
    refine fail ?_ (fun hh => ?_)
    · rw [headC 0 Hh, if_pos rfl]
    · rw [p_Mo_change, mo_put0, mo_put7, mo_put8]
      simp only [hm_jn]
      rw [ev_ite, if_neg n1, mo_ref9, mo_ild12, if_neg in0, cl0, e12, ev_ite, if_neg n2, ev_ite, if_pos d1]
      rfl
  by_cases d2 : nI (NN g) ≤ x2
  · rw [if_pos (Or.inr d2)] at Hh
    refine fail ?_ (fun hh => ?_)
    · rw [headC 0 Hh, if_pos rfl]
    · rw [headM hh d1, if_pos d2]
  rw [if_neg (fun z => z.elim d1 d2)] at Hh
  have headC := headC 1 Hh
  rw [if_neg one] at headC
  have headM := fun hh => headM hh d1
  obtain ⟨i, hi, rfl⟩ : ∃ i, i < NN g ∧ x2 = nI i := nI_ex d1 d2 (by omega)
  have hi4 : i < 400 := by omega
  have CC := s_canC R1 x3 x4 (nI na)
  by_cases d3 : x3 < 0
  · rw [if_pos (Or.inl d3)] at CC
    refine fail ?_ (fun hh => ?_)
    · rw [headC, bd_0 CC, if_pos rfl]
    · rw [headM hh, if_neg d2, if_pos d3]
  by_cases d4 : 29 < x3
  · rw [if_pos (Or.inr (Or.inl d4))] at CC
    refine fail ?_ (fun hh => ?_)
    · rw [headC, bd_0 CC, if_pos rfl]
    · rw [headM hh, if_neg d2, if_neg d3, if_pos d4]
  obtain ⟨o, ho, rfl⟩ : ∃ o, o ≤ 29 ∧ x3 = nI o := nI_of2 (M := 29) (n := 29) (by decide) d3 (Int32.not_lt.mp d4)
  obtain ⟨lo, hlo, elo⟩ := q1.2.2.2.2.2.2.1
  have e14 : ar 14 g = nI lo := by rw [← elo]; exact (ag6 q2 (j := 1) (by omega)).symm
  have CM := fun hh => s_canM hh m (sc1_ sc) ar hg12 e14 hlo e17 h4 e12 h12 ⟨o, ho, rfl⟩ x4
  rw [elo, e4] at CC
  by_cases d5 : x4 < lb_ (nI o) ∨ mb_ (nI o) (nI lo) (nI (NN g)) (nI na) < x4
  · rw [if_pos (Or.inr (Or.inr d5))] at CC
    refine fail ?_ (fun hh => ?_)
    · rw [headC, bd_0 CC, if_pos rfl]
    · have CM := CM hh
      rw [if_pos d5] at CM
      rw [headM hh, if_neg d2, if_neg d3, if_neg d4, mo_on, bd_0 CM, if_pos rfl]
  rw [if_neg (fun z => z.elim d3 (fun z => z.elim d4 d5))] at CC
  have iok := iok_of h4 h12 ⟨o, ho, rfl⟩ (fun z => d5 (Or.inl z)) (fun z => d5 (Or.inr z))
  -- the changed function
  have in3 : ¬ (nI i < 0 ∨ 400 ≤ (nI i).toNatClampNeg) := nI_in (by omega) (by omega)
  have cl3 : (nI i).toNatClampNeg = i := nI_clamp (by omega)
  have cA2 : clA_ (wi_ H q (FA g) i (nI o) x4) sb b w lt vf A B := cA
  have D2 := dsR_wi D hg12 hq i (nI o) x4
  have startC : p_SB_change (some sb) (nI g) (nI i) (nI o) x4 H = hm_bind (p_Verifier_verify (some vf) (some A) (nI g) (some lt)) (fun _ => kct_ sb q i ((FA g).2.1 0 i) ((FA g).2.1 1 i)) (vq_em (wi_ H q (FA g) i (nI o) x4) vf lt ol pg fn sv (0, -1) av) := by
    rw [headC, bd_0 CC, if_neg one, fr_ref6 R1, fr_ild0 R1, if_neg in3, cl3, fr_ref7 R1, fr_ild1 R1, if_neg in3, cl3, wr2 R hi4, sb_ref3 (clA_vq cA2 _ _ _ _ _ _ _ _), sb_ref4 (clA_vq cA2 _ _ _ _ _ _ _ _), sb_ref2 (clA_vq cA2 _ _ _ _ _ _ _ _), vq_on]
    rfl
  have hok2 : ∀ g', g' < na → fok_ na (va_up FA g (fi_ (FA g) i (nI o) x4) g') (NN g') (HN g') := by
    intro g' hg'
    by_cases c : g' = g
    · subst c; rw [va_up_self]; exact fok_fi q1 iok
    · rw [va_up_ne _ _ c]; exact (hH g' hg').1
  have hag2 : ∀ g', g' < na → agf_ (va_up FA g (fi_ (FA g) i (nI o) x4) g') (u3_ (cpb_ ar 0 1) (4800 * 1 + 400 * g + i) (nI o) x4) 1 g' (NN g') (HN g') := by
    intro g' hg'
    obtain ⟨t1, t2, t3, t4⟩ := hH g' hg'
    have cp := agf_cp (d := 1) t2 (by omega) t1.2.2.1 t1.2.2.2.2.1 t3
    by_cases c : g' = g
    · subst c; rw [va_up_self]; exact agf_u3s cp _ _
    · rw [va_up_ne _ _ c]; exact agf_u3 cp t1.2.2.1 hi4 c _ _
  have V := s_V_verify (vf := vf) (lt := lt) (prF_of D2 h12 hs) hg (okf_of hok2 hg) ol pg fn sv (0, -1) rfl av
  have evf := vf_eq h12 hok2 hag2 hg
  have eQ : (fqa g).getD 0 = q := by rw [hq]; rfl
  have M := fun hh => s_Mo_verify hh m (sc1_ sc) (u3_ (cpb_ ar 0 1) (4800 * 1 + 400 * g + i) (nI o) x4) 1 g (NN g) (HN g) (by omega) hg12 (okr_of h12 hok2 hag2 hg) (sc1_7 sc)
  have inJ : ¬ (nI (4800 * 1 + 400 * g + i) < 0 ∨ 9600 ≤ (nI (4800 * 1 + 400 * g + i)).toNatClampNeg) := nI_in (by omega) (by omega)
  have clJ : (nI (4800 * 1 + 400 * g + i)).toNatClampNeg = 4800 * 1 + 400 * g + i := nI_clamp (by omega)
  have startM : ∀ hh, p_Mo_change (some m) (nI g) (nI i) (nI o) x4 (mo_em hh m sc ar) = hm_bind (p_Mo_verify (some m) (nI 1) (nI g)) (fun _ => kxm_ m) (mo_em hh m (sc1_ sc) (u3_ (cpb_ ar 0 1) (4800 * 1 + 400 * g + i) (nI o) x4)) := by
    intro hh
    have CM := CM hh
    rw [if_neg d5] at CM
    have cp : p_Mo_copyProgram (some m) 0 1 (mo_em hh m (sc1_ sc) ar) = _ := s_Mo_copy hh m (sc1_ sc) ar (s := 0) (d := 1) (Or.inl ⟨rfl, rfl⟩)
    rw [headM hh, if_neg d2, if_neg d3, if_neg d4, mo_on, bd_0 CM, if_neg one, mo_on, bd_0 cp, mo_ref16, ixJ, mo_ist19, if_neg inJ, clJ, mo_ref17, mo_ist20, if_neg inJ, clJ, mo_on]
    rfl
  have J4 : 4800 ≤ 4800 * 1 + 400 * g + i := by omega
  have sbx := sb0_u3 (sb0_cp ar) J4 (nI o) x4
  cases ev : vf_ (lkr_ (u3_ (cpb_ ar 0 1) (4800 * 1 + 400 * g + i) (nI o) x4) 1 g (NN g) (HN g)) g (NN g) with
  | inl e =>
    rw [evf, ev] at V
    obtain ⟨sv', av', w1, w2⟩ := V
    have D3 := dsR_wi D2 hg12 hq i ((FA g).2.1 0 i) ((FA g).2.1 1 i)
    rw [bx_uu] at D3
    rw [va_up_self] at D3
    rw [fi_fi, up_same] at D3
    have R2 := (D2.2.2 g q hg12 hq).1
    rw [va_up_self] at R2
    have cA3 : clA_ (wi_ (wi_ H q (FA g) i (nI o) x4) q (fi_ (FA g) i (nI o) x4) i ((FA g).2.1 0 i) ((FA g).2.1 1 i)) sb b w lt vf A B := cA
    have E1 : p_SB_change (some sb) (nI g) (nI i) (nI o) x4 H = some (e.1, 0, 0, vq_em (wi_ (wi_ H q (FA g) i (nI o) x4) q (fi_ (FA g) i (nI o) x4) i ((FA g).2.1 0 i) ((FA g).2.1 1 i)) vf lt (some lt) (some A) (some ((fqa g).getD 0)) sv' e av') := by
      rw [startC, bd_0 w2, kct_, sb_ref2 (clA_vq cA2 _ _ _ _ _ _ _ _), vq_fk]
      simp only [hm_jn]
      rw [ev_ite, if_neg w1, wr2 R2 hi4, sb_ref2 (clA_vq cA3 _ _ _ _ _ _ _ _), vq_fk, ev_ret]
    have M1 := M (vq_em (wi_ (wi_ H q (FA g) i (nI o) x4) q (fi_ (FA g) i (nI o) x4) i ((FA g).2.1 0 i) ((FA g).2.1 1 i)) vf lt (some lt) (some A) (some ((fqa g).getD 0)) sv' e av')
    rw [ev] at M1
    obtain ⟨qq, s, m1, m2⟩ := M1
    refine done (some lt) (some A) (some ((fqa g).getD 0)) sv' e av' FA (tld_ (scf_ (scq_ (sc1_ sc) qq) e)) (ar3_ (u3_ (cpb_ ar 0 1) (4800 * 1 + 400 * g + i) (nI o) x4) (4800 * 1 + 400 * g) s) (fz_tr (fz_wi hg12 hq _ _ _ _) (fz_wi hg12 hq _ _ _ _)) cA3 D3 ?_ E1 ?_
    · refine rel_sb0 hr (sb0_sb1 sbx (sb1_ar3 _ g s)) h12 ?_ ?_ ?_ ?_
      · rw [tld_k _ (by omega), scf_k _ _ (by omega), scq_k _ _ (by omega), sc1_k _ (by omega) (by omega)]
      · rw [tld_k _ (by omega), scf_k _ _ (by omega), scq_k _ _ (by omega), sc1_k _ (by omega) (by omega)]
      · rw [tld_5, scf_7]
      · rw [tld_6]; exact va_up_self _ _ _
    · rw [startM, bd_0 m2, kxm_f _ _ _ (by rw [scf_7]; exact m1), scf_7]
  | inr s =>
    rw [evf, ev] at V
    obtain ⟨sv', av', g2, g3, w1, w2⟩ := V
    rw [eQ] at w1
    have D3 := dsR_ru D2 hg12 hq (k0 := 2) (by omega) g2
    have D4 := dsR_ru D3 hg12 hq (k0 := 3) (by omega) g3
    rw [va_up_self, bx_uu, va_up_self, bx_uu] at D4
    have cA3 : clA_ (hc_up (hc_up (wi_ H q (FA g) i (nI o) x4) (q + 3) (.inl (2, 400, g2))) (q + 4) (.inl (3, 400, g3))) sb b w lt vf A B := cA
    have E1 : p_SB_change (some sb) (nI g) (nI i) (nI o) x4 H = some (0, 0, 0, vq_em (hc_up (hc_up (wi_ H q (FA g) i (nI o) x4) (q + 3) (.inl (2, 400, g2))) (q + 4) (.inl (3, 400, g3))) vf lt (some lt) (some A) (some q) sv' (0, -1) av') := by
      rw [startC, bd_0 w1, kct_, sb_ref2 (clA_vq cA3 _ _ _ _ _ _ _ _), vq_fk]
      simp only [hm_jn]
      rw [ev_ite, if_pos trivial, sb_ref2 (clA_vq cA3 _ _ _ _ _ _ _ _), vq_fk, ev_ret]
    have M1 := M (vq_em (hc_up (hc_up (wi_ H q (FA g) i (nI o) x4) (q + 3) (.inl (2, 400, g2))) (q + 4) (.inl (3, 400, g3))) vf lt (some lt) (some A) (some q) sv' (0, -1) av')
    rw [ev] at M1
    obtain ⟨qq, m2⟩ := M1
    have e7 : scq_ (sc1_ sc) qq 7 = 0 := by rw [scq_k _ _ (by omega), sc1_7]
    have iv := vf_ivw (okf_of hok2 hg) h12 (evf.trans ev)
    refine done (some lt) (some A) (some q) sv' (0, -1) av' _ (tld_ (scq_ (sc1_ sc) qq)) (cpb_ (ar3_ (u3_ (cpb_ ar 0 1) (4800 * 1 + 400 * g + i) (nI o) x4) (4800 * 1 + 400 * g) s) 1 0) (fz_tr (fz_wi hg12 hq _ _ _ _) (fz_tr (fz_ru hg12 hq (k0 := 2) (by omega) g2) (fz_ru hg12 hq (k0 := 3) (by omega) g3))) cA3 D4 ?_ E1 ?_
    · have s0 := sb0_sb1 sbx (sb1_ar3 (u3_ (cpb_ ar 0 1) (4800 * 1 + 400 * g + i) (nI o) x4) g s)
      have a3 := sb1_ar3 (u3_ (cpb_ ar 0 1) (4800 * 1 + 400 * g + i) (nI o) x4) g s
      obtain ⟨r1, r2, r3, r4, r5, r6, r7, r8, r9⟩ := hr
      refine ⟨?_, ?_, ?_, r4, ?_, ?_, ?_, ?_, fun g' hg' => ?_⟩
      · rw [tld_k _ (by omega), scq_k _ _ (by omega), sc1_k _ (by omega) (by omega)]; exact r1
      · rw [cpb_10 _ _ _ (by omega), s0.1 10 (by omega)]; exact r2
      · rw [tld_k _ (by omega), scq_k _ _ (by omega), sc1_k _ (by omega) (by omega)]; exact r3
      · rw [cpb_10 _ _ _ (by omega), s0.1 11 (by omega)]; exact r5
      · rw [tld_5]; exact e7
      · rw [tld_6, scq_k _ _ (by omega)]; exact sc1_8 sc
      · have t1 : ∀ a : Nat → Nat → Int32, cpb_ a 1 0 12 0 = a 12 1 := fun a => cpb_at a 1 0 (k := 12) (j := 0) (by omega) (by omega) (by decide)
        have t2 : cpb_ ar 0 1 12 1 = ar 12 0 := cpb_at ar 0 1 (k := 12) (j := 0) (by omega) (by omega) (by decide)
        rw [t1, a3.1 12 (by omega), u3_k _ _ _ _ (by omega), t2]; exact r8
      · obtain ⟨t1, t2, t3, t4⟩ := hH g' hg'
        have n4 := t1.2.2.1
        have n6 := t1.2.2.2.2.1
        by_cases c : g' = g
        · subst c
          rw [va_up_self]
          have sm := sm_ru (fi_ (FA g') i (nI o) x4) g2 g3
          have ag := hag2 g' hg'
          rw [va_up_self] at ag
          have vk : vok_ (ru_ (ru_ (fi_ (FA g') i (nI o) x4) 2 g2) 3 g3) (ar3_ (u3_ (cpb_ ar 0 1) (4800 * 1 + 400 * g' + i) (nI o) x4) (4800 * 1 + 400 * g') s) 1 g' (NN g') := by
            intro j hj
            obtain ⟨y1, y2⟩ := w2 j hj
            rw [ar3_26 _ _ _ (by omega), ar3_27 _ _ _ (by omega)]
            have z2 : (ru_ (ru_ (fi_ (FA g') i (nI o) x4) 2 g2) 3 g3).2.1 2 j = s.1 j := by
              simp only [ru_]; rw [va_up_ne _ _ (by decide), va_up_self]; exact y1
            have z3 : (ru_ (ru_ (fi_ (FA g') i (nI o) x4) 2 g2) 3 g3).2.1 3 j = s.2.1 j := by
              simp only [ru_]; rw [va_up_self]; exact y2
            refine ⟨z2, z3, ?_⟩
            rw [z2]
            rcases iv j hj with ⟨z, -⟩ | ⟨d, z1, z2⟩
            · exact Or.inl z
            · exact Or.inr ⟨d, z1, z2.1⟩
          have vk0 := vok_cp (d := 0) vk hg12 n4
          refine ⟨NN g', HN g', sm_fok sm (fok_fi t1 iok), agf_cp (sm_agf sm a3.1 ag) hg12 n4 n6 t3, t3, fun j hj => ?_⟩
          have := vk0 j hj
          rw [Nat.mul_zero, Nat.zero_add] at this
          exact this
        · rw [va_up_ne _ _ c]
          have ag := hag2 g' hg'
          rw [va_up_ne _ _ c] at ag
          have vk0 := vok_cp (d := 0) (vok_ar3 (vok_u3 (J := 4800 * 1 + 400 * g + i) (vok_cp (d := 1) t4 (by omega) n4) (nI o) x4) n4 c s) (by omega) n4
          refine ⟨NN g', HN g', t1, agf_cp (sm_agf (sm_rfl _) a3.1 ag) (by omega) n4 n6 t3, t3, fun j hj => ?_⟩
          have := vk0 j hj
          rw [Nat.mul_zero, Nat.zero_add] at this
          exact this
    · rw [startM, bd_0 m2, kxm_0 _ _ _ e7, e7]
