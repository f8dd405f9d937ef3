/-! THE CLASS's READER at rd, its Fault at lt, over a heap g: nextByte, number, start -/
def rf_em (g : hc_H) (rd b lt : Nat) (p : Int32) (ft : Int32 × Int32) : hc_H := (g.1, g.2.1, g.2.2.1, fun k a => if k = 6 ∧ a = rd then some [vr_ (some b), vr_ (some lt), vi_ p] else if k = 2 ∧ a = lt then some [vi_ ft.1, vi_ ft.2] else g.2.2.2 k a)
section RFE
variable {β : Type} (g : hc_H) (rd b lt : Nat) (p : Int32) (ft : Int32 × Int32)
theorem rf_o : (rf_em g rd b lt p ft).2.2.2 6 rd = some [vr_ (some b), vr_ (some lt), vi_ p] := by simp [rf_em]
theorem rf_f : (rf_em g rd b lt p ft).2.2.2 2 lt = some [vi_ ft.1, vi_ ft.2] := by simp [rf_em]
theorem rf_oo {k : Nat} (hk : k ≠ 6 ∧ k ≠ 2) (a : Nat) : (rf_em g rd b lt p ft).2.2.2 k a = g.2.2.2 k a := by simp [rf_em, hk.1, hk.2]
theorem rf_get2 (kont : Int32 → hM β) : hm_bind (hm_geti 6 2 (some rd)) kont (rf_em g rd b lt p ft) = kont p (rf_em g rd b lt p ft) := by
  rw [bd_geti, ev_fld, rf_o]; rfl
theorem rf_ref0 (kont : Option Nat → hM β) : hm_bind (hm_getr 6 0 (some rd)) kont (rf_em g rd b lt p ft) = kont (some b) (rf_em g rd b lt p ft) := by
  rw [bd_getr, ev_fld, rf_o]; rfl
theorem rf_ref1 (kont : Option Nat → hM β) : hm_bind (hm_getr 6 1 (some rd)) kont (rf_em g rd b lt p ft) = kont (some lt) (rf_em g rd b lt p ft) := by
  rw [bd_getr, ev_fld, rf_o]; rfl
theorem rf_put2 (v : Int32) (kont : Unit → hM β) : hm_bind (hm_puti 6 2 (some rd) v) kont (rf_em g rd b lt p ft) = kont () (rf_em g rd b lt v ft) := by
  rw [bd_puti, rf_o]
  dsimp only
  rw [if_pos (show 2 < [vr_ (some b), vr_ (some lt), vi_ p].length from Nat.le_of_ble_eq_true rfl)]
  congr 1
  refine hc_ext rfl (fun _ _ => rfl) (fun _ _ => rfl) (fun k a => ?_)
  rw [up_o4]
  simp only [rf_em]
  split <;> rfl
theorem rf_on {α : Type} (mm : hM α) : hm_on 6 (some rd) mm (rf_em g rd b lt p ft) = mm (rf_em g rd b lt p ft) := ev_on (rf_o g rd b lt p ft) mm
theorem rf_bon {α : Type} (mm : hM α) (kont : α → hM β) : hm_bind (hm_on 6 (some rd) mm) kont (rf_em g rd b lt p ft) = hm_bind mm kont (rf_em g rd b lt p ft) := by
  rw [bd_on, rf_o]; rfl
theorem rf_onf {α : Type} (mm : hM α) (kont : α → hM β) : hm_bind (hm_on 2 (some lt) mm) kont (rf_em g rd b lt p ft) = hm_bind mm kont (rf_em g rd b lt p ft) := by
  rw [bd_on, rf_f]; rfl
theorem rf_fk (kont : Int32 → hM β) : hm_bind (hm_geti 2 0 (some lt)) kont (rf_em g rd b lt p ft) = kont ft.1 (rf_em g rd b lt p ft) := by
  rw [bd_geti, ev_fld, rf_f]; rfl
theorem rf_upf (x : Int32 × Int32) : hc_up (rf_em g rd b lt p ft) lt (.inr (.inr (2, [vi_ x.1, vi_ x.2]))) = rf_em g rd b lt p x := by
  refine hc_ext rfl (fun _ _ => rfl) (fun _ _ => rfl) (fun k a => ?_)
  rw [up_o4]
  simp only [rf_em]
  by_cases e : k = 2
  · subst e; simp
    split <;> rfl
  · simp [e]
theorem rf_tell (k q : Int32) : p_Fault_tell (some lt) k q (rf_em g rd b lt p ft) = some ((), 0, 0, rf_em g rd b lt p (if ft.1 = 0 then (k, q) else ft)) := by
  have p0 : ∀ (x : Int32 × Int32) (v : Int32) (kont : Unit → hM Unit), hm_bind (hm_puti 2 0 (some lt) v) kont (rf_em g rd b lt p x) = kont () (rf_em g rd b lt p (v, x.2)) := by
    intro x v kont
    rw [bd_puti, rf_f]
    dsimp only
    rw [if_pos (show 0 < [vi_ x.1, vi_ x.2].length from Nat.le_of_ble_eq_true rfl), ← rf_upf g rd b lt p x (v, x.2)]; rfl
  have p1 : ∀ (x : Int32 × Int32) (v : Int32) (kont : Unit → hM Unit), hm_bind (hm_puti 2 1 (some lt) v) kont (rf_em g rd b lt p x) = kont () (rf_em g rd b lt p (x.1, v)) := by
    intro x v kont
    rw [bd_puti, rf_f]
    dsimp only
    rw [if_pos (show 1 < [vi_ x.1, vi_ x.2].length from Nat.le_of_ble_eq_true rfl), ← rf_upf g rd b lt p x (x.1, v)]; rfl
  rw [p_Fault_tell, rf_fk, ev_ite]
  by_cases e : ft.1 = 0
  · rw [if_pos e, if_pos e, p0, p1, ev_ret]
  · rw [if_neg e, if_neg e, ev_ret]
end RFE
theorem brR_rf {g : hc_H} {b most rb len N : Nat} {f : Nat → Int32} (R : brR g b most rb len N f) (rd lt : Nat) (p : Int32) (ft : Int32 × Int32) : brR (rf_em g rd b lt p ft) b most rb len N f := by
  refine ⟨?_, R.2⟩
  rw [rf_oo _ _ _ _ _ _ (by decide)]; exact R.1
theorem lt_ne {x : Int32} (h : 0 < x) : ¬ x = 0 := fun z => by rw [z] at h; exact absurd h (by decide)
section RCN
variable {γ : Type} (G : γ → hc_H) (rd b lt most rb len N : Nat) (f : Nat → Int32) (I : γ → Prop) (K : γ → γ → Prop)
abbrev Ec_ (c : γ) (p : Int32) (ft : Int32 × Int32) : hc_H := rf_em (G c) rd b lt p ft
variable {I K}
theorem ct_nextByte (hG : ∀ c, I c → brR (G c) b most rb len N f) (rfK : ∀ a, K a a) : rt_ (Ec_ G rd b lt) I K (p_Reader_nextByte (some rd)) (fun _ => True) := by
  intro c p ft hI hf
  have R := brR_rf (hG c hI) rd lt p ft
  rw [p_Reader_nextByte, rf_get2, rf_ref0, br_get2 R, ev_ite]
  by_cases z : p < nI N
  · rw [if_pos z, rf_ref0, rf_get2, br_on R, bd_0 (s_br_at R p), rf_get2, rf_put2, ev_ret]
    exact ⟨_, c, _, trivial, hI, rfK c, rfl⟩
  · rw [if_neg z, rf_ref1, rf_ref0, br_get2 R, rf_onf, bd_0 (rf_tell _ _ _ _ _ _ _ _), if_neg (lt_ne hf), ev_ret]
    exact ⟨_, c, _, trivial, hI, rfK c, rfl⟩
theorem co_nextByte (hG : ∀ c, I c → brR (G c) b most rb len N f) (rfK : ∀ a, K a a) (c : γ) (hI : I c) : ro_ (Ec_ G rd b lt) N I K (p_Reader_nextByte (some rd)) c (nb_ (fun j => f j &&& 255) N) (fun v => v) (fun _ => c) (fun _ => True) := by
  intro p ft hp hf
  have R := brR_rf (hG c hI) rd lt (nI p) ft
  have hN : N ≤ 30000 := by have := R.2.2.1; have := R.2.2.2.1; have := R.2.2.2.2.2.1; omega
  rw [p_Reader_nextByte, rf_get2, rf_ref0, br_get2 R, ev_ite, nb_]
  by_cases z : p < N
  · rw [if_pos z, if_pos (nI_lt z (by omega)), rf_ref0, rf_get2, br_on R, bd_0 (s_br_at R _), rf_get2, rf_put2, ev_ret, if_neg (fun z' => z'.elim (nI_pos (by omega)) (nI_ge z (by omega))), nI_clamp (by omega), nI_1]
    exact ⟨z, hI, rfK c, rfl⟩
  · rw [if_neg z, if_neg (nI_nlt (by omega) (by omega)), rf_ref1, rf_ref0, br_get2 R, rf_onf, bd_0 (rf_tell _ _ _ _ _ _ _ _), if_pos hf, ev_ret]
    exact ⟨(by decide : (0 : Int32) < 1), _, c, _, trivial, hI, rfK c, rfl⟩
theorem ct_number_12 (hG : ∀ c, I c → brR (G c) b most rb len N f) (rfK : ∀ a, K a a) (tr : ∀ a b c, K a b → K b c → K a c) (x1 x2 x3 x4 : Int32) (kx : Int32 → hM Int32) {D : Int32 → Prop} (hk : ∀ v, rt_ (Ec_ G rd b lt) I K (kx v) D) (n : Nat) (hn : n ≤ 8) (e1 : x1 = nI n) : ∀ (r fu : Nat) (v : Int32), r ≤ n → r < fu → rt_ (Ec_ G rd b lt) I K (p_Reader_number_12 (some rd) x1 x2 x3 x4 kx fu v (nI (n - r))) D := by
  intro r
  induction r with
  | zero =>
    intro fu v _ hfu
    obtain ⟨g, rfl⟩ : ∃ g, fu = g + 1 := ⟨fu - 1, by omega⟩
    rw [p_Reader_number_12, if_pos (by rw [e1]; exact nI_le (by omega) (by omega))]
    exact hk v
  | succ r ih =>
    intro fu v hr hfu
    obtain ⟨g, rfl⟩ : ∃ g, fu = g + 1 := ⟨fu - 1, by omega⟩
    rw [p_Reader_number_12, if_neg (by rw [e1]; exact nI_ge (by omega) (by omega)), nI_1, show n - (r + 1) + 1 = n - r by omega]
    exact rt_bind tr (D := fun _ => True) (rt_on (fun c p ft => rf_on _ _ _ _ _ _ _) (ct_nextByte G rd b lt most rb len N f hG rfK)) (fun w _ => ih g _ (by omega) (by omega))
theorem co_number_12 (hG : ∀ c, I c → brR (G c) b most rb len N f) (rfK : ∀ a, K a a) (tr : ∀ a b c, K a b → K b c → K a c) (x1 x2 x3 x4 : Int32) (kx : Int32 → hM Int32) {D : Int32 → Prop} {δ : Type} {val : δ → Int32} {T : Int32 → rs_ δ} (c : γ) (hI : I c) (hk : ∀ v, ro_ (Ec_ G rd b lt) N I K (kx v) c (T v) val (fun _ => c) D) (ht : ∀ v, rt_ (Ec_ G rd b lt) I K (kx v) D) (n : Nat) (hn : n ≤ 8) (e1 : x1 = nI n) : ∀ (r fu : Nat) (v : Int32), r ≤ n → r < fu → ro_ (Ec_ G rd b lt) N I K (p_Reader_number_12 (some rd) x1 x2 x3 x4 kx fu v (nI (n - r))) c (sbd_ (nv_ (fun j => f j &&& 255) N r v) T) val (fun _ => c) D := by
  intro r
  induction r with
  | zero =>
    intro fu v _ hfu
    obtain ⟨g, rfl⟩ : ∃ g, fu = g + 1 := ⟨fu - 1, by omega⟩
    rw [p_Reader_number_12, if_pos (by rw [e1]; exact nI_le (by omega) (by omega))]
    exact hk v
  | succ r ih =>
    intro fu v hr hfu
    obtain ⟨g, rfl⟩ : ∃ g, fu = g + 1 := ⟨fu - 1, by omega⟩
    rw [p_Reader_number_12, if_neg (by rw [e1]; exact nI_ge (by omega) (by omega)), nI_1, show n - (r + 1) + 1 = n - r by omega]
    have key := ro_bind tr (val2 := val) (upd2 := fun _ => c) (D' := D) (ro_on (fun c p ft => rf_on _ _ _ _ _ _ _) (co_nextByte G rd b lt most rb len N f hG rfK c hI)) (fun d p p' _ => ih g ((v <<< ((8 : Int32) &&& 31)) ||| d) (by omega) (by omega)) (fun w _ => ct_number_12 G rd b lt most rb len N f hG rfK tr x1 x2 x3 x4 kx ht n hn e1 r g ((v <<< ((8 : Int32) &&& 31)) ||| w) (by omega) (by omega))
    refine ro_eq key (fun p => ?_)
    rw [nv_]
    exact sbd_as _ _ _ p
def ckc_ (rd : Nat) (lo hi a1 v : Int32) : hM Int32 := hm_jn (hm_bind (hm_getr 6 1 (some rd)) fun a4 => hm_bind (hm_geti 2 0 a4) fun a5 => if a5 = 0 then hm_ret v else hm_ret lo) fun k58 => hm_jn (hm_bind (hm_getr 6 1 (some rd)) fun a6 => hm_bind (hm_on 2 a6 (p_Fault_tell a6 3 a1)) fun _ => k58) fun k48 => if v < lo then k48 else if v ≤ hi then k58 else k48
theorem ct_ck (rfK : ∀ a, K a a) (lo hi a1 v : Int32) : rt_ (Ec_ G rd b lt) I K (ckc_ rd lo hi a1 v) (fun x => x = lo) := by
  intro c p ft hI hf
  refine ⟨lo, c, p, rfl, hI, rfK c, ?_⟩
  have k58 : (hm_bind (hm_getr 6 1 (some rd)) fun a4 => hm_bind (hm_geti 2 0 a4) fun a5 => if a5 = 0 then hm_ret v else hm_ret lo) (Ec_ G rd b lt c p ft) = some (lo, 0, 0, Ec_ G rd b lt c p ft) := by
    rw [rf_ref1, rf_fk, ev_ite, if_neg (lt_ne hf), ev_ret]
  have k48 : (hm_bind (hm_getr 6 1 (some rd)) fun a6 => hm_bind (hm_on 2 a6 (p_Fault_tell a6 3 a1)) fun _ => hm_bind (hm_getr 6 1 (some rd)) fun a4 => hm_bind (hm_geti 2 0 a4) fun a5 => if a5 = 0 then hm_ret v else hm_ret lo) (Ec_ G rd b lt c p ft) = some (lo, 0, 0, Ec_ G rd b lt c p ft) := by
    rw [rf_ref1, rf_onf, bd_0 (rf_tell _ _ _ _ _ _ _ _), if_neg (lt_ne hf)]
    exact k58
  simp only [ckc_, hm_jn]
  rw [ev_ite]
  split
  · exact k48
  · rw [ev_ite]
    split
    · exact k58
    · exact k48
theorem co_ck (rfK : ∀ a, K a a) (lo hi v : Int32) (p0 : Nat) (c : γ) (hI : I c) : ro_ (Ec_ G rd b lt) N I K (ckc_ rd lo hi (nI p0) v) c (nck_ p0 lo hi v) (fun v => v) (fun _ => c) (fun x => x = lo) := by
  intro p ft hp hf
  have k58 : (hm_bind (hm_getr 6 1 (some rd)) fun a4 => hm_bind (hm_geti 2 0 a4) fun a5 => if a5 = 0 then hm_ret v else hm_ret lo) (Ec_ G rd b lt c (nI p) ft) = some (v, 0, 0, Ec_ G rd b lt c (nI p) ft) := by
    rw [rf_ref1, rf_fk, ev_ite, if_pos hf, ev_ret]
  have k48 : (hm_bind (hm_getr 6 1 (some rd)) fun a6 => hm_bind (hm_on 2 a6 (p_Fault_tell a6 3 (nI p0))) fun _ => hm_bind (hm_getr 6 1 (some rd)) fun a4 => hm_bind (hm_geti 2 0 a4) fun a5 => if a5 = 0 then hm_ret v else hm_ret lo) (Ec_ G rd b lt c (nI p) ft) = some (lo, 0, 0, Ec_ G rd b lt c (nI p) (3, nI p0)) := by
    rw [rf_ref1, rf_onf, bd_0 (rf_tell _ _ _ _ _ _ _ _), if_pos hf, rf_ref1, rf_fk, ev_ite, if_neg (by decide : ¬ (3 : Int32) = 0), ev_ret]
  simp only [ckc_, hm_jn]
  rw [ev_ite, nck_]
  by_cases c1 : v < lo
  · rw [if_pos c1, if_pos (Or.inl c1), k48]
    exact ⟨(by decide : (0 : Int32) < 3), lo, c, _, rfl, hI, rfK c, rfl⟩
  · rw [if_neg c1, ev_ite]
    by_cases c2 : v ≤ hi
    · rw [if_pos c2, if_neg (fun z => z.elim c1 (Int32.not_lt.mpr c2)), k58]
      exact ⟨hp, hI, rfK c, rfl⟩
    · rw [if_neg c2, if_pos (Or.inr (Int32.not_le.mp c2)), k48]
      exact ⟨(by decide : (0 : Int32) < 3), lo, c, _, rfl, hI, rfK c, rfl⟩
theorem ct_number (hG : ∀ c, I c → brR (G c) b most rb len N f) (rfK : ∀ a, K a a) (tr : ∀ a b c, K a b → K b c → K a c) (n : Nat) (hn : n ≤ 8) (lo hi : Int32) : rt_ (Ec_ G rd b lt) I K (p_Reader_number (some rd) (nI n) lo hi) (fun x => x = lo) := by
  unfold p_Reader_number
  refine rt_pre2 tr (m' := fun a1 : Int32 => p_Reader_number_12 (some rd) (nI n) lo hi a1 (ckc_ rd lo hi a1) hm_fuel 0 0) (fun c p ft hI hf => ⟨p, c, hI, rfK c, by rw [rf_get2]; rfl⟩) (fun a1 => ?_)
  have := ct_number_12 G rd b lt most rb len N f hG rfK tr (nI n) lo hi a1 (ckc_ rd lo hi a1) (fun v => ct_ck G rd b lt rfK lo hi a1 v) n hn rfl n hm_fuel 0 (Nat.le_refl _) (by unfold hm_fuel; omega)
  rw [Nat.sub_self] at this
  exact this
theorem co_number (hG : ∀ c, I c → brR (G c) b most rb len N f) (rfK : ∀ a, K a a) (tr : ∀ a b c, K a b → K b c → K a c) (c : γ) (hI : I c) (n : Nat) (hn : n ≤ 8) (lo hi : Int32) : ro_ (Ec_ G rd b lt) N I K (p_Reader_number (some rd) (nI n) lo hi) c (nn_ (fun j => f j &&& 255) N n lo hi) (fun v => v) (fun _ => c) (fun x => x = lo) := by
  intro p ft hp hf
  rw [p_Reader_number, rf_get2]
  have key := co_number_12 G rd b lt most rb len N f hG rfK tr (nI n) lo hi (nI p) (ckc_ rd lo hi (nI p)) c hI (fun v => co_ck G rd b lt N rfK lo hi v p c hI) (fun v => ct_ck G rd b lt rfK lo hi (nI p) v) n hn rfl n hm_fuel 0 (Nat.le_refl _) (by unfold hm_fuel; omega) p ft hp hf
  rw [Nat.sub_self] at key
  have es : sbd_ (nv_ (fun j => f j &&& 255) N n 0) (nck_ p lo hi) p = nn_ (fun j => f j &&& 255) N n lo hi p := by
    unfold sbd_ nn_ nck_
    cases nv_ (fun j => f j &&& 255) N n 0 p <;> rfl
  rw [es] at key
  exact key
def sst_ (B : Nat → Int32) (N : Nat) (due : Int32) : rs_ Unit := fun p => match nb_ B N p with
  | .inl e => .inl e
  | .inr (x, p') => if x = due then .inr ((), p') else .inl (2, nI p)
theorem ct_start (hG : ∀ c, I c → brR (G c) b most rb len N f) (rfK : ∀ a, K a a) (due : Int32) : rt_ (Ec_ G rd b lt) I K (p_Reader_start (some rd) due) (fun _ => True) := by
  intro c p ft hI hf
  obtain ⟨v, c', p', -, h2, h3, h4⟩ := ct_nextByte G rd b lt most rb len N f hG rfK (K := K) c p ft hI hf
  rw [p_Reader_start, rf_get2, rf_bon, bd_0 h4, ev_ite]
  by_cases z : v = due
  · rw [if_pos z, ev_ret]
    exact ⟨(), c', p', trivial, h2, h3, rfl⟩
  · rw [if_neg z, rf_ref1, rf_onf, bd_0 (rf_tell _ _ _ _ _ _ _ _), if_neg (lt_ne hf), ev_ret]
    exact ⟨(), c', p', trivial, h2, h3, rfl⟩
theorem co_start (hG : ∀ c, I c → brR (G c) b most rb len N f) (rfK : ∀ a, K a a) (c : γ) (hI : I c) (due : Int32) : ro_ (Ec_ G rd b lt) N I K (p_Reader_start (some rd) due) c (sst_ (fun j => f j &&& 255) N due) (fun v => v) (fun _ => c) (fun _ => True) := by
  intro p ft hp hf
  have k := co_nextByte G rd b lt most rb len N f hG rfK (K := K) c hI p ft hp hf
  rw [p_Reader_start, rf_get2, rf_bon, sst_]
  cases es : nb_ (fun j => f j &&& 255) N p with
  | inl e =>
    rw [es] at k
    obtain ⟨he, v, c', p', -, h2, h3, h4⟩ := k
    rw [bd_0 h4, ev_ite]
    by_cases z : v = due
    · rw [if_pos z, ev_ret]
      exact ⟨he, (), c', p', trivial, h2, h3, rfl⟩
    · rw [if_neg z, rf_ref1, rf_onf, bd_0 (rf_tell _ _ _ _ _ _ _ _), if_neg (lt_ne he), ev_ret]
      exact ⟨he, (), c', p', trivial, h2, h3, rfl⟩
  | inr xp =>
    obtain ⟨x, p'⟩ := xp
    rw [es] at k
    obtain ⟨h1, h2, h3, h4⟩ := k
    rw [bd_0 h4, ev_ite]
    show rr_ (Ec_ G rd b lt) N I K c _ ft (if x = due then .inr ((), p') else .inl (2, nI p)) _ _ _
    by_cases z : x = due
    · rw [if_pos z, if_pos z, ev_ret]
      exact ⟨h1, h2, h3, rfl⟩
    · rw [if_neg z, if_neg z, rf_ref1, rf_onf, bd_0 (rf_tell _ _ _ _ _ _ _ _), if_pos hf, ev_ret]
      exact ⟨(by decide : (0 : Int32) < 2), (), c, _, trivial, h2, h3, rfl⟩
end RCN
