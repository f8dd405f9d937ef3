/-! A FUNCTION of the class that is read: written under the Reader -/
def fn_em (g : hc_H) (q : Nat) (F : fc_) : hc_H := (g.1, fun k a => if k < 4 ∧ a = q + (k + 1) then some (400, F.2.1 k) else g.2.1 k a, fun k a => if k = 9 ∧ a = q + 5 then some (6, fn_hq q) else g.2.2.1 k a, fun k a => if k = 3 ∧ a = q then some (fn_fs q F.1) else if k = 4 ∧ q + 6 ≤ a ∧ a < q + 12 then some (fn_hs (F.2.2 (a - (q + 6)))) else g.2.2.2 k a)
theorem fn_em_R (g : hc_H) (q : Nat) (F : fc_) : fnR (fn_em g q F) q F := by
  refine ⟨by simp [fn_em], fun k hk => by simp [fn_em, hk], by simp [fn_em], fun k hk => ?_⟩
  simp only [fn_em]
  rw [if_neg (show ¬ ((4 : Nat) = 3 ∧ q + 6 + k = q) by omega), if_pos ⟨trivial, by omega, by omega⟩, show q + 6 + k - (q + 6) = k by omega]
theorem fn_em_self {g : hc_H} {q : Nat} {F : fc_} (R : fnR g q F) : fn_em g q F = g := by
  refine hc_ext rfl (fun k a => ?_) (fun k a => ?_) (fun k a => ?_)
  · simp only [fn_em]
    split
    · next z => rw [z.2, R.2.1 k z.1]
    · rfl
  · simp only [fn_em]
    split
    · next z => rw [z.1, z.2, R.2.2.1]
    · rfl
  · simp only [fn_em]
    split
    · next z => rw [z.1, z.2, R.1]
    · split
      · next z =>
        have := R.2.2.2 (a - (q + 6)) (by omega)
        rw [show q + 6 + (a - (q + 6)) = a by omega] at this
        rw [z.1, this]
      · rfl
theorem fn_em_em (g : hc_H) (q : Nat) (F F' : fc_) : fn_em (fn_em g q F) q F' = fn_em g q F' := by
  refine hc_ext rfl (fun k a => ?_) (fun k a => ?_) (fun k a => ?_)
  · simp only [fn_em]
    split <;> rfl
  · simp only [fn_em]
    split <;> rfl
  · simp only [fn_em]
    split
    · rfl
    · split <;> rfl
theorem fnR_rf {g : hc_H} {q : Nat} {F : fc_} (R : fnR g q F) (rd b lt : Nat) (p : Int32) (ft : Int32 × Int32) : fnR (rf_em g rd b lt p ft) q F := by
  refine ⟨?_, R.2.1, R.2.2.1, fun k hk => ?_⟩
  · rw [rf_oo _ _ _ _ _ _ (by decide)]; exact R.1
  · rw [rf_oo _ _ _ _ _ _ (by decide)]; exact R.2.2.2 k hk
theorem prR_rf {g : hc_H} {a n : Nat} {fq : Nat → Option Nat} (R : prR g a n fq) (rd b lt : Nat) (p : Int32) (ft : Int32 × Int32) : prR (rf_em g rd b lt p ft) a n fq := by
  refine ⟨?_, R.2⟩
  rw [rf_oo _ _ _ _ _ _ (by decide)]; exact R.1
theorem brR_fn {g : hc_H} {b most rb len N : Nat} {f : Nat → Int32} (R : brR g b most rb len N f) (q : Nat) (F : fc_) : brR (fn_em g q F) b most rb len N f := by
  refine ⟨?_, ?_, R.2.2⟩
  · simp only [fn_em]
    rw [if_neg (by omega), if_neg (by omega)]; exact R.1
  · simp only [fn_em]
    rw [if_neg (by omega)]; exact R.2.1
section FEM
variable {β : Type} (g : hc_H) (q rd b lt : Nat) (F : fc_) (p : Int32) (ft : Int32 × Int32)
abbrev Ef_ (F : fc_) (p : Int32) (ft : Int32 × Int32) : hc_H := rf_em (fn_em g q F) rd b lt p ft
theorem fe_R : fnR (Ef_ g q rd b lt F p ft) q F := fnR_rf (fn_em_R g q F) rd b lt p ft
theorem fe_upo (s : Nat → Int32) : hc_up (Ef_ g q rd b lt F p ft) q (.inr (.inr (3, fn_fs q s))) = Ef_ g q rd b lt (s, F.2) p ft := by
  refine hc_ext rfl (fun _ _ => rfl) (fun _ _ => rfl) (fun k a => ?_)
  rw [up_o4]
  simp only [rf_em, fn_em]
  by_cases e : k = 3 ∧ a = q
  · rw [if_pos e, if_neg (by omega), if_neg (by omega), if_pos e]
  · rw [if_neg e, if_neg e, if_neg e]
theorem fe_uph (k : Nat) (hk : k < 6) (s : Nat → Int32) : hc_up (Ef_ g q rd b lt F p ft) (q + 6 + k) (.inr (.inr (4, fn_hs s))) = Ef_ g q rd b lt (F.1, F.2.1, va_up F.2.2 k s) p ft := by
  refine hc_ext rfl (fun _ _ => rfl) (fun _ _ => rfl) (fun k' a => ?_)
  rw [up_o4]
  simp only [rf_em, fn_em]
  by_cases e : k' = 4 ∧ a = q + 6 + k
  · rw [if_pos e, if_neg (by omega), if_neg (by omega), if_neg (by omega), if_pos (by omega), show a - (q + 6) = k by omega, va_up_self]
  · rw [if_neg e]
    split
    · rfl
    · split
      · rfl
      · split
        · rfl
        · split
          · next z => rw [va_up_ne _ _ (by omega)]
          · rfl
theorem fe_upi (k : Nat) (hk : k < 4) (s : Nat → Int32) : hc_up (Ef_ g q rd b lt F p ft) (q + (k + 1)) (.inl (k, 400, s)) = Ef_ g q rd b lt (F.1, va_up F.2.1 k s, F.2.2) p ft := by
  refine hc_ext rfl (fun k' a => ?_) (fun _ _ => rfl) (fun _ _ => rfl)
  rw [up_i2]
  simp only [rf_em, fn_em]
  by_cases e : k' = k ∧ a = q + (k + 1)
  · obtain ⟨rfl, rfl⟩ := e
    rw [if_pos ⟨rfl, rfl⟩, if_pos ⟨hk, rfl⟩, va_up_self]
  · rw [if_neg e]
    split
    · next z => rw [va_up_ne _ _ (by intro c; subst c; exact e ⟨rfl, z.2⟩)]
    · rfl
theorem fe_put0 (v : Int32) (kont : Unit → hM β) : hm_bind (hm_puti 3 0 (some q) v) kont (Ef_ g q rd b lt F p ft) = kont () (Ef_ g q rd b lt (va_up F.1 0 v, F.2) p ft) := by
  rw [bd_puti, (fe_R g q rd b lt F p ft).1]
  dsimp only
  rw [if_pos (show 0 < (fn_fs q F.1).length from Nat.le_of_ble_eq_true rfl), show (fn_fs q F.1).set 0 (vi_ v) = fn_fs q (va_up F.1 0 v) by simp [fn_fs, va_up], fe_upo]
theorem fe_put1 (v : Int32) (kont : Unit → hM β) : hm_bind (hm_puti 3 1 (some q) v) kont (Ef_ g q rd b lt F p ft) = kont () (Ef_ g q rd b lt (va_up F.1 1 v, F.2) p ft) := by
  rw [bd_puti, (fe_R g q rd b lt F p ft).1]
  dsimp only
  rw [if_pos (show 1 < (fn_fs q F.1).length from Nat.le_of_ble_eq_true rfl), show (fn_fs q F.1).set 1 (vi_ v) = fn_fs q (va_up F.1 1 v) by simp [fn_fs, va_up], fe_upo]
theorem fe_put2 (v : Int32) (kont : Unit → hM β) : hm_bind (hm_puti 3 2 (some q) v) kont (Ef_ g q rd b lt F p ft) = kont () (Ef_ g q rd b lt (va_up F.1 2 v, F.2) p ft) := by
  rw [bd_puti, (fe_R g q rd b lt F p ft).1]
  dsimp only
  rw [if_pos (show 2 < (fn_fs q F.1).length from Nat.le_of_ble_eq_true rfl), show (fn_fs q F.1).set 2 (vi_ v) = fn_fs q (va_up F.1 2 v) by simp [fn_fs, va_up], fe_upo]
theorem fe_put3 (v : Int32) (kont : Unit → hM β) : hm_bind (hm_puti 3 3 (some q) v) kont (Ef_ g q rd b lt F p ft) = kont () (Ef_ g q rd b lt (va_up F.1 3 v, F.2) p ft) := by
  rw [bd_puti, (fe_R g q rd b lt F p ft).1]
  dsimp only
  rw [if_pos (show 3 < (fn_fs q F.1).length from Nat.le_of_ble_eq_true rfl), show (fn_fs q F.1).set 3 (vi_ v) = fn_fs q (va_up F.1 3 v) by simp [fn_fs, va_up], fe_upo]
theorem fe_put4 (v : Int32) (kont : Unit → hM β) : hm_bind (hm_puti 3 4 (some q) v) kont (Ef_ g q rd b lt F p ft) = kont () (Ef_ g q rd b lt (va_up F.1 4 v, F.2) p ft) := by
  rw [bd_puti, (fe_R g q rd b lt F p ft).1]
  dsimp only
  rw [if_pos (show 4 < (fn_fs q F.1).length from Nat.le_of_ble_eq_true rfl), show (fn_fs q F.1).set 4 (vi_ v) = fn_fs q (va_up F.1 4 v) by simp [fn_fs, va_up], fe_upo]
theorem fe_put5 (v : Int32) (kont : Unit → hM β) : hm_bind (hm_puti 3 5 (some q) v) kont (Ef_ g q rd b lt F p ft) = kont () (Ef_ g q rd b lt (va_up F.1 5 v, F.2) p ft) := by
  rw [bd_puti, (fe_R g q rd b lt F p ft).1]
  dsimp only
  rw [if_pos (show 5 < (fn_fs q F.1).length from Nat.le_of_ble_eq_true rfl), show (fn_fs q F.1).set 5 (vi_ v) = fn_fs q (va_up F.1 5 v) by simp [fn_fs, va_up], fe_upo]
theorem fe_ist0 (i : Nat) (hi : i < 400) (v : Int32) (kont : Unit → hM β) : hm_bind (hm_ist 0 (some (q + 1)) (nI i) v) kont (Ef_ g q rd b lt F p ft) = kont () (Ef_ g q rd b lt (F.1, va_up F.2.1 0 (va_up (F.2.1 0) i v), F.2.2) p ft) := by
  rw [bd_ist, (fe_R g q rd b lt F p ft).2.1 0 (by omega)]
  dsimp only
  rw [if_neg (nI_in hi (by omega)), nI_clamp (by omega), fe_upi g q rd b lt F p ft 0 (by omega)]
theorem fe_ist1 (i : Nat) (hi : i < 400) (v : Int32) (kont : Unit → hM β) : hm_bind (hm_ist 1 (some (q + 2)) (nI i) v) kont (Ef_ g q rd b lt F p ft) = kont () (Ef_ g q rd b lt (F.1, va_up F.2.1 1 (va_up (F.2.1 1) i v), F.2.2) p ft) := by
  rw [bd_ist, (fe_R g q rd b lt F p ft).2.1 1 (by omega)]
  dsimp only
  rw [if_neg (nI_in hi (by omega)), nI_clamp (by omega), fe_upi g q rd b lt F p ft 1 (by omega)]
theorem fe_hput0 (k : Nat) (hk : k < 6) (v : Int32) (kont : Unit → hM β) : hm_bind (hm_puti 4 0 (some (q + 6 + k)) v) kont (Ef_ g q rd b lt F p ft) = kont () (Ef_ g q rd b lt (F.1, F.2.1, va_up F.2.2 k (va_up (F.2.2 k) 0 v)) p ft) := by
  rw [bd_puti, (fe_R g q rd b lt F p ft).2.2.2 k hk]
  dsimp only
  rw [if_pos (show 0 < (fn_hs (F.2.2 k)).length from Nat.le_of_ble_eq_true rfl), show (fn_hs (F.2.2 k)).set 0 (vi_ v) = fn_hs (va_up (F.2.2 k) 0 v) by simp [fn_hs, va_up], fe_uph g q rd b lt F p ft k hk]
theorem fe_hput1 (k : Nat) (hk : k < 6) (v : Int32) (kont : Unit → hM β) : hm_bind (hm_puti 4 1 (some (q + 6 + k)) v) kont (Ef_ g q rd b lt F p ft) = kont () (Ef_ g q rd b lt (F.1, F.2.1, va_up F.2.2 k (va_up (F.2.2 k) 1 v)) p ft) := by
  rw [bd_puti, (fe_R g q rd b lt F p ft).2.2.2 k hk]
  dsimp only
  rw [if_pos (show 1 < (fn_hs (F.2.2 k)).length from Nat.le_of_ble_eq_true rfl), show (fn_hs (F.2.2 k)).set 1 (vi_ v) = fn_hs (va_up (F.2.2 k) 1 v) by simp [fn_hs, va_up], fe_uph g q rd b lt F p ft k hk]
theorem fe_hput2 (k : Nat) (hk : k < 6) (v : Int32) (kont : Unit → hM β) : hm_bind (hm_puti 4 2 (some (q + 6 + k)) v) kont (Ef_ g q rd b lt F p ft) = kont () (Ef_ g q rd b lt (F.1, F.2.1, va_up F.2.2 k (va_up (F.2.2 k) 2 v)) p ft) := by
  rw [bd_puti, (fe_R g q rd b lt F p ft).2.2.2 k hk]
  dsimp only
  rw [if_pos (show 2 < (fn_hs (F.2.2 k)).length from Nat.le_of_ble_eq_true rfl), show (fn_hs (F.2.2 k)).set 2 (vi_ v) = fn_hs (va_up (F.2.2 k) 2 v) by simp [fn_hs, va_up], fe_uph g q rd b lt F p ft k hk]
theorem fe_hput3 (k : Nat) (hk : k < 6) (v : Int32) (hv : v = 0 ∨ v = 1) (kont : Unit → hM β) : hm_bind (hm_putz 4 3 (some (q + 6 + k)) v) kont (Ef_ g q rd b lt F p ft) = kont () (Ef_ g q rd b lt (F.1, F.2.1, va_up F.2.2 k (va_up (F.2.2 k) 3 v)) p ft) := by
  rw [bd_putz _ _ _ _ hv, (fe_R g q rd b lt F p ft).2.2.2 k hk]
  dsimp only
  rw [if_pos (show 3 < (fn_hs (F.2.2 k)).length from Nat.le_of_ble_eq_true rfl), show (fn_hs (F.2.2 k)).set 3 (vi_ v) = fn_hs (va_up (F.2.2 k) 3 v) by simp [fn_hs, va_up], fe_uph g q rd b lt F p ft k hk]
theorem fe_hput4 (k : Nat) (hk : k < 6) (v : Int32) (kont : Unit → hM β) : hm_bind (hm_puti 4 4 (some (q + 6 + k)) v) kont (Ef_ g q rd b lt F p ft) = kont () (Ef_ g q rd b lt (F.1, F.2.1, va_up F.2.2 k (va_up (F.2.2 k) 4 v)) p ft) := by
  rw [bd_puti, (fe_R g q rd b lt F p ft).2.2.2 k hk]
  dsimp only
  rw [if_pos (show 4 < (fn_hs (F.2.2 k)).length from Nat.le_of_ble_eq_true rfl), show (fn_hs (F.2.2 k)).set 4 (vi_ v) = fn_hs (va_up (F.2.2 k) 4 v) by simp [fn_hs, va_up], fe_uph g q rd b lt F p ft k hk]
end FEM
/-! the specification of reading a function -/
def bb_ (o : Int32) : Nat := if o = 0 then 4 else if o = 4 ∨ o = 5 ∨ o = 25 ∨ o = 26 ∨ o = 29 then 1 else if o = 18 ∨ o = 19 ∨ o = 20 then 2 else 0
def lb_ (o : Int32) : Int32 := if o = 0 then -2147483648 else 0
def mb_ (o lo cnt all : Int32) : Int32 := if o = 0 then 2147483647 else if o = 4 ∨ o = 5 then lo - 1 else if o = 18 ∨ o = 19 ∨ o = 20 then cnt - 1 else if o = 25 then all - 1 else if o = 26 ∨ o = 29 then 15 else 0
theorem bb_8 (o : Int32) : bb_ o ≤ 8 := by
  unfold bb_
  split
  · omega
  · split
    · omega
    · split <;> omega
section SFN
variable (B : Nat → Int32) (N : Nat)
def si_ (lo cnt all : Int32) : rs_ (Int32 × Int32) := sbd_ (nn_ B N 1 0 29) fun o => sbd_ (nn_ B N (bb_ o) (lb_ o) (mb_ o lo cnt all)) fun v => sre_ (o, v)
abbrev hd5_ : Type := Int32 × Int32 × Int32 × Int32 × Int32
def sh_ (cnt : Int32) : rs_ hd5_ := sbd_ (nn_ B N 2 0 (cnt - 1)) fun a => sbd_ (nn_ B N 2 (a + 1) cnt) fun t => sbd_ (nn_ B N 2 0 (cnt - 1)) fun g => sbd_ (nn_ B N 1 0 1) fun k => sbd_ (nn_ B N (if k = 0 then 0 else 4) (-2147483648) 2147483647) fun c => sre_ (a, t, g, if k = 0 then 1 else 0, c)
def shd_ (f : Nat) : rs_ hd5_ := sbd_ (nn_ B N 1 0 (if f = 0 then 0 else 4)) fun pa => sbd_ (nn_ B N 1 pa 12) fun lo => sbd_ (nn_ B N 2 0 (((1 : Int32) <<< (lo &&& 31)) - 1)) fun rb => sbd_ (nn_ B N 1 0 (if f = 0 then 1 else 2)) fun rs => sbd_ (nn_ B N 2 1 400) fun sz => sre_ (pa, lo, rb, rs, sz)
end SFN
def sls_ {δ : Type} (S : rs_ δ) : Nat → rs_ (List δ)
  | 0 => sre_ []
  | r + 1 => sbd_ S fun d => sbd_ (sls_ S r) fun l => sre_ (d :: l)
abbrev fd_ : Type := hd5_ × List (Int32 × Int32) × Int32 × List hd5_
def sf_ (B : Nat → Int32) (N f : Nat) (all : Int32) : rs_ fd_ := sbd_ (shd_ B N f) fun hd => sbd_ (sls_ (si_ B N hd.2.1 hd.2.2.2.2 all) hd.2.2.2.2.toNatClampNeg) fun il => sbd_ (nn_ B N 1 0 6) fun hn => sbd_ (sls_ (sh_ B N hd.2.2.2.2) hn.toNatClampNeg) fun hl => sre_ (hd, il, hn, hl)
section RJ2
variable {γ : Type} {E : γ → Int32 → Int32 × Int32 → hc_H} {N : Nat} {I : γ → Prop} {K : γ → γ → Prop}
theorem ro_pre0 {α δ : Type} (tr : ∀ a b c, K a b → K b c → K a c) {m m' : hM α} {c c' : γ} {S : rs_ δ} {val : δ → α} {upd : δ → γ} {D : α → Prop} (hK : K c c') (e : ∀ p ft, ft.1 = 0 → m (E c p ft) = m' (E c' p ft)) (h : ro_ E N I K m' c' S val upd D) : ro_ E N I K m c S val upd D := by
  intro p ft hp hf
  have k := h p ft hp hf
  rw [e _ _ hf]
  cases es : S p with
  | inl e1 =>
    rw [es] at k
    obtain ⟨he, w, c2, p2, hD2, hI2, hK2, e2⟩ := k
    exact ⟨he, w, c2, p2, hD2, hI2, tr _ _ _ hK hK2, e2⟩
  | inr dp =>
    rw [es] at k
    obtain ⟨g1, g2, g3, g4⟩ := k
    exact ⟨g1, g2, tr _ _ _ hK g3, g4⟩
theorem ro_map {α δ ε : Type} {m : hM α} {c : γ} {S : rs_ δ} {val : δ → α} {upd : δ → γ} {val' : ε → α} {upd' : ε → γ} {D : α → Prop} (φ : δ → ε) (h : ro_ E N I K m c S val upd D) (hv : ∀ d, val' (φ d) = val d) (hu : ∀ d, upd' (φ d) = upd d) : ro_ E N I K m c (sbd_ S fun d => sre_ (φ d)) val' upd' D := by
  intro p ft hp hf
  have k := h p ft hp hf
  unfold sbd_
  cases es : S p with
  | inl e1 => rw [es] at k; exact k
  | inr dp =>
    obtain ⟨d, p'⟩ := dp
    rw [es] at k
    obtain ⟨g1, g2, g3, g4⟩ := k
    refine ⟨g1, ?_, ?_, ?_⟩
    · rw [hu]; exact g2
    · rw [hu]; exact g3
    · rw [hv, hu]; exact g4
end RJ2
theorem sbd_c {δ ε : Type} (S : rs_ δ) {T U : δ → rs_ ε} (h : ∀ d p, T d p = U d p) (p : Nat) : sbd_ S T p = sbd_ S U p := by
  unfold sbd_
  rcases S p with e | ⟨d, p'⟩
  · rfl
  · exact h d p'
theorem sbd_l {δ ε : Type} (d : δ) (T : δ → rs_ ε) (p : Nat) : sbd_ (sre_ d) T p = T d p := rfl
