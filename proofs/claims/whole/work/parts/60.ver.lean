/-! THE CLASS's VERIFIER at vf, its Fault at lt: sc: its numbers (4: leastWaiting, which is field 3; 7 to 10 by the place of the field); ar: its rows by their kind (4, 5, 6); pg, fn: program and function; ft: the fault -/
def ve_fs (vf lt : Nat) (pg fn : Option Nat) (sc : Nat → Int32) : List lc_V := [vr_ (some (vf + 1)), vr_ (some (vf + 2)), vr_ (some (vf + 3)), vi_ (sc 4), vr_ pg, vr_ fn, vr_ (some lt), vi_ (sc 7), vi_ (sc 8), vi_ (sc 9), vi_ (sc 10)]
def ve_em (h : hc_H) (vf lt : Nat) (pg fn : Option Nat) (sc : Nat → Int32) (ft : Int32 × Int32) (ar : Nat → Nat → Int32) : hc_H := (h.1, fun k a => if (4 ≤ k ∧ k ≤ 6) ∧ a = vf + (k - 3) then some (400, ar k) else h.2.1 k a, h.2.2.1, fun k a => if k = 7 ∧ a = vf then some (ve_fs vf lt pg fn sc) else if k = 2 ∧ a = lt then some [vi_ ft.1, vi_ ft.2] else h.2.2.2 k a)
section VEE
variable {β : Type} (h : hc_H) (vf lt : Nat) (pg fn : Option Nat) (sc : Nat → Int32) (ft : Int32 × Int32) (ar : Nat → Nat → Int32)
theorem ve_o : (ve_em h vf lt pg fn sc ft ar).2.2.2 7 vf = some (ve_fs vf lt pg fn sc) := by simp [ve_em]
theorem ve_f : (ve_em h vf lt pg fn sc ft ar).2.2.2 2 lt = some [vi_ ft.1, vi_ ft.2] := by simp [ve_em]
theorem ve_oo {k : Nat} (hk : k ≠ 7 ∧ k ≠ 2) (a : Nat) : (ve_em h vf lt pg fn sc ft ar).2.2.2 k a = h.2.2.2 k a := by simp [ve_em, hk.1, hk.2]
theorem ve_io {k : Nat} (hk : ¬ (4 ≤ k ∧ k ≤ 6)) (a : Nat) : (ve_em h vf lt pg fn sc ft ar).2.1 k a = h.2.1 k a := by simp [ve_em, hk]
theorem ve_q : (ve_em h vf lt pg fn sc ft ar).2.2.1 = h.2.2.1 := (Eq.refl _).trans (Eq.refl _)
theorem ve_upo (pg' fn' : Option Nat) (sc' : Nat → Int32) : hc_up (ve_em h vf lt pg fn sc ft ar) vf (.inr (.inr (7, ve_fs vf lt pg' fn' sc'))) = ve_em h vf lt pg' fn' sc' ft ar := by
  refine hc_ext rfl (fun _ _ => rfl) (fun _ _ => rfl) (fun k a => ?_)
  rw [up_o4]
  simp only [ve_em]
  split <;> rfl
theorem ve_upf (ft' : Int32 × Int32) : hc_up (ve_em h vf lt pg fn sc ft ar) lt (.inr (.inr (2, [vi_ ft'.1, vi_ ft'.2]))) = ve_em h vf lt pg fn sc ft' ar := by
  refine hc_ext rfl (fun _ _ => rfl) (fun _ _ => rfl) (fun k a => ?_)
  rw [up_o4]
  simp only [ve_em]
  by_cases e : k = 2
  · subst e; simp
    split <;> rfl
  · simp [e]
theorem ve_i (k : Nat) (hk : 4 ≤ k ∧ k ≤ 6) : (ve_em h vf lt pg fn sc ft ar).2.1 k (vf + (k - 3)) = some (400, ar k) := by simp [ve_em, hk]
theorem ve_upi (k : Nat) (hk : 4 ≤ k ∧ k ≤ 6) (f : Nat → Int32) : hc_up (ve_em h vf lt pg fn sc ft ar) (vf + (k - 3)) (.inl (k, 400, f)) = ve_em h vf lt pg fn sc ft (va_up ar k f) := by
  refine hc_ext rfl (fun k' a => ?_) (fun _ _ => rfl) (fun k a => rfl)
  rw [up_i2]
  simp only [ve_em]
  by_cases e : k' = k
  · subst e
    by_cases e2 : a = vf + (k' - 3)
    · subst e2; simp [hk, va_up]
    · simp [e2]
  · simp [e, va_up]
theorem ve_get3 (kont : Int32 → hM β) : hm_bind (hm_geti 7 3 (some vf)) kont (ve_em h vf lt pg fn sc ft ar) = kont (sc 4) (ve_em h vf lt pg fn sc ft ar) := by
  rw [bd_geti, ev_fld, ve_o]; rfl
theorem ve_put3 (v : Int32) (kont : Unit → hM β) : hm_bind (hm_puti 7 3 (some vf) v) kont (ve_em h vf lt pg fn sc ft ar) = kont () (ve_em h vf lt pg fn (va_up sc 4 v) ft ar) := by
  rw [bd_puti, ve_o]
  dsimp only
  rw [if_pos (show 3 < (ve_fs vf lt pg fn sc).length from Nat.le_of_ble_eq_true rfl), show (ve_fs vf lt pg fn sc).set 3 (vi_ v) = ve_fs vf lt pg fn (va_up sc 4 v) by simp [ve_fs, va_up], ve_upo]
theorem ve_get7 (kont : Int32 → hM β) : hm_bind (hm_geti 7 7 (some vf)) kont (ve_em h vf lt pg fn sc ft ar) = kont (sc 7) (ve_em h vf lt pg fn sc ft ar) := by
  rw [bd_geti, ev_fld, ve_o]; rfl
theorem ve_put7 (v : Int32) (kont : Unit → hM β) : hm_bind (hm_puti 7 7 (some vf) v) kont (ve_em h vf lt pg fn sc ft ar) = kont () (ve_em h vf lt pg fn (va_up sc 7 v) ft ar) := by
  rw [bd_puti, ve_o]
  dsimp only
  rw [if_pos (show 7 < (ve_fs vf lt pg fn sc).length from Nat.le_of_ble_eq_true rfl), show (ve_fs vf lt pg fn sc).set 7 (vi_ v) = ve_fs vf lt pg fn (va_up sc 7 v) by simp [ve_fs, va_up], ve_upo]
theorem ve_get8 (kont : Int32 → hM β) : hm_bind (hm_geti 7 8 (some vf)) kont (ve_em h vf lt pg fn sc ft ar) = kont (sc 8) (ve_em h vf lt pg fn sc ft ar) := by
  rw [bd_geti, ev_fld, ve_o]; rfl
theorem ve_put8 (v : Int32) (kont : Unit → hM β) : hm_bind (hm_puti 7 8 (some vf) v) kont (ve_em h vf lt pg fn sc ft ar) = kont () (ve_em h vf lt pg fn (va_up sc 8 v) ft ar) := by
  rw [bd_puti, ve_o]
  dsimp only
  rw [if_pos (show 8 < (ve_fs vf lt pg fn sc).length from Nat.le_of_ble_eq_true rfl), show (ve_fs vf lt pg fn sc).set 8 (vi_ v) = ve_fs vf lt pg fn (va_up sc 8 v) by simp [ve_fs, va_up], ve_upo]
theorem ve_get9 (kont : Int32 → hM β) : hm_bind (hm_geti 7 9 (some vf)) kont (ve_em h vf lt pg fn sc ft ar) = kont (sc 9) (ve_em h vf lt pg fn sc ft ar) := by
  rw [bd_geti, ev_fld, ve_o]; rfl
theorem ve_put9 (v : Int32) (kont : Unit → hM β) : hm_bind (hm_puti 7 9 (some vf) v) kont (ve_em h vf lt pg fn sc ft ar) = kont () (ve_em h vf lt pg fn (va_up sc 9 v) ft ar) := by
  rw [bd_puti, ve_o]
  dsimp only
  rw [if_pos (show 9 < (ve_fs vf lt pg fn sc).length from Nat.le_of_ble_eq_true rfl), show (ve_fs vf lt pg fn sc).set 9 (vi_ v) = ve_fs vf lt pg fn (va_up sc 9 v) by simp [ve_fs, va_up], ve_upo]
theorem ve_get10 (kont : Int32 → hM β) : hm_bind (hm_geti 7 10 (some vf)) kont (ve_em h vf lt pg fn sc ft ar) = kont (sc 10) (ve_em h vf lt pg fn sc ft ar) := by
  rw [bd_geti, ev_fld, ve_o]; rfl
theorem ve_put10 (v : Int32) (kont : Unit → hM β) : hm_bind (hm_puti 7 10 (some vf) v) kont (ve_em h vf lt pg fn sc ft ar) = kont () (ve_em h vf lt pg fn (va_up sc 10 v) ft ar) := by
  rw [bd_puti, ve_o]
  dsimp only
  rw [if_pos (show 10 < (ve_fs vf lt pg fn sc).length from Nat.le_of_ble_eq_true rfl), show (ve_fs vf lt pg fn sc).set 10 (vi_ v) = ve_fs vf lt pg fn (va_up sc 10 v) by simp [ve_fs, va_up], ve_upo]
theorem ve_ref6 (kont : Option Nat → hM β) : hm_bind (hm_getr 7 6 (some vf)) kont (ve_em h vf lt pg fn sc ft ar) = kont (some lt) (ve_em h vf lt pg fn sc ft ar) := by
  rw [bd_getr, ev_fld, ve_o]; rfl
theorem ve_ref0 (kont : Option Nat → hM β) : hm_bind (hm_getr 7 0 (some vf)) kont (ve_em h vf lt pg fn sc ft ar) = kont (some (vf + 1)) (ve_em h vf lt pg fn sc ft ar) := by
  rw [bd_getr, ev_fld, ve_o]; rfl
theorem ve_ref1 (kont : Option Nat → hM β) : hm_bind (hm_getr 7 1 (some vf)) kont (ve_em h vf lt pg fn sc ft ar) = kont (some (vf + 2)) (ve_em h vf lt pg fn sc ft ar) := by
  rw [bd_getr, ev_fld, ve_o]; rfl
theorem ve_ref2 (kont : Option Nat → hM β) : hm_bind (hm_getr 7 2 (some vf)) kont (ve_em h vf lt pg fn sc ft ar) = kont (some (vf + 3)) (ve_em h vf lt pg fn sc ft ar) := by
  rw [bd_getr, ev_fld, ve_o]; rfl
theorem ve_ref4 (kont : Option Nat → hM β) : hm_bind (hm_getr 7 4 (some vf)) kont (ve_em h vf lt pg fn sc ft ar) = kont pg (ve_em h vf lt pg fn sc ft ar) := by
  rw [bd_getr, ev_fld, ve_o]; rfl
theorem ve_ref5 (kont : Option Nat → hM β) : hm_bind (hm_getr 7 5 (some vf)) kont (ve_em h vf lt pg fn sc ft ar) = kont fn (ve_em h vf lt pg fn sc ft ar) := by
  rw [bd_getr, ev_fld, ve_o]; rfl
theorem ve_putr4 (v : Option Nat) (kont : Unit → hM β) : hm_bind (hm_putr 7 4 (some vf) v) kont (ve_em h vf lt pg fn sc ft ar) = kont () (ve_em h vf lt v fn sc ft ar) := by
  rw [bd_putr, ve_o]
  dsimp only
  rw [if_pos (show 4 < (ve_fs vf lt pg fn sc).length from Nat.le_of_ble_eq_true rfl), show (ve_fs vf lt pg fn sc).set 4 (vr_ v) = ve_fs vf lt v fn sc by simp [ve_fs], ve_upo]
theorem ve_putr5 (v : Option Nat) (kont : Unit → hM β) : hm_bind (hm_putr 7 5 (some vf) v) kont (ve_em h vf lt pg fn sc ft ar) = kont () (ve_em h vf lt pg v sc ft ar) := by
  rw [bd_putr, ve_o]
  dsimp only
  rw [if_pos (show 5 < (ve_fs vf lt pg fn sc).length from Nat.le_of_ble_eq_true rfl), show (ve_fs vf lt pg fn sc).set 5 (vr_ v) = ve_fs vf lt pg v sc by simp [ve_fs], ve_upo]
theorem ve_ild4 (i : Int32) (kont : Int32 → hM β) : hm_bind (hm_ild 4 (some (vf + 1)) i) kont (ve_em h vf lt pg fn sc ft ar) = if i < 0 ∨ 400 ≤ i.toNatClampNeg then none else kont (ar 4 i.toNatClampNeg) (ve_em h vf lt pg fn sc ft ar) := by
  rw [bd_ild, ve_i h vf lt pg fn sc ft ar 4 (by decide)]
theorem ve_ist4 (i x : Int32) (kont : Unit → hM β) : hm_bind (hm_ist 4 (some (vf + 1)) i x) kont (ve_em h vf lt pg fn sc ft ar) = if i < 0 ∨ 400 ≤ i.toNatClampNeg then none else kont () (ve_em h vf lt pg fn sc ft (va_up ar 4 (va_up (ar 4) i.toNatClampNeg x))) := by
  rw [bd_ist, ve_i h vf lt pg fn sc ft ar 4 (by decide)]
  dsimp only
  rw [ve_upi h vf lt pg fn sc ft ar 4 (by decide)]
theorem ve_ild5 (i : Int32) (kont : Int32 → hM β) : hm_bind (hm_ild 5 (some (vf + 2)) i) kont (ve_em h vf lt pg fn sc ft ar) = if i < 0 ∨ 400 ≤ i.toNatClampNeg then none else kont (ar 5 i.toNatClampNeg) (ve_em h vf lt pg fn sc ft ar) := by
  rw [bd_ild, ve_i h vf lt pg fn sc ft ar 5 (by decide)]
theorem ve_ist5 (i x : Int32) (kont : Unit → hM β) : hm_bind (hm_ist 5 (some (vf + 2)) i x) kont (ve_em h vf lt pg fn sc ft ar) = if i < 0 ∨ 400 ≤ i.toNatClampNeg then none else kont () (ve_em h vf lt pg fn sc ft (va_up ar 5 (va_up (ar 5) i.toNatClampNeg x))) := by
  rw [bd_ist, ve_i h vf lt pg fn sc ft ar 5 (by decide)]
  dsimp only
  rw [ve_upi h vf lt pg fn sc ft ar 5 (by decide)]
theorem ve_ild6 (i : Int32) (kont : Int32 → hM β) : hm_bind (hm_ild 6 (some (vf + 3)) i) kont (ve_em h vf lt pg fn sc ft ar) = if i < 0 ∨ 400 ≤ i.toNatClampNeg then none else kont (ar 6 i.toNatClampNeg) (ve_em h vf lt pg fn sc ft ar) := by
  rw [bd_ild, ve_i h vf lt pg fn sc ft ar 6 (by decide)]
theorem ve_ist6 (i x : Int32) (kont : Unit → hM β) : hm_bind (hm_ist 6 (some (vf + 3)) i x) kont (ve_em h vf lt pg fn sc ft ar) = if i < 0 ∨ 400 ≤ i.toNatClampNeg then none else kont () (ve_em h vf lt pg fn sc ft (va_up ar 6 (va_up (ar 6) i.toNatClampNeg x))) := by
  rw [bd_ist, ve_i h vf lt pg fn sc ft ar 6 (by decide)]
  dsimp only
  rw [ve_upi h vf lt pg fn sc ft ar 6 (by decide)]
theorem ve_on {α : Type} (mm : hM α) (kont : α → hM β) : hm_bind (hm_on 7 (some vf) mm) kont (ve_em h vf lt pg fn sc ft ar) = hm_bind mm kont (ve_em h vf lt pg fn sc ft ar) := by
  rw [bd_on, ve_o]; rfl
theorem ve_onf {α : Type} (mm : hM α) (kont : α → hM β) : hm_bind (hm_on 2 (some lt) mm) kont (ve_em h vf lt pg fn sc ft ar) = hm_bind mm kont (ve_em h vf lt pg fn sc ft ar) := by
  rw [bd_on, ve_f]; rfl
theorem ve_fk (kont : Int32 → hM β) : hm_bind (hm_geti 2 0 (some lt)) kont (ve_em h vf lt pg fn sc ft ar) = kont ft.1 (ve_em h vf lt pg fn sc ft ar) := by
  rw [bd_geti, ev_fld, ve_f]; rfl
theorem ve_fp0 (v : Int32) (kont : Unit → hM β) : hm_bind (hm_puti 2 0 (some lt) v) kont (ve_em h vf lt pg fn sc ft ar) = kont () (ve_em h vf lt pg fn sc (v, ft.2) ar) := by
  rw [bd_puti, ve_f]
  dsimp only
  rw [if_pos (show 0 < [vi_ ft.1, vi_ ft.2].length from Nat.le_of_ble_eq_true rfl), ← ve_upf h vf lt pg fn sc ft ar (v, ft.2)]; rfl
theorem ve_fp1 (v : Int32) (kont : Unit → hM β) : hm_bind (hm_puti 2 1 (some lt) v) kont (ve_em h vf lt pg fn sc ft ar) = kont () (ve_em h vf lt pg fn sc (ft.1, v) ar) := by
  rw [bd_puti, ve_f]
  dsimp only
  rw [if_pos (show 1 < [vi_ ft.1, vi_ ft.2].length from Nat.le_of_ble_eq_true rfl), ← ve_upf h vf lt pg fn sc ft ar (ft.1, v)]; rfl
theorem s_tell (k p : Int32) : p_Fault_tell (some lt) k p (ve_em h vf lt pg fn sc ft ar) = some ((), 0, 0, ve_em h vf lt pg fn sc (if ft.1 = 0 then (k, p) else ft) ar) := by
  rw [p_Fault_tell, ve_fk, ev_ite]
  by_cases e : ft.1 = 0
  · rw [if_pos e, if_pos e, ve_fp0, ve_fp1, ev_ret]
  · rw [if_neg e, if_neg e, ev_ret]
theorem s_clear : p_Fault_clear (some lt) (ve_em h vf lt pg fn sc ft ar) = some ((), 0, 0, ve_em h vf lt pg fn sc (0, -1) ar) := by
  rw [p_Fault_clear, ve_fp0, ve_fp1, ev_ret]
end VEE
/-! the same, but the Verifier's reference to the Fault is ol: before the first FUNCTION is verified there is none -/
def vq_fs (vf : Nat) (ol pg fn : Option Nat) (sc : Nat → Int32) : List lc_V := [vr_ (some (vf + 1)), vr_ (some (vf + 2)), vr_ (some (vf + 3)), vi_ (sc 4), vr_ pg, vr_ fn, vr_ ol, vi_ (sc 7), vi_ (sc 8), vi_ (sc 9), vi_ (sc 10)]
def vq_em (h : hc_H) (vf lt : Nat) (ol pg fn : Option Nat) (sc : Nat → Int32) (ft : Int32 × Int32) (ar : Nat → Nat → Int32) : hc_H := (h.1, fun k a => if (4 ≤ k ∧ k ≤ 6) ∧ a = vf + (k - 3) then some (400, ar k) else h.2.1 k a, h.2.2.1, fun k a => if k = 7 ∧ a = vf then some (vq_fs vf ol pg fn sc) else if k = 2 ∧ a = lt then some [vi_ ft.1, vi_ ft.2] else h.2.2.2 k a)
section VQE
variable {β : Type} (h : hc_H) (vf lt : Nat) (ol pg fn : Option Nat) (sc : Nat → Int32) (ft : Int32 × Int32) (ar : Nat → Nat → Int32)
theorem vq_ve : vq_em h vf lt (some lt) pg fn sc ft ar = ve_em h vf lt pg fn sc ft ar := (Eq.refl _).trans (Eq.refl _)
theorem vq_o : (vq_em h vf lt ol pg fn sc ft ar).2.2.2 7 vf = some (vq_fs vf ol pg fn sc) := by simp [vq_em]
theorem vq_f : (vq_em h vf lt ol pg fn sc ft ar).2.2.2 2 lt = some [vi_ ft.1, vi_ ft.2] := by simp [vq_em]
theorem vq_oo {k : Nat} (hk : k ≠ 7 ∧ k ≠ 2) (a : Nat) : (vq_em h vf lt ol pg fn sc ft ar).2.2.2 k a = h.2.2.2 k a := by simp [vq_em, hk.1, hk.2]
theorem vq_io {k : Nat} (hk : ¬ (4 ≤ k ∧ k ≤ 6)) (a : Nat) : (vq_em h vf lt ol pg fn sc ft ar).2.1 k a = h.2.1 k a := by simp [vq_em, hk]
theorem vq_q : (vq_em h vf lt ol pg fn sc ft ar).2.2.1 = h.2.2.1 := (Eq.refl _).trans (Eq.refl _)
theorem vq_upo (ol' pg' fn' : Option Nat) (sc' : Nat → Int32) : hc_up (vq_em h vf lt ol pg fn sc ft ar) vf (.inr (.inr (7, vq_fs vf ol' pg' fn' sc'))) = vq_em h vf lt ol' pg' fn' sc' ft ar := by
  refine hc_ext rfl (fun _ _ => rfl) (fun _ _ => rfl) (fun k a => ?_)
  rw [up_o4]
  simp only [vq_em]
  split <;> rfl
theorem vq_upf (ft' : Int32 × Int32) : hc_up (vq_em h vf lt ol pg fn sc ft ar) lt (.inr (.inr (2, [vi_ ft'.1, vi_ ft'.2]))) = vq_em h vf lt ol pg fn sc ft' ar := by
  refine hc_ext rfl (fun _ _ => rfl) (fun _ _ => rfl) (fun k a => ?_)
  rw [up_o4]
  simp only [vq_em]
  by_cases e : k = 2
  · subst e; simp
    split <;> rfl
  · simp [e]
theorem vq_putr4 (v : Option Nat) (kont : Unit → hM β) : hm_bind (hm_putr 7 4 (some vf) v) kont (vq_em h vf lt ol pg fn sc ft ar) = kont () (vq_em h vf lt ol v fn sc ft ar) := by
  rw [bd_putr, vq_o]
  dsimp only
  rw [if_pos (show 4 < (vq_fs vf ol pg fn sc).length from Nat.le_of_ble_eq_true rfl), show (vq_fs vf ol pg fn sc).set 4 (vr_ v) = vq_fs vf ol v fn sc by simp [vq_fs], vq_upo]
theorem vq_putr5 (v : Option Nat) (kont : Unit → hM β) : hm_bind (hm_putr 7 5 (some vf) v) kont (vq_em h vf lt ol pg fn sc ft ar) = kont () (vq_em h vf lt ol pg v sc ft ar) := by
  rw [bd_putr, vq_o]
  dsimp only
  rw [if_pos (show 5 < (vq_fs vf ol pg fn sc).length from Nat.le_of_ble_eq_true rfl), show (vq_fs vf ol pg fn sc).set 5 (vr_ v) = vq_fs vf ol pg v sc by simp [vq_fs], vq_upo]
theorem vq_putr6 (v : Option Nat) (kont : Unit → hM β) : hm_bind (hm_putr 7 6 (some vf) v) kont (vq_em h vf lt ol pg fn sc ft ar) = kont () (vq_em h vf lt v pg fn sc ft ar) := by
  rw [bd_putr, vq_o]
  dsimp only
  rw [if_pos (show 6 < (vq_fs vf ol pg fn sc).length from Nat.le_of_ble_eq_true rfl), show (vq_fs vf ol pg fn sc).set 6 (vr_ v) = vq_fs vf v pg fn sc by simp [vq_fs], vq_upo]
theorem vq_on {α : Type} (mm : hM α) (kont : α → hM β) : hm_bind (hm_on 7 (some vf) mm) kont (vq_em h vf lt ol pg fn sc ft ar) = hm_bind mm kont (vq_em h vf lt ol pg fn sc ft ar) := by
  rw [bd_on, vq_o]; rfl
theorem vq_onf {α : Type} (mm : hM α) (kont : α → hM β) : hm_bind (hm_on 2 (some lt) mm) kont (vq_em h vf lt ol pg fn sc ft ar) = hm_bind mm kont (vq_em h vf lt ol pg fn sc ft ar) := by
  rw [bd_on, vq_f]; rfl
theorem vq_fk (kont : Int32 → hM β) : hm_bind (hm_geti 2 0 (some lt)) kont (vq_em h vf lt ol pg fn sc ft ar) = kont ft.1 (vq_em h vf lt ol pg fn sc ft ar) := by
  rw [bd_geti, ev_fld, vq_f]; rfl
theorem vq_fp0 (v : Int32) (kont : Unit → hM β) : hm_bind (hm_puti 2 0 (some lt) v) kont (vq_em h vf lt ol pg fn sc ft ar) = kont () (vq_em h vf lt ol pg fn sc (v, ft.2) ar) := by
  rw [bd_puti, vq_f]
  dsimp only
  rw [if_pos (show 0 < [vi_ ft.1, vi_ ft.2].length from Nat.le_of_ble_eq_true rfl), ← vq_upf h vf lt ol pg fn sc ft ar (v, ft.2)]; rfl
theorem vq_fp1 (v : Int32) (kont : Unit → hM β) : hm_bind (hm_puti 2 1 (some lt) v) kont (vq_em h vf lt ol pg fn sc ft ar) = kont () (vq_em h vf lt ol pg fn sc (ft.1, v) ar) := by
  rw [bd_puti, vq_f]
  dsimp only
  rw [if_pos (show 1 < [vi_ ft.1, vi_ ft.2].length from Nat.le_of_ble_eq_true rfl), ← vq_upf h vf lt ol pg fn sc ft ar (ft.1, v)]; rfl
theorem vq_tell (k p : Int32) : p_Fault_tell (some lt) k p (vq_em h vf lt ol pg fn sc ft ar) = some ((), 0, 0, vq_em h vf lt ol pg fn sc (if ft.1 = 0 then (k, p) else ft) ar) := by
  rw [p_Fault_tell, vq_fk, ev_ite]
  by_cases e : ft.1 = 0
  · rw [if_pos e, if_pos e, vq_fp0, vq_fp1, ev_ret]
  · rw [if_neg e, if_neg e, ev_ret]
theorem vq_clear : p_Fault_clear (some lt) (vq_em h vf lt ol pg fn sc ft ar) = some ((), 0, 0, vq_em h vf lt ol pg fn sc (0, -1) ar) := by
  rw [p_Fault_clear, vq_fp0, vq_fp1, ev_ret]
end VQE
