/-! THE REFERENCE's STATE: sc: its numbers by the place of the field; ar: its rows by their kind; it stands at m, its rows behind it. -/
def mo_len (k : Nat) : Nat := ([4096, 26000, 2, 24, 24, 24, 24, 24, 24, 9600, 9600, 144, 144, 144, 144, 144, 9600, 9600, 400] : List Nat).getD (k - 10) 0
def mo_fs (m : Nat) (sc : Nat → Int32) : List lc_V := [vi_ (sc 0), vr_ (some (m + 1)), vi_ (sc 2), vr_ (some (m + 2)), vi_ (sc 4), vi_ (sc 5), vi_ (sc 6), vi_ (sc 7), vi_ (sc 8), vr_ (some (m + 3)), vr_ (some (m + 4)), vr_ (some (m + 5)), vr_ (some (m + 6)), vr_ (some (m + 7)), vr_ (some (m + 8)), vr_ (some (m + 9)), vr_ (some (m + 10)), vr_ (some (m + 11)), vr_ (some (m + 12)), vr_ (some (m + 13)), vr_ (some (m + 14)), vr_ (some (m + 15)), vr_ (some (m + 16)), vr_ (some (m + 17)), vr_ (some (m + 18)), vr_ (some (m + 19)), vi_ (sc 26), vi_ (sc 27), vi_ (sc 28)]
def mo_em (h : hc_H) (m : Nat) (sc : Nat → Int32) (ar : Nat → Nat → Int32) : hc_H := (h.1, fun k a => if (10 ≤ k ∧ k ≤ 28) ∧ a = m + (k - 9) then some (mo_len k, ar k) else h.2.1 k a, h.2.2.1, fun k a => if k = 8 ∧ a = m then some (mo_fs m sc) else h.2.2.2 k a)
section MOE
variable {β : Type} (h : hc_H) (m : Nat) (sc : Nat → Int32) (ar : Nat → Nat → Int32)
theorem mo_o : (mo_em h m sc ar).2.2.2 8 m = some (mo_fs m sc) := by simp [mo_em]
theorem mo_upo (sc' : Nat → Int32) : hc_up (mo_em h m sc ar) m (.inr (.inr (8, mo_fs m sc'))) = mo_em h m sc' ar := by
  refine hc_ext rfl (fun _ _ => rfl) (fun _ _ => rfl) (fun k a => ?_)
  rw [up_o4]
  simp only [mo_em]
  split <;> rfl
theorem mo_i (k : Nat) (hk : 10 ≤ k ∧ k ≤ 28) : (mo_em h m sc ar).2.1 k (m + (k - 9)) = some (mo_len k, ar k) := by simp [mo_em, hk]
theorem mo_upi (k : Nat) (hk : 10 ≤ k ∧ k ≤ 28) (f : Nat → Int32) : hc_up (mo_em h m sc ar) (m + (k - 9)) (.inl (k, mo_len k, f)) = mo_em h m sc (va_up ar k f) := by
  refine hc_ext rfl (fun k' a => ?_) (fun _ _ => rfl) (fun k a => rfl)
  rw [up_i2]
  simp only [mo_em]
  by_cases e : k' = k
  · subst e
    by_cases e2 : a = m + (k' - 9)
    · subst e2; simp [hk, va_up]
    · simp [e2]
  · simp [e, va_up]
theorem mo_get0 (kont : Int32 → hM β) : hm_bind (hm_geti 8 0 (some m)) kont (mo_em h m sc ar) = kont (sc 0) (mo_em h m sc ar) := by
  rw [bd_geti, ev_fld, mo_o]; rfl
theorem mo_set0 (v : Int32) : (mo_fs m sc).set 0 (vi_ v) = mo_fs m (va_up sc 0 v) := by simp [mo_fs, va_up]
theorem mo_put0 (v : Int32) (kont : Unit → hM β) : hm_bind (hm_puti 8 0 (some m) v) kont (mo_em h m sc ar) = kont () (mo_em h m (va_up sc 0 v) ar) := by
  rw [bd_puti, mo_o]
  dsimp only
  rw [if_pos (show 0 < (mo_fs m sc).length from Nat.le_of_ble_eq_true rfl), mo_set0, mo_upo]
theorem mo_get2 (kont : Int32 → hM β) : hm_bind (hm_geti 8 2 (some m)) kont (mo_em h m sc ar) = kont (sc 2) (mo_em h m sc ar) := by
  rw [bd_geti, ev_fld, mo_o]; rfl
theorem mo_set2 (v : Int32) : (mo_fs m sc).set 2 (vi_ v) = mo_fs m (va_up sc 2 v) := by simp [mo_fs, va_up]
theorem mo_put2 (v : Int32) (kont : Unit → hM β) : hm_bind (hm_puti 8 2 (some m) v) kont (mo_em h m sc ar) = kont () (mo_em h m (va_up sc 2 v) ar) := by
  rw [bd_puti, mo_o]
  dsimp only
  rw [if_pos (show 2 < (mo_fs m sc).length from Nat.le_of_ble_eq_true rfl), mo_set2, mo_upo]
theorem mo_get4 (kont : Int32 → hM β) : hm_bind (hm_geti 8 4 (some m)) kont (mo_em h m sc ar) = kont (sc 4) (mo_em h m sc ar) := by
  rw [bd_geti, ev_fld, mo_o]; rfl
theorem mo_set4 (v : Int32) : (mo_fs m sc).set 4 (vi_ v) = mo_fs m (va_up sc 4 v) := by simp [mo_fs, va_up]
theorem mo_put4 (v : Int32) (kont : Unit → hM β) : hm_bind (hm_puti 8 4 (some m) v) kont (mo_em h m sc ar) = kont () (mo_em h m (va_up sc 4 v) ar) := by
  rw [bd_puti, mo_o]
  dsimp only
  rw [if_pos (show 4 < (mo_fs m sc).length from Nat.le_of_ble_eq_true rfl), mo_set4, mo_upo]
theorem mo_get5 (kont : Int32 → hM β) : hm_bind (hm_geti 8 5 (some m)) kont (mo_em h m sc ar) = kont (sc 5) (mo_em h m sc ar) := by
  rw [bd_geti, ev_fld, mo_o]; rfl
theorem mo_set5 (v : Int32) : (mo_fs m sc).set 5 (vi_ v) = mo_fs m (va_up sc 5 v) := by simp [mo_fs, va_up]
theorem mo_put5 (v : Int32) (kont : Unit → hM β) : hm_bind (hm_puti 8 5 (some m) v) kont (mo_em h m sc ar) = kont () (mo_em h m (va_up sc 5 v) ar) := by
  rw [bd_puti, mo_o]
  dsimp only
  rw [if_pos (show 5 < (mo_fs m sc).length from Nat.le_of_ble_eq_true rfl), mo_set5, mo_upo]
theorem mo_get6 (kont : Int32 → hM β) : hm_bind (hm_geti 8 6 (some m)) kont (mo_em h m sc ar) = kont (sc 6) (mo_em h m sc ar) := by
  rw [bd_geti, ev_fld, mo_o]; rfl
theorem mo_set6 (v : Int32) : (mo_fs m sc).set 6 (vi_ v) = mo_fs m (va_up sc 6 v) := by simp [mo_fs, va_up]
theorem mo_put6 (v : Int32) (kont : Unit → hM β) : hm_bind (hm_puti 8 6 (some m) v) kont (mo_em h m sc ar) = kont () (mo_em h m (va_up sc 6 v) ar) := by
  rw [bd_puti, mo_o]
  dsimp only
  rw [if_pos (show 6 < (mo_fs m sc).length from Nat.le_of_ble_eq_true rfl), mo_set6, mo_upo]
theorem mo_get7 (kont : Int32 → hM β) : hm_bind (hm_geti 8 7 (some m)) kont (mo_em h m sc ar) = kont (sc 7) (mo_em h m sc ar) := by
  rw [bd_geti, ev_fld, mo_o]; rfl
theorem mo_set7 (v : Int32) : (mo_fs m sc).set 7 (vi_ v) = mo_fs m (va_up sc 7 v) := by simp [mo_fs, va_up]
theorem mo_put7 (v : Int32) (kont : Unit → hM β) : hm_bind (hm_puti 8 7 (some m) v) kont (mo_em h m sc ar) = kont () (mo_em h m (va_up sc 7 v) ar) := by
  rw [bd_puti, mo_o]
  dsimp only
  rw [if_pos (show 7 < (mo_fs m sc).length from Nat.le_of_ble_eq_true rfl), mo_set7, mo_upo]
theorem mo_get8 (kont : Int32 → hM β) : hm_bind (hm_geti 8 8 (some m)) kont (mo_em h m sc ar) = kont (sc 8) (mo_em h m sc ar) := by
  rw [bd_geti, ev_fld, mo_o]; rfl
theorem mo_set8 (v : Int32) : (mo_fs m sc).set 8 (vi_ v) = mo_fs m (va_up sc 8 v) := by simp [mo_fs, va_up]
theorem mo_put8 (v : Int32) (kont : Unit → hM β) : hm_bind (hm_puti 8 8 (some m) v) kont (mo_em h m sc ar) = kont () (mo_em h m (va_up sc 8 v) ar) := by
  rw [bd_puti, mo_o]
  dsimp only
  rw [if_pos (show 8 < (mo_fs m sc).length from Nat.le_of_ble_eq_true rfl), mo_set8, mo_upo]
theorem mo_get26 (kont : Int32 → hM β) : hm_bind (hm_geti 8 26 (some m)) kont (mo_em h m sc ar) = kont (sc 26) (mo_em h m sc ar) := by
  rw [bd_geti, ev_fld, mo_o]; rfl
theorem mo_set26 (v : Int32) : (mo_fs m sc).set 26 (vi_ v) = mo_fs m (va_up sc 26 v) := by simp [mo_fs, va_up]
theorem mo_put26 (v : Int32) (kont : Unit → hM β) : hm_bind (hm_puti 8 26 (some m) v) kont (mo_em h m sc ar) = kont () (mo_em h m (va_up sc 26 v) ar) := by
  rw [bd_puti, mo_o]
  dsimp only
  rw [if_pos (show 26 < (mo_fs m sc).length from Nat.le_of_ble_eq_true rfl), mo_set26, mo_upo]
theorem mo_get27 (kont : Int32 → hM β) : hm_bind (hm_geti 8 27 (some m)) kont (mo_em h m sc ar) = kont (sc 27) (mo_em h m sc ar) := by
  rw [bd_geti, ev_fld, mo_o]; rfl
theorem mo_set27 (v : Int32) : (mo_fs m sc).set 27 (vi_ v) = mo_fs m (va_up sc 27 v) := by simp [mo_fs, va_up]
theorem mo_put27 (v : Int32) (kont : Unit → hM β) : hm_bind (hm_puti 8 27 (some m) v) kont (mo_em h m sc ar) = kont () (mo_em h m (va_up sc 27 v) ar) := by
  rw [bd_puti, mo_o]
  dsimp only
  rw [if_pos (show 27 < (mo_fs m sc).length from Nat.le_of_ble_eq_true rfl), mo_set27, mo_upo]
theorem mo_get28 (kont : Int32 → hM β) : hm_bind (hm_geti 8 28 (some m)) kont (mo_em h m sc ar) = kont (sc 28) (mo_em h m sc ar) := by
  rw [bd_geti, ev_fld, mo_o]; rfl
theorem mo_set28 (v : Int32) : (mo_fs m sc).set 28 (vi_ v) = mo_fs m (va_up sc 28 v) := by simp [mo_fs, va_up]
theorem mo_put28 (v : Int32) (kont : Unit → hM β) : hm_bind (hm_puti 8 28 (some m) v) kont (mo_em h m sc ar) = kont () (mo_em h m (va_up sc 28 v) ar) := by
  rw [bd_puti, mo_o]
  dsimp only
  rw [if_pos (show 28 < (mo_fs m sc).length from Nat.le_of_ble_eq_true rfl), mo_set28, mo_upo]
theorem mo_ref1 (kont : Option Nat → hM β) : hm_bind (hm_getr 8 1 (some m)) kont (mo_em h m sc ar) = kont (some (m + 1)) (mo_em h m sc ar) := by
  rw [bd_getr, ev_fld, mo_o]; rfl
theorem mo_ild10 (i : Int32) (kont : Int32 → hM β) : hm_bind (hm_ild 10 (some (m + 1)) i) kont (mo_em h m sc ar) = if i < 0 ∨ 4096 ≤ i.toNatClampNeg then none else kont (ar 10 i.toNatClampNeg) (mo_em h m sc ar) := by
  rw [bd_ild, mo_i h m sc ar 10 (by decide)]; rfl
theorem mo_ist10 (i x : Int32) (kont : Unit → hM β) : hm_bind (hm_ist 10 (some (m + 1)) i x) kont (mo_em h m sc ar) = if i < 0 ∨ 4096 ≤ i.toNatClampNeg then none else kont () (mo_em h m sc (va_up ar 10 (va_up (ar 10) i.toNatClampNeg x))) := by
  rw [bd_ist, mo_i h m sc ar 10 (by decide)]
  dsimp only
  rw [mo_upi h m sc ar 10 (by decide)]; rfl
theorem mo_ref3 (kont : Option Nat → hM β) : hm_bind (hm_getr 8 3 (some m)) kont (mo_em h m sc ar) = kont (some (m + 2)) (mo_em h m sc ar) := by
  rw [bd_getr, ev_fld, mo_o]; rfl
theorem mo_ild11 (i : Int32) (kont : Int32 → hM β) : hm_bind (hm_ild 11 (some (m + 2)) i) kont (mo_em h m sc ar) = if i < 0 ∨ 26000 ≤ i.toNatClampNeg then none else kont (ar 11 i.toNatClampNeg) (mo_em h m sc ar) := by
  rw [bd_ild, mo_i h m sc ar 11 (by decide)]; rfl
theorem mo_ist11 (i x : Int32) (kont : Unit → hM β) : hm_bind (hm_ist 11 (some (m + 2)) i x) kont (mo_em h m sc ar) = if i < 0 ∨ 26000 ≤ i.toNatClampNeg then none else kont () (mo_em h m sc (va_up ar 11 (va_up (ar 11) i.toNatClampNeg x))) := by
  rw [bd_ist, mo_i h m sc ar 11 (by decide)]
  dsimp only
  rw [mo_upi h m sc ar 11 (by decide)]; rfl
theorem mo_ref9 (kont : Option Nat → hM β) : hm_bind (hm_getr 8 9 (some m)) kont (mo_em h m sc ar) = kont (some (m + 3)) (mo_em h m sc ar) := by
  rw [bd_getr, ev_fld, mo_o]; rfl
theorem mo_ild12 (i : Int32) (kont : Int32 → hM β) : hm_bind (hm_ild 12 (some (m + 3)) i) kont (mo_em h m sc ar) = if i < 0 ∨ 2 ≤ i.toNatClampNeg then none else kont (ar 12 i.toNatClampNeg) (mo_em h m sc ar) := by
  rw [bd_ild, mo_i h m sc ar 12 (by decide)]; rfl
theorem mo_ist12 (i x : Int32) (kont : Unit → hM β) : hm_bind (hm_ist 12 (some (m + 3)) i x) kont (mo_em h m sc ar) = if i < 0 ∨ 2 ≤ i.toNatClampNeg then none else kont () (mo_em h m sc (va_up ar 12 (va_up (ar 12) i.toNatClampNeg x))) := by
  rw [bd_ist, mo_i h m sc ar 12 (by decide)]
  dsimp only
  rw [mo_upi h m sc ar 12 (by decide)]; rfl
theorem mo_ref10 (kont : Option Nat → hM β) : hm_bind (hm_getr 8 10 (some m)) kont (mo_em h m sc ar) = kont (some (m + 4)) (mo_em h m sc ar) := by
  rw [bd_getr, ev_fld, mo_o]; rfl
theorem mo_ild13 (i : Int32) (kont : Int32 → hM β) : hm_bind (hm_ild 13 (some (m + 4)) i) kont (mo_em h m sc ar) = if i < 0 ∨ 24 ≤ i.toNatClampNeg then none else kont (ar 13 i.toNatClampNeg) (mo_em h m sc ar) := by
  rw [bd_ild, mo_i h m sc ar 13 (by decide)]; rfl
theorem mo_ist13 (i x : Int32) (kont : Unit → hM β) : hm_bind (hm_ist 13 (some (m + 4)) i x) kont (mo_em h m sc ar) = if i < 0 ∨ 24 ≤ i.toNatClampNeg then none else kont () (mo_em h m sc (va_up ar 13 (va_up (ar 13) i.toNatClampNeg x))) := by
  rw [bd_ist, mo_i h m sc ar 13 (by decide)]
  dsimp only
  rw [mo_upi h m sc ar 13 (by decide)]; rfl
theorem mo_ref11 (kont : Option Nat → hM β) : hm_bind (hm_getr 8 11 (some m)) kont (mo_em h m sc ar) = kont (some (m + 5)) (mo_em h m sc ar) := by
  rw [bd_getr, ev_fld, mo_o]; rfl
theorem mo_ild14 (i : Int32) (kont : Int32 → hM β) : hm_bind (hm_ild 14 (some (m + 5)) i) kont (mo_em h m sc ar) = if i < 0 ∨ 24 ≤ i.toNatClampNeg then none else kont (ar 14 i.toNatClampNeg) (mo_em h m sc ar) := by
  rw [bd_ild, mo_i h m sc ar 14 (by decide)]; rfl
theorem mo_ist14 (i x : Int32) (kont : Unit → hM β) : hm_bind (hm_ist 14 (some (m + 5)) i x) kont (mo_em h m sc ar) = if i < 0 ∨ 24 ≤ i.toNatClampNeg then none else kont () (mo_em h m sc (va_up ar 14 (va_up (ar 14) i.toNatClampNeg x))) := by
  rw [bd_ist, mo_i h m sc ar 14 (by decide)]
  dsimp only
  rw [mo_upi h m sc ar 14 (by decide)]; rfl
theorem mo_ref12 (kont : Option Nat → hM β) : hm_bind (hm_getr 8 12 (some m)) kont (mo_em h m sc ar) = kont (some (m + 6)) (mo_em h m sc ar) := by
  rw [bd_getr, ev_fld, mo_o]; rfl
theorem mo_ild15 (i : Int32) (kont : Int32 → hM β) : hm_bind (hm_ild 15 (some (m + 6)) i) kont (mo_em h m sc ar) = if i < 0 ∨ 24 ≤ i.toNatClampNeg then none else kont (ar 15 i.toNatClampNeg) (mo_em h m sc ar) := by
  rw [bd_ild, mo_i h m sc ar 15 (by decide)]; rfl
theorem mo_ist15 (i x : Int32) (kont : Unit → hM β) : hm_bind (hm_ist 15 (some (m + 6)) i x) kont (mo_em h m sc ar) = if i < 0 ∨ 24 ≤ i.toNatClampNeg then none else kont () (mo_em h m sc (va_up ar 15 (va_up (ar 15) i.toNatClampNeg x))) := by
  rw [bd_ist, mo_i h m sc ar 15 (by decide)]
  dsimp only
  rw [mo_upi h m sc ar 15 (by decide)]; rfl
theorem mo_ref13 (kont : Option Nat → hM β) : hm_bind (hm_getr 8 13 (some m)) kont (mo_em h m sc ar) = kont (some (m + 7)) (mo_em h m sc ar) := by
  rw [bd_getr, ev_fld, mo_o]; rfl
theorem mo_ild16 (i : Int32) (kont : Int32 → hM β) : hm_bind (hm_ild 16 (some (m + 7)) i) kont (mo_em h m sc ar) = if i < 0 ∨ 24 ≤ i.toNatClampNeg then none else kont (ar 16 i.toNatClampNeg) (mo_em h m sc ar) := by
  rw [bd_ild, mo_i h m sc ar 16 (by decide)]; rfl
theorem mo_ist16 (i x : Int32) (kont : Unit → hM β) : hm_bind (hm_ist 16 (some (m + 7)) i x) kont (mo_em h m sc ar) = if i < 0 ∨ 24 ≤ i.toNatClampNeg then none else kont () (mo_em h m sc (va_up ar 16 (va_up (ar 16) i.toNatClampNeg x))) := by
  rw [bd_ist, mo_i h m sc ar 16 (by decide)]
  dsimp only
  rw [mo_upi h m sc ar 16 (by decide)]; rfl
theorem mo_ref14 (kont : Option Nat → hM β) : hm_bind (hm_getr 8 14 (some m)) kont (mo_em h m sc ar) = kont (some (m + 8)) (mo_em h m sc ar) := by
  rw [bd_getr, ev_fld, mo_o]; rfl
theorem mo_ild17 (i : Int32) (kont : Int32 → hM β) : hm_bind (hm_ild 17 (some (m + 8)) i) kont (mo_em h m sc ar) = if i < 0 ∨ 24 ≤ i.toNatClampNeg then none else kont (ar 17 i.toNatClampNeg) (mo_em h m sc ar) := by
  rw [bd_ild, mo_i h m sc ar 17 (by decide)]; rfl
theorem mo_ist17 (i x : Int32) (kont : Unit → hM β) : hm_bind (hm_ist 17 (some (m + 8)) i x) kont (mo_em h m sc ar) = if i < 0 ∨ 24 ≤ i.toNatClampNeg then none else kont () (mo_em h m sc (va_up ar 17 (va_up (ar 17) i.toNatClampNeg x))) := by
  rw [bd_ist, mo_i h m sc ar 17 (by decide)]
  dsimp only
  rw [mo_upi h m sc ar 17 (by decide)]; rfl
theorem mo_ref15 (kont : Option Nat → hM β) : hm_bind (hm_getr 8 15 (some m)) kont (mo_em h m sc ar) = kont (some (m + 9)) (mo_em h m sc ar) := by
  rw [bd_getr, ev_fld, mo_o]; rfl
theorem mo_ild18 (i : Int32) (kont : Int32 → hM β) : hm_bind (hm_ild 18 (some (m + 9)) i) kont (mo_em h m sc ar) = if i < 0 ∨ 24 ≤ i.toNatClampNeg then none else kont (ar 18 i.toNatClampNeg) (mo_em h m sc ar) := by
  rw [bd_ild, mo_i h m sc ar 18 (by decide)]; rfl
theorem mo_ist18 (i x : Int32) (kont : Unit → hM β) : hm_bind (hm_ist 18 (some (m + 9)) i x) kont (mo_em h m sc ar) = if i < 0 ∨ 24 ≤ i.toNatClampNeg then none else kont () (mo_em h m sc (va_up ar 18 (va_up (ar 18) i.toNatClampNeg x))) := by
  rw [bd_ist, mo_i h m sc ar 18 (by decide)]
  dsimp only
  rw [mo_upi h m sc ar 18 (by decide)]; rfl
theorem mo_ref16 (kont : Option Nat → hM β) : hm_bind (hm_getr 8 16 (some m)) kont (mo_em h m sc ar) = kont (some (m + 10)) (mo_em h m sc ar) := by
  rw [bd_getr, ev_fld, mo_o]; rfl
theorem mo_ild19 (i : Int32) (kont : Int32 → hM β) : hm_bind (hm_ild 19 (some (m + 10)) i) kont (mo_em h m sc ar) = if i < 0 ∨ 9600 ≤ i.toNatClampNeg then none else kont (ar 19 i.toNatClampNeg) (mo_em h m sc ar) := by
  rw [bd_ild, mo_i h m sc ar 19 (by decide)]; rfl
theorem mo_ist19 (i x : Int32) (kont : Unit → hM β) : hm_bind (hm_ist 19 (some (m + 10)) i x) kont (mo_em h m sc ar) = if i < 0 ∨ 9600 ≤ i.toNatClampNeg then none else kont () (mo_em h m sc (va_up ar 19 (va_up (ar 19) i.toNatClampNeg x))) := by
  rw [bd_ist, mo_i h m sc ar 19 (by decide)]
  dsimp only
  rw [mo_upi h m sc ar 19 (by decide)]; rfl
theorem mo_ref17 (kont : Option Nat → hM β) : hm_bind (hm_getr 8 17 (some m)) kont (mo_em h m sc ar) = kont (some (m + 11)) (mo_em h m sc ar) := by
  rw [bd_getr, ev_fld, mo_o]; rfl
theorem mo_ild20 (i : Int32) (kont : Int32 → hM β) : hm_bind (hm_ild 20 (some (m + 11)) i) kont (mo_em h m sc ar) = if i < 0 ∨ 9600 ≤ i.toNatClampNeg then none else kont (ar 20 i.toNatClampNeg) (mo_em h m sc ar) := by
  rw [bd_ild, mo_i h m sc ar 20 (by decide)]; rfl
theorem mo_ist20 (i x : Int32) (kont : Unit → hM β) : hm_bind (hm_ist 20 (some (m + 11)) i x) kont (mo_em h m sc ar) = if i < 0 ∨ 9600 ≤ i.toNatClampNeg then none else kont () (mo_em h m sc (va_up ar 20 (va_up (ar 20) i.toNatClampNeg x))) := by
  rw [bd_ist, mo_i h m sc ar 20 (by decide)]
  dsimp only
  rw [mo_upi h m sc ar 20 (by decide)]; rfl
theorem mo_ref18 (kont : Option Nat → hM β) : hm_bind (hm_getr 8 18 (some m)) kont (mo_em h m sc ar) = kont (some (m + 12)) (mo_em h m sc ar) := by
  rw [bd_getr, ev_fld, mo_o]; rfl
theorem mo_ild21 (i : Int32) (kont : Int32 → hM β) : hm_bind (hm_ild 21 (some (m + 12)) i) kont (mo_em h m sc ar) = if i < 0 ∨ 144 ≤ i.toNatClampNeg then none else kont (ar 21 i.toNatClampNeg) (mo_em h m sc ar) := by
  rw [bd_ild, mo_i h m sc ar 21 (by decide)]; rfl
theorem mo_ist21 (i x : Int32) (kont : Unit → hM β) : hm_bind (hm_ist 21 (some (m + 12)) i x) kont (mo_em h m sc ar) = if i < 0 ∨ 144 ≤ i.toNatClampNeg then none else kont () (mo_em h m sc (va_up ar 21 (va_up (ar 21) i.toNatClampNeg x))) := by
  rw [bd_ist, mo_i h m sc ar 21 (by decide)]
  dsimp only
  rw [mo_upi h m sc ar 21 (by decide)]; rfl
theorem mo_ref19 (kont : Option Nat → hM β) : hm_bind (hm_getr 8 19 (some m)) kont (mo_em h m sc ar) = kont (some (m + 13)) (mo_em h m sc ar) := by
  rw [bd_getr, ev_fld, mo_o]; rfl
theorem mo_ild22 (i : Int32) (kont : Int32 → hM β) : hm_bind (hm_ild 22 (some (m + 13)) i) kont (mo_em h m sc ar) = if i < 0 ∨ 144 ≤ i.toNatClampNeg then none else kont (ar 22 i.toNatClampNeg) (mo_em h m sc ar) := by
  rw [bd_ild, mo_i h m sc ar 22 (by decide)]; rfl
theorem mo_ist22 (i x : Int32) (kont : Unit → hM β) : hm_bind (hm_ist 22 (some (m + 13)) i x) kont (mo_em h m sc ar) = if i < 0 ∨ 144 ≤ i.toNatClampNeg then none else kont () (mo_em h m sc (va_up ar 22 (va_up (ar 22) i.toNatClampNeg x))) := by
  rw [bd_ist, mo_i h m sc ar 22 (by decide)]
  dsimp only
  rw [mo_upi h m sc ar 22 (by decide)]; rfl
theorem mo_ref20 (kont : Option Nat → hM β) : hm_bind (hm_getr 8 20 (some m)) kont (mo_em h m sc ar) = kont (some (m + 14)) (mo_em h m sc ar) := by
  rw [bd_getr, ev_fld, mo_o]; rfl
theorem mo_ild23 (i : Int32) (kont : Int32 → hM β) : hm_bind (hm_ild 23 (some (m + 14)) i) kont (mo_em h m sc ar) = if i < 0 ∨ 144 ≤ i.toNatClampNeg then none else kont (ar 23 i.toNatClampNeg) (mo_em h m sc ar) := by
  rw [bd_ild, mo_i h m sc ar 23 (by decide)]; rfl
theorem mo_ist23 (i x : Int32) (kont : Unit → hM β) : hm_bind (hm_ist 23 (some (m + 14)) i x) kont (mo_em h m sc ar) = if i < 0 ∨ 144 ≤ i.toNatClampNeg then none else kont () (mo_em h m sc (va_up ar 23 (va_up (ar 23) i.toNatClampNeg x))) := by
  rw [bd_ist, mo_i h m sc ar 23 (by decide)]
  dsimp only
  rw [mo_upi h m sc ar 23 (by decide)]; rfl
theorem mo_ref21 (kont : Option Nat → hM β) : hm_bind (hm_getr 8 21 (some m)) kont (mo_em h m sc ar) = kont (some (m + 15)) (mo_em h m sc ar) := by
  rw [bd_getr, ev_fld, mo_o]; rfl
theorem mo_ild24 (i : Int32) (kont : Int32 → hM β) : hm_bind (hm_ild 24 (some (m + 15)) i) kont (mo_em h m sc ar) = if i < 0 ∨ 144 ≤ i.toNatClampNeg then none else kont (ar 24 i.toNatClampNeg) (mo_em h m sc ar) := by
  rw [bd_ild, mo_i h m sc ar 24 (by decide)]; rfl
theorem mo_ist24 (i x : Int32) (kont : Unit → hM β) : hm_bind (hm_ist 24 (some (m + 15)) i x) kont (mo_em h m sc ar) = if i < 0 ∨ 144 ≤ i.toNatClampNeg then none else kont () (mo_em h m sc (va_up ar 24 (va_up (ar 24) i.toNatClampNeg x))) := by
  rw [bd_ist, mo_i h m sc ar 24 (by decide)]
  dsimp only
  rw [mo_upi h m sc ar 24 (by decide)]; rfl
theorem mo_ref22 (kont : Option Nat → hM β) : hm_bind (hm_getr 8 22 (some m)) kont (mo_em h m sc ar) = kont (some (m + 16)) (mo_em h m sc ar) := by
  rw [bd_getr, ev_fld, mo_o]; rfl
theorem mo_ild25 (i : Int32) (kont : Int32 → hM β) : hm_bind (hm_ild 25 (some (m + 16)) i) kont (mo_em h m sc ar) = if i < 0 ∨ 144 ≤ i.toNatClampNeg then none else kont (ar 25 i.toNatClampNeg) (mo_em h m sc ar) := by
  rw [bd_ild, mo_i h m sc ar 25 (by decide)]; rfl
theorem mo_ist25 (i x : Int32) (kont : Unit → hM β) : hm_bind (hm_ist 25 (some (m + 16)) i x) kont (mo_em h m sc ar) = if i < 0 ∨ 144 ≤ i.toNatClampNeg then none else kont () (mo_em h m sc (va_up ar 25 (va_up (ar 25) i.toNatClampNeg x))) := by
  rw [bd_ist, mo_i h m sc ar 25 (by decide)]
  dsimp only
  rw [mo_upi h m sc ar 25 (by decide)]; rfl
theorem mo_ref23 (kont : Option Nat → hM β) : hm_bind (hm_getr 8 23 (some m)) kont (mo_em h m sc ar) = kont (some (m + 17)) (mo_em h m sc ar) := by
  rw [bd_getr, ev_fld, mo_o]; rfl
theorem mo_ild26 (i : Int32) (kont : Int32 → hM β) : hm_bind (hm_ild 26 (some (m + 17)) i) kont (mo_em h m sc ar) = if i < 0 ∨ 9600 ≤ i.toNatClampNeg then none else kont (ar 26 i.toNatClampNeg) (mo_em h m sc ar) := by
  rw [bd_ild, mo_i h m sc ar 26 (by decide)]; rfl
theorem mo_ist26 (i x : Int32) (kont : Unit → hM β) : hm_bind (hm_ist 26 (some (m + 17)) i x) kont (mo_em h m sc ar) = if i < 0 ∨ 9600 ≤ i.toNatClampNeg then none else kont () (mo_em h m sc (va_up ar 26 (va_up (ar 26) i.toNatClampNeg x))) := by
  rw [bd_ist, mo_i h m sc ar 26 (by decide)]
  dsimp only
  rw [mo_upi h m sc ar 26 (by decide)]; rfl
theorem mo_ref24 (kont : Option Nat → hM β) : hm_bind (hm_getr 8 24 (some m)) kont (mo_em h m sc ar) = kont (some (m + 18)) (mo_em h m sc ar) := by
  rw [bd_getr, ev_fld, mo_o]; rfl
theorem mo_ild27 (i : Int32) (kont : Int32 → hM β) : hm_bind (hm_ild 27 (some (m + 18)) i) kont (mo_em h m sc ar) = if i < 0 ∨ 9600 ≤ i.toNatClampNeg then none else kont (ar 27 i.toNatClampNeg) (mo_em h m sc ar) := by
  rw [bd_ild, mo_i h m sc ar 27 (by decide)]; rfl
theorem mo_ist27 (i x : Int32) (kont : Unit → hM β) : hm_bind (hm_ist 27 (some (m + 18)) i x) kont (mo_em h m sc ar) = if i < 0 ∨ 9600 ≤ i.toNatClampNeg then none else kont () (mo_em h m sc (va_up ar 27 (va_up (ar 27) i.toNatClampNeg x))) := by
  rw [bd_ist, mo_i h m sc ar 27 (by decide)]
  dsimp only
  rw [mo_upi h m sc ar 27 (by decide)]; rfl
theorem mo_ref25 (kont : Option Nat → hM β) : hm_bind (hm_getr 8 25 (some m)) kont (mo_em h m sc ar) = kont (some (m + 19)) (mo_em h m sc ar) := by
  rw [bd_getr, ev_fld, mo_o]; rfl
theorem mo_ild28 (i : Int32) (kont : Int32 → hM β) : hm_bind (hm_ild 28 (some (m + 19)) i) kont (mo_em h m sc ar) = if i < 0 ∨ 400 ≤ i.toNatClampNeg then none else kont (ar 28 i.toNatClampNeg) (mo_em h m sc ar) := by
  rw [bd_ild, mo_i h m sc ar 28 (by decide)]; rfl
theorem mo_ist28 (i x : Int32) (kont : Unit → hM β) : hm_bind (hm_ist 28 (some (m + 19)) i x) kont (mo_em h m sc ar) = if i < 0 ∨ 400 ≤ i.toNatClampNeg then none else kont () (mo_em h m sc (va_up ar 28 (va_up (ar 28) i.toNatClampNeg x))) := by
  rw [bd_ist, mo_i h m sc ar 28 (by decide)]
  dsimp only
  rw [mo_upi h m sc ar 28 (by decide)]; rfl
theorem mo_on {α : Type} (mm : hM α) (kont : α → hM β) : hm_bind (hm_on 8 (some m) mm) kont (mo_em h m sc ar) = hm_bind mm kont (mo_em h m sc ar) := by
  rw [bd_on, mo_o]; rfl
end MOE
