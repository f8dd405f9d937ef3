/-! A FUNCTION of the class at q: its numbers, its rows (kinds 0 to 3), its handlers; a PROGRAM at a -/
abbrev fc_ : Type := (Nat → Int32) × (Nat → Nat → Int32) × (Nat → Nat → Int32)
def fn_fs (q : Nat) (s : Nat → Int32) : List lc_V := [vi_ (s 0), vi_ (s 1), vi_ (s 2), vi_ (s 3), vi_ (s 4), vi_ (s 5), vr_ (some (q + 1)), vr_ (some (q + 2)), vr_ (some (q + 3)), vr_ (some (q + 4)), vr_ (some (q + 5))]
def fn_hs (s : Nat → Int32) : List lc_V := [vi_ (s 0), vi_ (s 1), vi_ (s 2), vi_ (s 3), vi_ (s 4)]
def fn_hq (q : Nat) : Nat → Option Nat := fun j => if j < 6 then some (q + 6 + j) else none
def fnR (h : hc_H) (q : Nat) (F : fc_) : Prop := h.2.2.2 3 q = some (fn_fs q F.1) ∧ (∀ k, k < 4 → h.2.1 k (q + (k + 1)) = some (400, F.2.1 k)) ∧ h.2.2.1 9 (q + 5) = some (6, fn_hq q) ∧ ∀ k, k < 6 → h.2.2.2 4 (q + 6 + k) = some (fn_hs (F.2.2 k))
section FNR
variable {β : Type} {h : hc_H} {q : Nat} {F : fc_} 
theorem fr_get0 (R : fnR h q F) (kont : Int32 → hM β) : hm_bind (hm_geti 3 0 (some q)) kont h = kont (F.1 0) h := by
  rw [bd_geti, ev_fld, R.1]; rfl
theorem fr_get1 (R : fnR h q F) (kont : Int32 → hM β) : hm_bind (hm_geti 3 1 (some q)) kont h = kont (F.1 1) h := by
  rw [bd_geti, ev_fld, R.1]; rfl
theorem fr_get2 (R : fnR h q F) (kont : Int32 → hM β) : hm_bind (hm_geti 3 2 (some q)) kont h = kont (F.1 2) h := by
  rw [bd_geti, ev_fld, R.1]; rfl
theorem fr_get3 (R : fnR h q F) (kont : Int32 → hM β) : hm_bind (hm_geti 3 3 (some q)) kont h = kont (F.1 3) h := by
  rw [bd_geti, ev_fld, R.1]; rfl
theorem fr_get4 (R : fnR h q F) (kont : Int32 → hM β) : hm_bind (hm_geti 3 4 (some q)) kont h = kont (F.1 4) h := by
  rw [bd_geti, ev_fld, R.1]; rfl
theorem fr_get5 (R : fnR h q F) (kont : Int32 → hM β) : hm_bind (hm_geti 3 5 (some q)) kont h = kont (F.1 5) h := by
  rw [bd_geti, ev_fld, R.1]; rfl
theorem fr_ref6 (R : fnR h q F) (kont : Option Nat → hM β) : hm_bind (hm_getr 3 6 (some q)) kont h = kont (some (q + 1)) h := by
  rw [bd_getr, ev_fld, R.1]; rfl
theorem fr_ref7 (R : fnR h q F) (kont : Option Nat → hM β) : hm_bind (hm_getr 3 7 (some q)) kont h = kont (some (q + 2)) h := by
  rw [bd_getr, ev_fld, R.1]; rfl
theorem fr_ref8 (R : fnR h q F) (kont : Option Nat → hM β) : hm_bind (hm_getr 3 8 (some q)) kont h = kont (some (q + 3)) h := by
  rw [bd_getr, ev_fld, R.1]; rfl
theorem fr_ref9 (R : fnR h q F) (kont : Option Nat → hM β) : hm_bind (hm_getr 3 9 (some q)) kont h = kont (some (q + 4)) h := by
  rw [bd_getr, ev_fld, R.1]; rfl
theorem fr_ref10 (R : fnR h q F) (kont : Option Nat → hM β) : hm_bind (hm_getr 3 10 (some q)) kont h = kont (some (q + 5)) h := by
  rw [bd_getr, ev_fld, R.1]; rfl
theorem fr_ild0 (R : fnR h q F) (i : Int32) (kont : Int32 → hM β) : hm_bind (hm_ild 0 (some (q + 1)) i) kont h = if i < 0 ∨ 400 ≤ i.toNatClampNeg then none else kont (F.2.1 0 i.toNatClampNeg) h := by
  rw [bd_ild, R.2.1 0 (by omega)]
theorem fr_ild1 (R : fnR h q F) (i : Int32) (kont : Int32 → hM β) : hm_bind (hm_ild 1 (some (q + 2)) i) kont h = if i < 0 ∨ 400 ≤ i.toNatClampNeg then none else kont (F.2.1 1 i.toNatClampNeg) h := by
  rw [bd_ild, R.2.1 1 (by omega)]
theorem fr_ild2 (R : fnR h q F) (i : Int32) (kont : Int32 → hM β) : hm_bind (hm_ild 2 (some (q + 3)) i) kont h = if i < 0 ∨ 400 ≤ i.toNatClampNeg then none else kont (F.2.1 2 i.toNatClampNeg) h := by
  rw [bd_ild, R.2.1 2 (by omega)]
theorem fr_ild3 (R : fnR h q F) (i : Int32) (kont : Int32 → hM β) : hm_bind (hm_ild 3 (some (q + 4)) i) kont h = if i < 0 ∨ 400 ≤ i.toNatClampNeg then none else kont (F.2.1 3 i.toNatClampNeg) h := by
  rw [bd_ild, R.2.1 3 (by omega)]
theorem fr_qld (R : fnR h q F) (k : Nat) (hk : k < 6) (kont : Option Nat → hM β) : hm_bind (hm_qld 9 (some (q + 5)) (nI k)) kont h = kont (some (q + 6 + k)) h := by
  rw [bd_qld, R.2.2.1]
  dsimp only
  rw [if_neg (nI_in hk (by omega)), nI_clamp (by omega)]
  simp only [fn_hq, if_pos hk]
theorem fr_h0 (R : fnR h q F) (k : Nat) (hk : k < 6) (kont : Int32 → hM β) : hm_bind (hm_geti 4 0 (some (q + 6 + k))) kont h = kont (F.2.2 k 0) h := by
  rw [bd_geti, ev_fld, R.2.2.2 k hk]; rfl
theorem fr_h1 (R : fnR h q F) (k : Nat) (hk : k < 6) (kont : Int32 → hM β) : hm_bind (hm_geti 4 1 (some (q + 6 + k))) kont h = kont (F.2.2 k 1) h := by
  rw [bd_geti, ev_fld, R.2.2.2 k hk]; rfl
theorem fr_h2 (R : fnR h q F) (k : Nat) (hk : k < 6) (kont : Int32 → hM β) : hm_bind (hm_geti 4 2 (some (q + 6 + k))) kont h = kont (F.2.2 k 2) h := by
  rw [bd_geti, ev_fld, R.2.2.2 k hk]; rfl
theorem fr_h3 (R : fnR h q F) (k : Nat) (hk : k < 6) (kont : Int32 → hM β) : hm_bind (hm_geti 4 3 (some (q + 6 + k))) kont h = kont (F.2.2 k 3) h := by
  rw [bd_geti, ev_fld, R.2.2.2 k hk]; rfl
theorem fr_h4 (R : fnR h q F) (k : Nat) (hk : k < 6) (kont : Int32 → hM β) : hm_bind (hm_geti 4 4 (some (q + 6 + k))) kont h = kont (F.2.2 k 4) h := by
  rw [bd_geti, ev_fld, R.2.2.2 k hk]; rfl
theorem fr_on {α : Type} (R : fnR h q F) (mm : hM α) (kont : α → hM β) : hm_bind (hm_on 3 (some q) mm) kont h = hm_bind mm kont h := by
  rw [bd_on, R.1]; rfl
theorem fr_onh {α : Type} (R : fnR h q F) (k : Nat) (hk : k < 6) (mm : hM α) (kont : α → hM β) : hm_bind (hm_on 4 (some (q + 6 + k)) mm) kont h = hm_bind mm kont h := by
  rw [bd_on, R.2.2.2 k hk]; rfl
end FNR
def prR (h : hc_H) (a n : Nat) (fq : Nat → Option Nat) : Prop := h.2.2.2 5 a = some [vr_ (some (a + 1)), vi_ (nI n)] ∧ h.2.2.1 8 (a + 1) = some (12, fq)
theorem nI_ex {x : Int32} {n : Nat} (h0 : ¬ x < 0) (h1 : ¬ nI n ≤ x) (hn : n < 2 ^ 31) : ∃ k, k < n ∧ x = nI k := by
  rcases pk_ix x hn with z | z | z
  · exact absurd z h0
  · exact absurd z h1
  · exact z
section PRR
variable {β : Type} {h : hc_H} {a n : Nat} {fq : Nat → Option Nat} 
theorem pr_get1 (R : prR h a n fq) (kont : Int32 → hM β) : hm_bind (hm_geti 5 1 (some a)) kont h = kont (nI n) h := by
  rw [bd_geti, ev_fld, R.1]; rfl
theorem pr_ref0 (R : prR h a n fq) (kont : Option Nat → hM β) : hm_bind (hm_getr 5 0 (some a)) kont h = kont (some (a + 1)) h := by
  rw [bd_getr, ev_fld, R.1]; rfl
theorem pr_qld (R : prR h a n fq) (k : Nat) (hk : k < 12) (kont : Option Nat → hM β) : hm_bind (hm_qld 8 (some (a + 1)) (nI k)) kont h = kont (fq k) h := by
  rw [bd_qld, R.2]
  dsimp only
  rw [if_neg (nI_in hk (by omega)), nI_clamp (by omega)]
theorem pr_on {α : Type} (R : prR h a n fq) (mm : hM α) (kont : α → hM β) : hm_bind (hm_on 5 (some a) mm) kont h = hm_bind mm kont h := by
  rw [bd_on, R.1]; rfl
theorem s_at (R : prR h a n fq) (hn : n ≤ 12) (x : Int32) : p_Program_at (some a) x h = some (if x < 0 ∨ nI n ≤ x then none else fq x.toNatClampNeg, 0, 0, h) := by
  simp only [p_Program_at, hm_jn]
  rw [ev_ite]
  by_cases h0 : x < 0
  · rw [if_pos h0, if_pos (Or.inl h0), ev_ret]
  · rw [if_neg h0, pr_get1 R, ev_ite]
    by_cases h1 : nI n ≤ x
    · rw [if_neg (Int32.not_lt.mpr h1), if_pos (Or.inr h1), ev_ret]
    · obtain ⟨k, hk, rfl⟩ : ∃ k, k < n ∧ x = nI k := nI_ex h0 h1 (by omega)
      rw [if_pos (Int32.not_le.mp h1), if_neg (fun z => z.elim h0 h1), pr_ref0 R, pr_qld R k (by omega), ev_ret, nI_clamp (by omega)]
end PRR
