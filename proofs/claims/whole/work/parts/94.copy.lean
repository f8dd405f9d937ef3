/-! COPYING a bank of the reference; what is read depends on the bytes below their number only; bits of handlers -/
def an_ (k : Nat) (x : Int32) : Int32 := if k = 24 then x &&& 1 else x
def cpn_ (ar : Nat → Nat → Int32) (s d : Nat) (u : Nat → Nat) : Nat → Nat → Int32 := fun k j => if 12 ≤ k ∧ bk_ k * d ≤ j ∧ j < bk_ k * d + u k then an_ k (ar k (bk_ k * s + (j - bk_ k * d))) else ar k j
theorem cpn_0 (ar : Nat → Nat → Int32) (s d : Nat) : cpn_ ar s d (fun _ => 0) = ar := by
  funext k j
  simp only [cpn_]
  rw [if_neg (by omega)]
theorem cpn_src (ar : Nat → Nat → Int32) {s d : Nat} (hsd : (s = 0 ∧ d = 1) ∨ (s = 1 ∧ d = 0)) (u : Nat → Nat) {k v : Nat} (hu : u k ≤ bk_ k) (hv : v < bk_ k) : cpn_ ar s d u k (bk_ k * s + v) = ar k (bk_ k * s + v) := by
  simp only [cpn_]
  rw [if_neg]
  rcases hsd with ⟨rfl, rfl⟩ | ⟨rfl, rfl⟩ <;> omega
theorem cpn_st (ar : Nat → Nat → Int32) (s d : Nat) {u : Nat → Nat} {k v : Nat} (hk : 12 ≤ k) (hu : u k = v) : va_up (cpn_ ar s d u) k (va_up (cpn_ ar s d u k) (bk_ k * d + v) (an_ k (ar k (bk_ k * s + v)))) = cpn_ ar s d (va_up u k (v + 1)) := by
  funext k' j
  by_cases e : k' = k
  · subst e
    rw [va_up_self]
    by_cases f : j = bk_ k' * d + v
    · subst f
      rw [va_up_self]
      simp only [cpn_, va_up_self]
      rw [if_pos (by omega), show bk_ k' * d + v - bk_ k' * d = v by omega]
    · rw [va_up_ne _ _ f]
      simp only [cpn_, va_up_self]
      by_cases c : 12 ≤ k' ∧ bk_ k' * d ≤ j ∧ j < bk_ k' * d + u k'
      · rw [if_pos c, if_pos (by omega)]
      · rw [if_neg c, if_neg (by omega)]
  · rw [va_up_ne _ _ e]
    simp only [cpn_]
    rw [va_up_ne _ _ e]
section CPY
variable {β : Type} (h : hc_H) (m : Nat) (sc : Nat → Int32) (ar : Nat → Nat → Int32) {s d : Nat} (hsd : (s = 0 ∧ d = 1) ∨ (s = 1 ∧ d = 0))
theorem cp_12 (hsd : (s = 0 ∧ d = 1) ∨ (s = 1 ∧ d = 0)) {u : Nat → Nat} {v : Nat} (hv : v < 1) (hu : u 12 = v) (K : Unit → hM β) : (hm_bind (hm_getr 8 9 (some m)) fun a => hm_bind (hm_getr 8 9 (some m)) fun a' => hm_bind (hm_ild 12 a' (nI (1 * s + v))) fun x => hm_bind (hm_ist 12 a (nI (1 * d + v)) x) K) (mo_em h m sc (cpn_ ar s d u)) = K () (mo_em h m sc (cpn_ ar s d (va_up u 12 (v + 1)))) := by
  have h1 : ¬ (nI (1 * s + v) < 0 ∨ 2 ≤ (nI (1 * s + v)).toNatClampNeg) := nI_in (by omega) (by omega)
  have h2 : ¬ (nI (1 * d + v) < 0 ∨ 2 ≤ (nI (1 * d + v)).toNatClampNeg) := nI_in (by omega) (by omega)
  have e1 : cpn_ ar s d u 12 (1 * s + v) = ar 12 (1 * s + v) := cpn_src ar hsd u (k := 12) (v := v) (show u 12 ≤ 1 by omega) hv
  have e2 := cpn_st ar s d (u := u) (k := 12) (v := v) (by omega) hu
  rw [mo_ref9, mo_ref9, mo_ild12, if_neg h1, nI_clamp (by omega), e1, mo_ist12, if_neg h2, nI_clamp (by omega)]
  exact congrArg (fun z => K () (mo_em h m sc z)) e2
theorem cp_13 (hsd : (s = 0 ∧ d = 1) ∨ (s = 1 ∧ d = 0)) {u : Nat → Nat} {v : Nat} (hv : v < 12) (hu : u 13 = v) (K : Unit → hM β) : (hm_bind (hm_getr 8 10 (some m)) fun a => hm_bind (hm_getr 8 10 (some m)) fun a' => hm_bind (hm_ild 13 a' (nI (12 * s + v))) fun x => hm_bind (hm_ist 13 a (nI (12 * d + v)) x) K) (mo_em h m sc (cpn_ ar s d u)) = K () (mo_em h m sc (cpn_ ar s d (va_up u 13 (v + 1)))) := by
  have h1 : ¬ (nI (12 * s + v) < 0 ∨ 24 ≤ (nI (12 * s + v)).toNatClampNeg) := nI_in (by omega) (by omega)
  have h2 : ¬ (nI (12 * d + v) < 0 ∨ 24 ≤ (nI (12 * d + v)).toNatClampNeg) := nI_in (by omega) (by omega)
  have e1 : cpn_ ar s d u 13 (12 * s + v) = ar 13 (12 * s + v) := cpn_src ar hsd u (k := 13) (v := v) (show u 13 ≤ 12 by omega) hv
  have e2 := cpn_st ar s d (u := u) (k := 13) (v := v) (by omega) hu
  rw [mo_ref10, mo_ref10, mo_ild13, if_neg h1, nI_clamp (by omega), e1, mo_ist13, if_neg h2, nI_clamp (by omega)]
  exact congrArg (fun z => K () (mo_em h m sc z)) e2
theorem cp_14 (hsd : (s = 0 ∧ d = 1) ∨ (s = 1 ∧ d = 0)) {u : Nat → Nat} {v : Nat} (hv : v < 12) (hu : u 14 = v) (K : Unit → hM β) : (hm_bind (hm_getr 8 11 (some m)) fun a => hm_bind (hm_getr 8 11 (some m)) fun a' => hm_bind (hm_ild 14 a' (nI (12 * s + v))) fun x => hm_bind (hm_ist 14 a (nI (12 * d + v)) x) K) (mo_em h m sc (cpn_ ar s d u)) = K () (mo_em h m sc (cpn_ ar s d (va_up u 14 (v + 1)))) := by
  have h1 : ¬ (nI (12 * s + v) < 0 ∨ 24 ≤ (nI (12 * s + v)).toNatClampNeg) := nI_in (by omega) (by omega)
  have h2 : ¬ (nI (12 * d + v) < 0 ∨ 24 ≤ (nI (12 * d + v)).toNatClampNeg) := nI_in (by omega) (by omega)
  have e1 : cpn_ ar s d u 14 (12 * s + v) = ar 14 (12 * s + v) := cpn_src ar hsd u (k := 14) (v := v) (show u 14 ≤ 12 by omega) hv
  have e2 := cpn_st ar s d (u := u) (k := 14) (v := v) (by omega) hu
  rw [mo_ref11, mo_ref11, mo_ild14, if_neg h1, nI_clamp (by omega), e1, mo_ist14, if_neg h2, nI_clamp (by omega)]
  exact congrArg (fun z => K () (mo_em h m sc z)) e2
theorem cp_15 (hsd : (s = 0 ∧ d = 1) ∨ (s = 1 ∧ d = 0)) {u : Nat → Nat} {v : Nat} (hv : v < 12) (hu : u 15 = v) (K : Unit → hM β) : (hm_bind (hm_getr 8 12 (some m)) fun a => hm_bind (hm_getr 8 12 (some m)) fun a' => hm_bind (hm_ild 15 a' (nI (12 * s + v))) fun x => hm_bind (hm_ist 15 a (nI (12 * d + v)) x) K) (mo_em h m sc (cpn_ ar s d u)) = K () (mo_em h m sc (cpn_ ar s d (va_up u 15 (v + 1)))) := by
  have h1 : ¬ (nI (12 * s + v) < 0 ∨ 24 ≤ (nI (12 * s + v)).toNatClampNeg) := nI_in (by omega) (by omega)
  have h2 : ¬ (nI (12 * d + v) < 0 ∨ 24 ≤ (nI (12 * d + v)).toNatClampNeg) := nI_in (by omega) (by omega)
  have e1 : cpn_ ar s d u 15 (12 * s + v) = ar 15 (12 * s + v) := cpn_src ar hsd u (k := 15) (v := v) (show u 15 ≤ 12 by omega) hv
  have e2 := cpn_st ar s d (u := u) (k := 15) (v := v) (by omega) hu
  rw [mo_ref12, mo_ref12, mo_ild15, if_neg h1, nI_clamp (by omega), e1, mo_ist15, if_neg h2, nI_clamp (by omega)]
  exact congrArg (fun z => K () (mo_em h m sc z)) e2
theorem cp_16 (hsd : (s = 0 ∧ d = 1) ∨ (s = 1 ∧ d = 0)) {u : Nat → Nat} {v : Nat} (hv : v < 12) (hu : u 16 = v) (K : Unit → hM β) : (hm_bind (hm_getr 8 13 (some m)) fun a => hm_bind (hm_getr 8 13 (some m)) fun a' => hm_bind (hm_ild 16 a' (nI (12 * s + v))) fun x => hm_bind (hm_ist 16 a (nI (12 * d + v)) x) K) (mo_em h m sc (cpn_ ar s d u)) = K () (mo_em h m sc (cpn_ ar s d (va_up u 16 (v + 1)))) := by
  have h1 : ¬ (nI (12 * s + v) < 0 ∨ 24 ≤ (nI (12 * s + v)).toNatClampNeg) := nI_in (by omega) (by omega)
  have h2 : ¬ (nI (12 * d + v) < 0 ∨ 24 ≤ (nI (12 * d + v)).toNatClampNeg) := nI_in (by omega) (by omega)
  have e1 : cpn_ ar s d u 16 (12 * s + v) = ar 16 (12 * s + v) := cpn_src ar hsd u (k := 16) (v := v) (show u 16 ≤ 12 by omega) hv
  have e2 := cpn_st ar s d (u := u) (k := 16) (v := v) (by omega) hu
  rw [mo_ref13, mo_ref13, mo_ild16, if_neg h1, nI_clamp (by omega), e1, mo_ist16, if_neg h2, nI_clamp (by omega)]
  exact congrArg (fun z => K () (mo_em h m sc z)) e2
theorem cp_17 (hsd : (s = 0 ∧ d = 1) ∨ (s = 1 ∧ d = 0)) {u : Nat → Nat} {v : Nat} (hv : v < 12) (hu : u 17 = v) (K : Unit → hM β) : (hm_bind (hm_getr 8 14 (some m)) fun a => hm_bind (hm_getr 8 14 (some m)) fun a' => hm_bind (hm_ild 17 a' (nI (12 * s + v))) fun x => hm_bind (hm_ist 17 a (nI (12 * d + v)) x) K) (mo_em h m sc (cpn_ ar s d u)) = K () (mo_em h m sc (cpn_ ar s d (va_up u 17 (v + 1)))) := by
  have h1 : ¬ (nI (12 * s + v) < 0 ∨ 24 ≤ (nI (12 * s + v)).toNatClampNeg) := nI_in (by omega) (by omega)
  have h2 : ¬ (nI (12 * d + v) < 0 ∨ 24 ≤ (nI (12 * d + v)).toNatClampNeg) := nI_in (by omega) (by omega)
  have e1 : cpn_ ar s d u 17 (12 * s + v) = ar 17 (12 * s + v) := cpn_src ar hsd u (k := 17) (v := v) (show u 17 ≤ 12 by omega) hv
  have e2 := cpn_st ar s d (u := u) (k := 17) (v := v) (by omega) hu
  rw [mo_ref14, mo_ref14, mo_ild17, if_neg h1, nI_clamp (by omega), e1, mo_ist17, if_neg h2, nI_clamp (by omega)]
  exact congrArg (fun z => K () (mo_em h m sc z)) e2
theorem cp_18 (hsd : (s = 0 ∧ d = 1) ∨ (s = 1 ∧ d = 0)) {u : Nat → Nat} {v : Nat} (hv : v < 12) (hu : u 18 = v) (K : Unit → hM β) : (hm_bind (hm_getr 8 15 (some m)) fun a => hm_bind (hm_getr 8 15 (some m)) fun a' => hm_bind (hm_ild 18 a' (nI (12 * s + v))) fun x => hm_bind (hm_ist 18 a (nI (12 * d + v)) x) K) (mo_em h m sc (cpn_ ar s d u)) = K () (mo_em h m sc (cpn_ ar s d (va_up u 18 (v + 1)))) := by
  have h1 : ¬ (nI (12 * s + v) < 0 ∨ 24 ≤ (nI (12 * s + v)).toNatClampNeg) := nI_in (by omega) (by omega)
  have h2 : ¬ (nI (12 * d + v) < 0 ∨ 24 ≤ (nI (12 * d + v)).toNatClampNeg) := nI_in (by omega) (by omega)
  have e1 : cpn_ ar s d u 18 (12 * s + v) = ar 18 (12 * s + v) := cpn_src ar hsd u (k := 18) (v := v) (show u 18 ≤ 12 by omega) hv
  have e2 := cpn_st ar s d (u := u) (k := 18) (v := v) (by omega) hu
  rw [mo_ref15, mo_ref15, mo_ild18, if_neg h1, nI_clamp (by omega), e1, mo_ist18, if_neg h2, nI_clamp (by omega)]
  exact congrArg (fun z => K () (mo_em h m sc z)) e2
theorem cp_19 (hsd : (s = 0 ∧ d = 1) ∨ (s = 1 ∧ d = 0)) {u : Nat → Nat} {v : Nat} (hv : v < 4800) (hu : u 19 = v) (K : Unit → hM β) : (hm_bind (hm_getr 8 16 (some m)) fun a => hm_bind (hm_getr 8 16 (some m)) fun a' => hm_bind (hm_ild 19 a' (nI (4800 * s + v))) fun x => hm_bind (hm_ist 19 a (nI (4800 * d + v)) x) K) (mo_em h m sc (cpn_ ar s d u)) = K () (mo_em h m sc (cpn_ ar s d (va_up u 19 (v + 1)))) := by
  have h1 : ¬ (nI (4800 * s + v) < 0 ∨ 9600 ≤ (nI (4800 * s + v)).toNatClampNeg) := nI_in (by omega) (by omega)
  have h2 : ¬ (nI (4800 * d + v) < 0 ∨ 9600 ≤ (nI (4800 * d + v)).toNatClampNeg) := nI_in (by omega) (by omega)
  have e1 : cpn_ ar s d u 19 (4800 * s + v) = ar 19 (4800 * s + v) := cpn_src ar hsd u (k := 19) (v := v) (show u 19 ≤ 4800 by omega) hv
  have e2 := cpn_st ar s d (u := u) (k := 19) (v := v) (by omega) hu
  rw [mo_ref16, mo_ref16, mo_ild19, if_neg h1, nI_clamp (by omega), e1, mo_ist19, if_neg h2, nI_clamp (by omega)]
  exact congrArg (fun z => K () (mo_em h m sc z)) e2
theorem cp_20 (hsd : (s = 0 ∧ d = 1) ∨ (s = 1 ∧ d = 0)) {u : Nat → Nat} {v : Nat} (hv : v < 4800) (hu : u 20 = v) (K : Unit → hM β) : (hm_bind (hm_getr 8 17 (some m)) fun a => hm_bind (hm_getr 8 17 (some m)) fun a' => hm_bind (hm_ild 20 a' (nI (4800 * s + v))) fun x => hm_bind (hm_ist 20 a (nI (4800 * d + v)) x) K) (mo_em h m sc (cpn_ ar s d u)) = K () (mo_em h m sc (cpn_ ar s d (va_up u 20 (v + 1)))) := by
  have h1 : ¬ (nI (4800 * s + v) < 0 ∨ 9600 ≤ (nI (4800 * s + v)).toNatClampNeg) := nI_in (by omega) (by omega)
  have h2 : ¬ (nI (4800 * d + v) < 0 ∨ 9600 ≤ (nI (4800 * d + v)).toNatClampNeg) := nI_in (by omega) (by omega)
  have e1 : cpn_ ar s d u 20 (4800 * s + v) = ar 20 (4800 * s + v) := cpn_src ar hsd u (k := 20) (v := v) (show u 20 ≤ 4800 by omega) hv
  have e2 := cpn_st ar s d (u := u) (k := 20) (v := v) (by omega) hu
  rw [mo_ref17, mo_ref17, mo_ild20, if_neg h1, nI_clamp (by omega), e1, mo_ist20, if_neg h2, nI_clamp (by omega)]
  exact congrArg (fun z => K () (mo_em h m sc z)) e2
theorem cp_21 (hsd : (s = 0 ∧ d = 1) ∨ (s = 1 ∧ d = 0)) {u : Nat → Nat} {v : Nat} (hv : v < 72) (hu : u 21 = v) (K : Unit → hM β) : (hm_bind (hm_getr 8 18 (some m)) fun a => hm_bind (hm_getr 8 18 (some m)) fun a' => hm_bind (hm_ild 21 a' (nI (72 * s + v))) fun x => hm_bind (hm_ist 21 a (nI (72 * d + v)) x) K) (mo_em h m sc (cpn_ ar s d u)) = K () (mo_em h m sc (cpn_ ar s d (va_up u 21 (v + 1)))) := by
  have h1 : ¬ (nI (72 * s + v) < 0 ∨ 144 ≤ (nI (72 * s + v)).toNatClampNeg) := nI_in (by omega) (by omega)
  have h2 : ¬ (nI (72 * d + v) < 0 ∨ 144 ≤ (nI (72 * d + v)).toNatClampNeg) := nI_in (by omega) (by omega)
  have e1 : cpn_ ar s d u 21 (72 * s + v) = ar 21 (72 * s + v) := cpn_src ar hsd u (k := 21) (v := v) (show u 21 ≤ 72 by omega) hv
  have e2 := cpn_st ar s d (u := u) (k := 21) (v := v) (by omega) hu
  rw [mo_ref18, mo_ref18, mo_ild21, if_neg h1, nI_clamp (by omega), e1, mo_ist21, if_neg h2, nI_clamp (by omega)]
  exact congrArg (fun z => K () (mo_em h m sc z)) e2
theorem cp_22 (hsd : (s = 0 ∧ d = 1) ∨ (s = 1 ∧ d = 0)) {u : Nat → Nat} {v : Nat} (hv : v < 72) (hu : u 22 = v) (K : Unit → hM β) : (hm_bind (hm_getr 8 19 (some m)) fun a => hm_bind (hm_getr 8 19 (some m)) fun a' => hm_bind (hm_ild 22 a' (nI (72 * s + v))) fun x => hm_bind (hm_ist 22 a (nI (72 * d + v)) x) K) (mo_em h m sc (cpn_ ar s d u)) = K () (mo_em h m sc (cpn_ ar s d (va_up u 22 (v + 1)))) := by
  have h1 : ¬ (nI (72 * s + v) < 0 ∨ 144 ≤ (nI (72 * s + v)).toNatClampNeg) := nI_in (by omega) (by omega)
  have h2 : ¬ (nI (72 * d + v) < 0 ∨ 144 ≤ (nI (72 * d + v)).toNatClampNeg) := nI_in (by omega) (by omega)
  have e1 : cpn_ ar s d u 22 (72 * s + v) = ar 22 (72 * s + v) := cpn_src ar hsd u (k := 22) (v := v) (show u 22 ≤ 72 by omega) hv
  have e2 := cpn_st ar s d (u := u) (k := 22) (v := v) (by omega) hu
  rw [mo_ref19, mo_ref19, mo_ild22, if_neg h1, nI_clamp (by omega), e1, mo_ist22, if_neg h2, nI_clamp (by omega)]
  exact congrArg (fun z => K () (mo_em h m sc z)) e2
theorem cp_23 (hsd : (s = 0 ∧ d = 1) ∨ (s = 1 ∧ d = 0)) {u : Nat → Nat} {v : Nat} (hv : v < 72) (hu : u 23 = v) (K : Unit → hM β) : (hm_bind (hm_getr 8 20 (some m)) fun a => hm_bind (hm_getr 8 20 (some m)) fun a' => hm_bind (hm_ild 23 a' (nI (72 * s + v))) fun x => hm_bind (hm_ist 23 a (nI (72 * d + v)) x) K) (mo_em h m sc (cpn_ ar s d u)) = K () (mo_em h m sc (cpn_ ar s d (va_up u 23 (v + 1)))) := by
  have h1 : ¬ (nI (72 * s + v) < 0 ∨ 144 ≤ (nI (72 * s + v)).toNatClampNeg) := nI_in (by omega) (by omega)
  have h2 : ¬ (nI (72 * d + v) < 0 ∨ 144 ≤ (nI (72 * d + v)).toNatClampNeg) := nI_in (by omega) (by omega)
  have e1 : cpn_ ar s d u 23 (72 * s + v) = ar 23 (72 * s + v) := cpn_src ar hsd u (k := 23) (v := v) (show u 23 ≤ 72 by omega) hv
  have e2 := cpn_st ar s d (u := u) (k := 23) (v := v) (by omega) hu
  rw [mo_ref20, mo_ref20, mo_ild23, if_neg h1, nI_clamp (by omega), e1, mo_ist23, if_neg h2, nI_clamp (by omega)]
  exact congrArg (fun z => K () (mo_em h m sc z)) e2
theorem cp_24 (hsd : (s = 0 ∧ d = 1) ∨ (s = 1 ∧ d = 0)) {u : Nat → Nat} {v : Nat} (hv : v < 72) (hu : u 24 = v) (K : Unit → hM β) : (hm_bind (hm_getr 8 21 (some m)) fun a => hm_bind (hm_getr 8 21 (some m)) fun a' => hm_bind (hm_ild 24 a' (nI (72 * s + v))) fun x => hm_bind (hm_ist 24 a (nI (72 * d + v)) (x &&& 1)) K) (mo_em h m sc (cpn_ ar s d u)) = K () (mo_em h m sc (cpn_ ar s d (va_up u 24 (v + 1)))) := by
  have h1 : ¬ (nI (72 * s + v) < 0 ∨ 144 ≤ (nI (72 * s + v)).toNatClampNeg) := nI_in (by omega) (by omega)
  have h2 : ¬ (nI (72 * d + v) < 0 ∨ 144 ≤ (nI (72 * d + v)).toNatClampNeg) := nI_in (by omega) (by omega)
  have e1 : cpn_ ar s d u 24 (72 * s + v) = ar 24 (72 * s + v) := cpn_src ar hsd u (k := 24) (v := v) (show u 24 ≤ 72 by omega) hv
  have e2 := cpn_st ar s d (u := u) (k := 24) (v := v) (by omega) hu
  rw [mo_ref21, mo_ref21, mo_ild24, if_neg h1, nI_clamp (by omega), e1, mo_ist24, if_neg h2, nI_clamp (by omega)]
  exact congrArg (fun z => K () (mo_em h m sc z)) e2
theorem cp_25 (hsd : (s = 0 ∧ d = 1) ∨ (s = 1 ∧ d = 0)) {u : Nat → Nat} {v : Nat} (hv : v < 72) (hu : u 25 = v) (K : Unit → hM β) : (hm_bind (hm_getr 8 22 (some m)) fun a => hm_bind (hm_getr 8 22 (some m)) fun a' => hm_bind (hm_ild 25 a' (nI (72 * s + v))) fun x => hm_bind (hm_ist 25 a (nI (72 * d + v)) x) K) (mo_em h m sc (cpn_ ar s d u)) = K () (mo_em h m sc (cpn_ ar s d (va_up u 25 (v + 1)))) := by
  have h1 : ¬ (nI (72 * s + v) < 0 ∨ 144 ≤ (nI (72 * s + v)).toNatClampNeg) := nI_in (by omega) (by omega)
  have h2 : ¬ (nI (72 * d + v) < 0 ∨ 144 ≤ (nI (72 * d + v)).toNatClampNeg) := nI_in (by omega) (by omega)
  have e1 : cpn_ ar s d u 25 (72 * s + v) = ar 25 (72 * s + v) := cpn_src ar hsd u (k := 25) (v := v) (show u 25 ≤ 72 by omega) hv
  have e2 := cpn_st ar s d (u := u) (k := 25) (v := v) (by omega) hu
  rw [mo_ref22, mo_ref22, mo_ild25, if_neg h1, nI_clamp (by omega), e1, mo_ist25, if_neg h2, nI_clamp (by omega)]
  exact congrArg (fun z => K () (mo_em h m sc z)) e2
theorem cp_26 (hsd : (s = 0 ∧ d = 1) ∨ (s = 1 ∧ d = 0)) {u : Nat → Nat} {v : Nat} (hv : v < 4800) (hu : u 26 = v) (K : Unit → hM β) : (hm_bind (hm_getr 8 23 (some m)) fun a => hm_bind (hm_getr 8 23 (some m)) fun a' => hm_bind (hm_ild 26 a' (nI (4800 * s + v))) fun x => hm_bind (hm_ist 26 a (nI (4800 * d + v)) x) K) (mo_em h m sc (cpn_ ar s d u)) = K () (mo_em h m sc (cpn_ ar s d (va_up u 26 (v + 1)))) := by
  have h1 : ¬ (nI (4800 * s + v) < 0 ∨ 9600 ≤ (nI (4800 * s + v)).toNatClampNeg) := nI_in (by omega) (by omega)
  have h2 : ¬ (nI (4800 * d + v) < 0 ∨ 9600 ≤ (nI (4800 * d + v)).toNatClampNeg) := nI_in (by omega) (by omega)
  have e1 : cpn_ ar s d u 26 (4800 * s + v) = ar 26 (4800 * s + v) := cpn_src ar hsd u (k := 26) (v := v) (show u 26 ≤ 4800 by omega) hv
  have e2 := cpn_st ar s d (u := u) (k := 26) (v := v) (by omega) hu
  rw [mo_ref23, mo_ref23, mo_ild26, if_neg h1, nI_clamp (by omega), e1, mo_ist26, if_neg h2, nI_clamp (by omega)]
  exact congrArg (fun z => K () (mo_em h m sc z)) e2
theorem cp_27 (hsd : (s = 0 ∧ d = 1) ∨ (s = 1 ∧ d = 0)) {u : Nat → Nat} {v : Nat} (hv : v < 4800) (hu : u 27 = v) (K : Unit → hM β) : (hm_bind (hm_getr 8 24 (some m)) fun a => hm_bind (hm_getr 8 24 (some m)) fun a' => hm_bind (hm_ild 27 a' (nI (4800 * s + v))) fun x => hm_bind (hm_ist 27 a (nI (4800 * d + v)) x) K) (mo_em h m sc (cpn_ ar s d u)) = K () (mo_em h m sc (cpn_ ar s d (va_up u 27 (v + 1)))) := by
  have h1 : ¬ (nI (4800 * s + v) < 0 ∨ 9600 ≤ (nI (4800 * s + v)).toNatClampNeg) := nI_in (by omega) (by omega)
  have h2 : ¬ (nI (4800 * d + v) < 0 ∨ 9600 ≤ (nI (4800 * d + v)).toNatClampNeg) := nI_in (by omega) (by omega)
  have e1 : cpn_ ar s d u 27 (4800 * s + v) = ar 27 (4800 * s + v) := cpn_src ar hsd u (k := 27) (v := v) (show u 27 ≤ 4800 by omega) hv
  have e2 := cpn_st ar s d (u := u) (k := 27) (v := v) (by omega) hu
  rw [mo_ref24, mo_ref24, mo_ild27, if_neg h1, nI_clamp (by omega), e1, mo_ist27, if_neg h2, nI_clamp (by omega)]
  exact congrArg (fun z => K () (mo_em h m sc z)) e2
theorem cl_14 (hsd : (s = 0 ∧ d = 1) ∨ (s = 1 ∧ d = 0)) (w : Nat → Nat) (kx : hM Unit) : ∀ (r fu : Nat), r ≤ 12 → r < fu → p_Mo_copyProgram_14 (some m) (nI s) (nI d) kx fu (nI (12 - r)) (mo_em h m sc (cpn_ ar s d (fun k => if k = 13 ∨ k = 14 ∨ k = 15 ∨ k = 16 ∨ k = 17 ∨ k = 18 then (12 - r) else w k))) = kx (mo_em h m sc (cpn_ ar s d (fun k => if k = 13 ∨ k = 14 ∨ k = 15 ∨ k = 16 ∨ k = 17 ∨ k = 18 then 12 else w k))) := by
  intro r
  induction r with
  | zero =>
    intro fu _ hf
    obtain ⟨u, rfl⟩ : ∃ u, fu = u + 1 := ⟨fu - 1, by omega⟩
    rw [p_Mo_copyProgram_14, ev_ite, if_pos (show (12 : Int32) ≤ nI (12 - 0) by decide)]
  | succ r ih =>
    intro fu hr hf
    obtain ⟨u, rfl⟩ : ∃ u, fu = u + 1 := ⟨fu - 1, by omega⟩
    have i1 : (12 * nI s) + nI (12 - (r + 1)) = nI (12 * s + (12 - (r + 1))) := by rw [show (12 : Int32) = nI 12 by decide, pk_mul, nI_add]
    have i2 : (12 * nI d) + nI (12 - (r + 1)) = nI (12 * d + (12 - (r + 1))) := by rw [show (12 : Int32) = nI 12 by decide, pk_mul, nI_add]
    rw [p_Mo_copyProgram_14, ev_ite, if_neg (show ¬ (12 : Int32) ≤ nI (12 - (r + 1)) from nI_ge (b := 12) (by omega) (by omega)), i1, i2]
    rw [cp_13 h m sc ar hsd (v := 12 - (r + 1)) (by omega) (by simp [va_up])]
    rw [cp_14 h m sc ar hsd (v := 12 - (r + 1)) (by omega) (by simp [va_up])]
    rw [cp_15 h m sc ar hsd (v := 12 - (r + 1)) (by omega) (by simp [va_up])]
    rw [cp_16 h m sc ar hsd (v := 12 - (r + 1)) (by omega) (by simp [va_up])]
    rw [cp_17 h m sc ar hsd (v := 12 - (r + 1)) (by omega) (by simp [va_up])]
    rw [cp_18 h m sc ar hsd (v := 12 - (r + 1)) (by omega) (by simp [va_up])]
    have eu : va_up (va_up (va_up (va_up (va_up (va_up (fun k => if k = 13 ∨ k = 14 ∨ k = 15 ∨ k = 16 ∨ k = 17 ∨ k = 18 then (12 - (r + 1)) else w k) 13 (12 - (r + 1) + 1)) 14 (12 - (r + 1) + 1)) 15 (12 - (r + 1) + 1)) 16 (12 - (r + 1) + 1)) 17 (12 - (r + 1) + 1)) 18 (12 - (r + 1) + 1) = (fun k => if k = 13 ∨ k = 14 ∨ k = 15 ∨ k = 16 ∨ k = 17 ∨ k = 18 then (12 - r) else w k) := by
      funext k
      simp only [va_up]
      have : 12 - (r + 1) + 1 = 12 - r := by omega
      rw [this]
      by_cases c18 : k = 18
      · subst c18; simp
      by_cases c17 : k = 17
      · subst c17; simp
      by_cases c16 : k = 16
      · subst c16; simp
      by_cases c15 : k = 15
      · subst c15; simp
      by_cases c14 : k = 14
      · subst c14; simp
      by_cases c13 : k = 13
      · subst c13; simp
      simp only [c13, c14, c15, c16, c17, c18, or_self, if_false]
    rw [eu, nI_1, show 12 - (r + 1) + 1 = 12 - r by omega, ih u (by omega) (by omega)]
theorem cl_160 (hsd : (s = 0 ∧ d = 1) ∨ (s = 1 ∧ d = 0)) (w : Nat → Nat) (kx : hM Unit) : ∀ (r fu : Nat), r ≤ 4800 → r < fu → p_Mo_copyProgram_160 (some m) (nI s) (nI d) kx fu (nI (4800 - r)) (mo_em h m sc (cpn_ ar s d (fun k => if k = 19 ∨ k = 20 ∨ k = 26 ∨ k = 27 then (4800 - r) else w k))) = kx (mo_em h m sc (cpn_ ar s d (fun k => if k = 19 ∨ k = 20 ∨ k = 26 ∨ k = 27 then 4800 else w k))) := by
  intro r
  induction r with
  | zero =>
    intro fu _ hf
    obtain ⟨u, rfl⟩ : ∃ u, fu = u + 1 := ⟨fu - 1, by omega⟩
    rw [p_Mo_copyProgram_160, ev_ite, if_pos (show (4800 : Int32) ≤ nI (4800 - 0) by decide)]
  | succ r ih =>
    intro fu hr hf
    obtain ⟨u, rfl⟩ : ∃ u, fu = u + 1 := ⟨fu - 1, by omega⟩
    have i1 : (4800 * nI s) + nI (4800 - (r + 1)) = nI (4800 * s + (4800 - (r + 1))) := by rw [show (4800 : Int32) = nI 4800 by decide, pk_mul, nI_add]
    have i2 : (4800 * nI d) + nI (4800 - (r + 1)) = nI (4800 * d + (4800 - (r + 1))) := by rw [show (4800 : Int32) = nI 4800 by decide, pk_mul, nI_add]
    rw [p_Mo_copyProgram_160, ev_ite, if_neg (show ¬ (4800 : Int32) ≤ nI (4800 - (r + 1)) from nI_ge (b := 4800) (by omega) (by omega)), i1, i2]
    rw [cp_19 h m sc ar hsd (v := 4800 - (r + 1)) (by omega) (by simp [va_up])]
    rw [cp_20 h m sc ar hsd (v := 4800 - (r + 1)) (by omega) (by simp [va_up])]
    rw [cp_26 h m sc ar hsd (v := 4800 - (r + 1)) (by omega) (by simp [va_up])]
    rw [cp_27 h m sc ar hsd (v := 4800 - (r + 1)) (by omega) (by simp [va_up])]
    have eu : va_up (va_up (va_up (va_up (fun k => if k = 19 ∨ k = 20 ∨ k = 26 ∨ k = 27 then (4800 - (r + 1)) else w k) 19 (4800 - (r + 1) + 1)) 20 (4800 - (r + 1) + 1)) 26 (4800 - (r + 1) + 1)) 27 (4800 - (r + 1) + 1) = (fun k => if k = 19 ∨ k = 20 ∨ k = 26 ∨ k = 27 then (4800 - r) else w k) := by
      funext k
      simp only [va_up]
      have : 4800 - (r + 1) + 1 = 4800 - r := by omega
      rw [this]
      by_cases c27 : k = 27
      · subst c27; simp
      by_cases c26 : k = 26
      · subst c26; simp
      by_cases c20 : k = 20
      · subst c20; simp
      by_cases c19 : k = 19
      · subst c19; simp
      simp only [c19, c20, c26, c27, or_self, if_false]
    rw [eu, nI_1, show 4800 - (r + 1) + 1 = 4800 - r by omega, ih u (by omega) (by omega)]
theorem cl_271 (hsd : (s = 0 ∧ d = 1) ∨ (s = 1 ∧ d = 0)) (w : Nat → Nat) (kx : hM Unit) : ∀ (r fu : Nat), r ≤ 72 → r < fu → p_Mo_copyProgram_271 (some m) (nI s) (nI d) kx fu (nI (72 - r)) (mo_em h m sc (cpn_ ar s d (fun k => if k = 21 ∨ k = 22 ∨ k = 23 ∨ k = 24 ∨ k = 25 then (72 - r) else w k))) = kx (mo_em h m sc (cpn_ ar s d (fun k => if k = 21 ∨ k = 22 ∨ k = 23 ∨ k = 24 ∨ k = 25 then 72 else w k))) := by
  intro r
  induction r with
  | zero =>
    intro fu _ hf
    obtain ⟨u, rfl⟩ : ∃ u, fu = u + 1 := ⟨fu - 1, by omega⟩
    rw [p_Mo_copyProgram_271, ev_ite, if_pos (show (72 : Int32) ≤ nI (72 - 0) by decide)]
  | succ r ih =>
    intro fu hr hf
    obtain ⟨u, rfl⟩ : ∃ u, fu = u + 1 := ⟨fu - 1, by omega⟩
    have i1 : (72 * nI s) + nI (72 - (r + 1)) = nI (72 * s + (72 - (r + 1))) := by rw [show (72 : Int32) = nI 72 by decide, pk_mul, nI_add]
    have i2 : (72 * nI d) + nI (72 - (r + 1)) = nI (72 * d + (72 - (r + 1))) := by rw [show (72 : Int32) = nI 72 by decide, pk_mul, nI_add]
    rw [p_Mo_copyProgram_271, ev_ite, if_neg (show ¬ (72 : Int32) ≤ nI (72 - (r + 1)) from nI_ge (b := 72) (by omega) (by omega)), i1, i2]
    rw [cp_21 h m sc ar hsd (v := 72 - (r + 1)) (by omega) (by simp [va_up])]
    rw [cp_22 h m sc ar hsd (v := 72 - (r + 1)) (by omega) (by simp [va_up])]
    rw [cp_23 h m sc ar hsd (v := 72 - (r + 1)) (by omega) (by simp [va_up])]
    rw [cp_24 h m sc ar hsd (v := 72 - (r + 1)) (by omega) (by simp [va_up])]
    rw [cp_25 h m sc ar hsd (v := 72 - (r + 1)) (by omega) (by simp [va_up])]
    have eu : va_up (va_up (va_up (va_up (va_up (fun k => if k = 21 ∨ k = 22 ∨ k = 23 ∨ k = 24 ∨ k = 25 then (72 - (r + 1)) else w k) 21 (72 - (r + 1) + 1)) 22 (72 - (r + 1) + 1)) 23 (72 - (r + 1) + 1)) 24 (72 - (r + 1) + 1)) 25 (72 - (r + 1) + 1) = (fun k => if k = 21 ∨ k = 22 ∨ k = 23 ∨ k = 24 ∨ k = 25 then (72 - r) else w k) := by
      funext k
      simp only [va_up]
      have : 72 - (r + 1) + 1 = 72 - r := by omega
      rw [this]
      by_cases c25 : k = 25
      · subst c25; simp
      by_cases c24 : k = 24
      · subst c24; simp
      by_cases c23 : k = 23
      · subst c23; simp
      by_cases c22 : k = 22
      · subst c22; simp
      by_cases c21 : k = 21
      · subst c21; simp
      simp only [c21, c22, c23, c24, c25, or_self, if_false]
    rw [eu, nI_1, show 72 - (r + 1) + 1 = 72 - r by omega, ih u (by omega) (by omega)]
def uF_ : Nat → Nat := fun k => if k = 21 ∨ k = 22 ∨ k = 23 ∨ k = 24 ∨ k = 25 then 72 else (fun k => if k = 19 ∨ k = 20 ∨ k = 26 ∨ k = 27 then 4800 else (fun k => if k = 13 ∨ k = 14 ∨ k = 15 ∨ k = 16 ∨ k = 17 ∨ k = 18 then 12 else va_up (fun _ => 0) 12 1 k) k) k
def cpb_ (ar : Nat → Nat → Int32) (s d : Nat) : Nat → Nat → Int32 := cpn_ ar s d uF_
theorem uz_same {w : Nat → Nat} {P : Nat → Prop} [DecidablePred P] (hw : ∀ k, P k → w k = 0) : (fun k => if P k then 0 else w k) = w := by
  funext k
  by_cases c : P k
  · rw [if_pos c, hw k c]
  · rw [if_neg c]
theorem s_Mo_copy (hsd : (s = 0 ∧ d = 1) ∨ (s = 1 ∧ d = 0)) : p_Mo_copyProgram (some m) (nI s) (nI d) (mo_em h m sc ar) = some ((), 0, 0, mo_em h m sc (cpb_ ar s d)) := by
  rw [p_Mo_copyProgram]
  have e0 := cp_12 h m sc ar hsd (u := fun _ => 0) (v := 0) (by omega) rfl (fun _ => p_Mo_copyProgram_14 (some m) (nI s) (nI d) (p_Mo_copyProgram_160 (some m) (nI s) (nI d) (p_Mo_copyProgram_271 (some m) (nI s) (nI d) (hm_ret ()) hm_fuel 0) hm_fuel 0) hm_fuel 0)
  rw [cpn_0, Nat.add_zero, Nat.add_zero, Nat.one_mul, Nat.one_mul] at e0
  refine Eq.trans e0 ?_
  have e1 := cl_14 h m sc ar hsd (va_up (fun _ => 0) 12 1) (p_Mo_copyProgram_160 (some m) (nI s) (nI d) (p_Mo_copyProgram_271 (some m) (nI s) (nI d) (hm_ret ()) hm_fuel 0) hm_fuel 0) 12 hm_fuel (Nat.le_refl _) (by unfold hm_fuel; omega)
  rw [Nat.sub_self, uz_same (by intro k hk; exact va_up_ne _ _ (by omega))] at e1
  refine Eq.trans e1 ?_
  have e2 := cl_160 h m sc ar hsd (fun k => if k = 13 ∨ k = 14 ∨ k = 15 ∨ k = 16 ∨ k = 17 ∨ k = 18 then 12 else va_up (fun _ => 0) 12 1 k) (p_Mo_copyProgram_271 (some m) (nI s) (nI d) (hm_ret ()) hm_fuel 0) 4800 hm_fuel (Nat.le_refl _) (by unfold hm_fuel; omega)
  rw [Nat.sub_self, uz_same (by intro k hk; rw [if_neg (by omega), va_up_ne _ _ (by omega)])] at e2
  refine Eq.trans e2 ?_
  have e3 := cl_271 h m sc ar hsd (fun k => if k = 19 ∨ k = 20 ∨ k = 26 ∨ k = 27 then 4800 else (fun k => if k = 13 ∨ k = 14 ∨ k = 15 ∨ k = 16 ∨ k = 17 ∨ k = 18 then 12 else va_up (fun _ => 0) 12 1 k) k) (hm_ret ()) 72 hm_fuel (Nat.le_refl _) (by unfold hm_fuel; omega)
  rw [Nat.sub_self, uz_same (by intro k hk; rw [if_neg (by omega)]; dsimp only; rw [if_neg (by omega), va_up_ne _ _ (by omega)])] at e3
  refine Eq.trans e3 ?_
  rw [ev_ret]
  rfl
end CPY
theorem uF_bk {k : Nat} (h1 : 12 ≤ k) (h2 : k ≤ 27) : uF_ k = bk_ k := by
  have : k = 12 ∨ k = 13 ∨ k = 14 ∨ k = 15 ∨ k = 16 ∨ k = 17 ∨ k = 18 ∨ k = 19 ∨ k = 20 ∨ k = 21 ∨ k = 22 ∨ k = 23 ∨ k = 24 ∨ k = 25 ∨ k = 26 ∨ k = 27 := by omega
  rcases this with rfl | rfl | rfl | rfl | rfl | rfl | rfl | rfl | rfl | rfl | rfl | rfl | rfl | rfl | rfl | rfl <;> rfl
theorem cpb_at (ar : Nat → Nat → Int32) (s d : Nat) {k j : Nat} (h1 : 12 ≤ k) (h2 : k ≤ 27) (hj : j < bk_ k) : cpb_ ar s d k (bk_ k * d + j) = an_ k (ar k (bk_ k * s + j)) := by
  simp only [cpb_, cpn_]
  rw [uF_bk h1 h2, if_pos (by omega), show bk_ k * d + j - bk_ k * d = j by omega]
theorem cpb_no (ar : Nat → Nat → Int32) (s d : Nat) {k j : Nat} (h : k < 12 ∨ 28 ≤ k ∨ j < bk_ k * d ∨ bk_ k * d + bk_ k ≤ j) : cpb_ ar s d k j = ar k j := by
  simp only [cpb_, cpn_]
  rw [if_neg]
  rintro ⟨c1, c2, c3⟩
  by_cases c : k ≤ 27
  · rw [uF_bk c1 c] at c3
    omega
  · have : uF_ k = 0 := by
      unfold uF_
      dsimp only
      rw [if_neg (by omega), if_neg (by omega), if_neg (by omega), va_up_ne _ _ (by omega)]
    omega
theorem cpb_10 (ar : Nat → Nat → Int32) (s d : Nat) {k : Nat} (h : k < 12) : cpb_ ar s d k = ar k := by
  funext j
  exact cpb_no ar s d (Or.inl h)
theorem s_Mo_told (h : hc_H) (m : Nat) (sc : Nat → Int32) (ar : Nat → Nat → Int32) : p_Mo_told (some m) (mo_em h m sc ar) = some (sc 7, 0, 0, mo_em h m (va_up (va_up sc 5 (sc 7)) 6 (sc 8)) ar) := by
  rw [p_Mo_told, mo_get7, mo_put5, mo_get8, va_up_ne _ _ (show (8 : Nat) ≠ 5 by decide), mo_put6, mo_get7, va_up_ne _ _ (show (7 : Nat) ≠ 6 by decide), va_up_ne _ _ (show (7 : Nat) ≠ 5 by decide), ev_ret]
/-! only the bytes below their number matter -/
section CGR
variable {B B' : Nat → Int32} {N : Nat} (hB : ∀ j, j < N → B j = B' j)
theorem nb_cg (hB : ∀ j, j < N → B j = B' j) : nb_ B N = nb_ B' N := by
  funext p
  unfold nb_
  by_cases c : p < N
  · rw [if_pos c, if_pos c, hB p c]
  · rw [if_neg c, if_neg c]
theorem nv_cg (hB : ∀ j, j < N → B j = B' j) : ∀ r v, nv_ B N r v = nv_ B' N r v
  | 0, _ => rfl
  | r + 1, v => by
    rw [nv_, nv_, nb_cg hB]
    congr 1
    funext x
    exact nv_cg hB r _
theorem nn_cg (hB : ∀ j, j < N → B j = B' j) (n : Nat) (lo hi : Int32) : nn_ B N n lo hi = nn_ B' N n lo hi := by
  funext p
  unfold nn_
  rw [nv_cg hB]
theorem sst_cg (hB : ∀ j, j < N → B j = B' j) (x : Int32) : sst_ B N x = sst_ B' N x := by
  funext p
  unfold sst_
  rw [nb_cg hB]
theorem si_cg (hB : ∀ j, j < N → B j = B' j) (lo c a : Int32) : si_ B N lo c a = si_ B' N lo c a := by
  unfold si_
  simp only [nn_cg hB]
theorem sh_cg (hB : ∀ j, j < N → B j = B' j) (c : Int32) : sh_ B N c = sh_ B' N c := by
  unfold sh_
  simp only [nn_cg hB]
theorem shd_cg (hB : ∀ j, j < N → B j = B' j) (f : Nat) : shd_ B N f = shd_ B' N f := by
  unfold shd_
  simp only [nn_cg hB]
theorem sf_cg (hB : ∀ j, j < N → B j = B' j) (f : Nat) (a : Int32) : sf_ B N f a = sf_ B' N f a := by
  unfold sf_
  simp only [nn_cg hB, shd_cg hB, si_cg hB, sh_cg hB]
theorem sfs_cg (hB : ∀ j, j < N → B j = B' j) (a : Int32) : ∀ r f, sfs_ B N a r f = sfs_ B' N a r f
  | 0, _ => rfl
  | r + 1, f => by
    rw [sfs_, sfs_, sf_cg hB]
    congr 1
    funext d
    rw [sfs_cg hB a r]
theorem spg_cg (hB : ∀ j, j < N → B j = B' j) : spg_ B N = spg_ B' N := by
  unfold spg_
  simp only [nn_cg hB, sst_cg hB, sfs_cg hB]
end CGR
/-! the bit of a handler -/
theorem hws_a3 : ∀ (l : List hd5_) (F : fc_) (k : Nat), (∀ j, j < k → (hws_ F k l).2.2 j = F.2.2 j) ∧ ∀ j, k ≤ j → j < k + l.length → ∃ d, d ∈ l ∧ (hws_ F k l).2.2 j 3 = d.2.2.2.1
  | [], F, i => ⟨fun j _ => rfl, fun j h1 h2 => by simp at h2; omega⟩
  | d :: l, F, k => by
    obtain ⟨k1, k2⟩ := hws_a3 l (hw_ F k d) (k + 1)
    rw [hws_]
    have w : ∀ j, (hw_ F k d).2.2 j = va_up F.2.2 k (h5w_ (F.2.2 k) d) j := fun j => rfl
    refine ⟨fun j hj => ?_, fun j h1 h2 => ?_⟩
    · rw [k1 j (by omega), w, va_up_ne _ _ (by omega)]
    · by_cases c : j = k
      · subst c
        rw [k1 j (by omega), w, va_up_self]
        exact ⟨d, List.mem_cons_self, (h5w_at _ d).2.2.2.1⟩
      · obtain ⟨x, hx, e⟩ := k2 j (by omega) (by rw [List.length_cons] at h2; omega)
        exact ⟨x, List.mem_cons_of_mem _ hx, e⟩
theorem sh_a3 {B : Nat → Int32} {N p p' : Nat} {n : Int32} {d : hd5_} (h : sh_ B N n p = .inr (d, p')) : d.2.2.2.1 = 0 ∨ d.2.2.2.1 = 1 := by
  unfold sh_ at h
  obtain ⟨a, p1, h1, h⟩ := sbd_inr h
  obtain ⟨t, p2, h2, h⟩ := sbd_inr h
  obtain ⟨g, p3, h3, h⟩ := sbd_inr h
  obtain ⟨k, p4, h4, h⟩ := sbd_inr h
  obtain ⟨c, p5, h5, h⟩ := sbd_inr h
  cases h
  show (if k = 0 then (1 : Int32) else 0) = 0 ∨ (if k = 0 then (1 : Int32) else 0) = 1
  split
  · exact Or.inr rfl
  · exact Or.inl rfl
theorem sf_a3 {B : Nat → Int32} {N f p p' : Nat} {all : Int32} {d : fd_} (h : sf_ B N f all p = .inr (d, p')) (F : fc_) : anyb_ (cfu_ F d) d.2.2.2.length := by
  unfold sf_ at h
  obtain ⟨hd, p1, h1, h⟩ := sbd_inr h
  obtain ⟨il, p2, h2, h⟩ := sbd_inr h
  obtain ⟨hn, p3, h3, h⟩ := sbd_inr h
  obtain ⟨hl, p4, h4, h⟩ := sbd_inr h
  cases h
  intro k hk
  have hk : k < hl.length := hk
  unfold cfu_
  obtain ⟨x, hx, e⟩ := (hws_a3 hl (va_up (iws_ (hdu_ F hd) 0 il).1 5 hn, (iws_ (hdu_ F hd) 0 il).2) 0).2 k (by omega) (by omega)
  rw [e]
  exact sls_all (P := fun d : hd5_ => d.2.2.2.1 = 0 ∨ d.2.2.2.1 = 1) (fun p d p' hs => sh_a3 hs) _ _ _ _ h4 x hx
theorem a3_prog {B : Nat → Int32} {N np : Nat} (hnp : np ≤ 12) : ∀ (r i p p' : Nat) (l : List fd_) (FF : Nat → fc_), i + r ≤ 12 → sfs_ B N (nI np) r i p = .inr (l, p') → (∀ g, g < i → ∀ hn, hn ≤ 6 → (FF g).1 5 = nI hn → anyb_ (FF g) hn) → ∀ g, g < i + r → ∀ hn, hn ≤ 6 → (cfs_ FF i l g).1 5 = nI hn → anyb_ (cfs_ FF i l g) hn
  | 0, i, p, p', l, FF, _, h, hI, g, hg => by cases h; exact hI g (by omega)
  | r + 1, i, p, p', l, FF, hi, h, hI, g, hg => by
    rw [sfs_] at h
    obtain ⟨d, p1, h0, h⟩ := sbd_inr h
    obtain ⟨l', p2, h1, h⟩ := sbd_inr h
    cases h
    rw [cfs_]
    refine a3_prog hnp r (i + 1) p1 _ l' _ (by omega) h1 (fun g hg hn h6 e => ?_) g (by omega)
    by_cases c : g = i
    · subst c
      rw [va_up_self] at e ⊢
      obtain ⟨n', hn', e1, e2, e3⟩ := sf_ok hnp h0 (FF g)
      have := e3.2.2.2.1.symm.trans e
      have h6' := e3.2.2.2.2.1
      have : hn' = hn := (nI_eq (by omega) (by omega)).mp this
      rw [← this, ← e2]
      exact sf_a3 h0 (FF g)
    · rw [va_up_ne _ _ c] at e ⊢
      exact hI g (by omega) hn h6 e
