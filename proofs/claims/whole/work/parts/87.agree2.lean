/-- class and reference hold the same function: F, and function f of bank b; without what is verified of it -/
def agf_ (F : fc_) (ar : Nat → Nat → Int32) (b f n hn : Nat) : Prop := (∀ j, j < 6 → F.1 j = ar (13 + j) (12 * b + f)) ∧ (∀ i, i < n → F.2.1 0 i = ar 19 (4800 * b + 400 * f + i) ∧ F.2.1 1 i = ar 20 (4800 * b + 400 * f + i)) ∧ ∀ k, k < hn → ∀ j, j < 5 → F.2.2 k j = ar (21 + j) (72 * b + 6 * f + k)
theorem u2_at (ar : Nat → Nat → Int32) (k j : Nat) (x : Int32) (k' j' : Nat) : u2_ ar k j x k' j' = if k' = k ∧ j' = j then x else ar k' j' := by
  unfold u2_
  by_cases c : k' = k
  · subst c
    rw [va_up_self]
    by_cases d : j' = j
    · subst d; rw [va_up_self, if_pos ⟨rfl, rfl⟩]
    · rw [va_up_ne _ _ d, if_neg (fun z => d z.2)]
  · rw [va_up_ne _ _ c, if_neg (fun z => c z.1)]
theorem mws_out (f : Nat) : ∀ (l : List (Int32 × Int32)) (ar : Nat → Nat → Int32) (i k j : Nat), (k ≠ 19 ∧ k ≠ 20) ∨ j < 4800 + 400 * f + i ∨ 4800 + 400 * f + i + l.length ≤ j → mws_ f ar i l k j = ar k j
  | [], _, _, _, _, _ => rfl
  | d :: l, ar, i, k, j, h => by
    rw [mws_, mws_out f l _ _ _ _ (by rw [List.length_cons] at h; omega), mw_, u2_at, if_neg (by rw [List.length_cons] at h; omega), u2_at, if_neg (by rw [List.length_cons] at h; omega)]
theorem ag_ins (f : Nat) : ∀ (l : List (Int32 × Int32)) (F : fc_) (ar : Nat → Nat → Int32) (i : Nat), (∀ j, j < i → F.2.1 0 j = ar 19 (4800 + 400 * f + j) ∧ F.2.1 1 j = ar 20 (4800 + 400 * f + j)) → ∀ j, j < i + l.length → (iws_ F i l).2.1 0 j = mws_ f ar i l 19 (4800 + 400 * f + j) ∧ (iws_ F i l).2.1 1 j = mws_ f ar i l 20 (4800 + 400 * f + j)
  | [], F, ar, i, h, j, hj => h j (by simpa using hj)
  | d :: l, F, ar, i, h, j, hj => by
    rw [iws_, mws_]
    refine ag_ins f l _ _ (i + 1) (fun j hj => ?_) j (by rw [List.length_cons] at hj; omega)
    have w0 : (iw_ F i d).2.1 0 j = va_up (F.2.1 0) i d.1 j := by simp [iw_, va_up]
    have w1 : (iw_ F i d).2.1 1 j = va_up (F.2.1 1) i d.2 j := by simp [iw_, va_up]
    rw [w0, w1, mw_, u2_at, u2_at, u2_at, u2_at]
    by_cases c : j = i
    · subst c
      rw [va_up_self, va_up_self, if_neg (by omega), if_pos ⟨rfl, rfl⟩, if_pos ⟨rfl, rfl⟩]
      exact ⟨rfl, rfl⟩
    · rw [va_up_ne _ _ c, va_up_ne _ _ c, if_neg (by omega), if_neg (by omega), if_neg (by omega), if_neg (by omega)]
      exact h j (by omega)
theorem mh_at (ar : Nat → Nat → Int32) (f k : Nat) (d : hd5_) (k' j' : Nat) : mh_ ar f k d k' j' = if j' = 72 + 6 * f + k ∧ k' = 25 then d.2.2.2.2 else if j' = 72 + 6 * f + k ∧ k' = 24 then d.2.2.2.1 else if j' = 72 + 6 * f + k ∧ k' = 23 then d.2.2.1 else if j' = 72 + 6 * f + k ∧ k' = 22 then d.2.1 else if j' = 72 + 6 * f + k ∧ k' = 21 then d.1 else ar k' j' := by
  unfold mh_
  simp only [u2_at, and_comm]
theorem mhs_out (f : Nat) : ∀ (l : List hd5_) (ar : Nat → Nat → Int32) (i k j : Nat), (k < 21 ∨ 25 < k) ∨ j < 72 + 6 * f + i ∨ 72 + 6 * f + i + l.length ≤ j → mhs_ f ar i l k j = ar k j
  | [], _, _, _, _, _ => rfl
  | d :: l, ar, i, k, j, h => by
    rw [List.length_cons] at h
    rw [mhs_, mhs_out f l _ _ _ _ (by omega), mh_at, if_neg (by omega), if_neg (by omega), if_neg (by omega), if_neg (by omega), if_neg (by omega)]
theorem ag_hdl (f : Nat) : ∀ (l : List hd5_) (F : fc_) (ar : Nat → Nat → Int32) (i : Nat), (∀ k, k < i → ∀ j, j < 5 → F.2.2 k j = ar (21 + j) (72 + 6 * f + k)) → ∀ k, k < i + l.length → ∀ j, j < 5 → (hws_ F i l).2.2 k j = mhs_ f ar i l (21 + j) (72 + 6 * f + k)
  | [], F, ar, i, h, k, hk, j, hj => h k (by simpa using hk) j hj
  | d :: l, F, ar, i, h, k, hk, j, hj => by
    rw [hws_, mhs_]
    refine ag_hdl f l _ _ (i + 1) (fun k hk j hj => ?_) k (by rw [List.length_cons] at hk; omega) j hj
    rw [mh_at]
    show va_up F.2.2 i (h5w_ (F.2.2 i) d) k j = _
    by_cases c : k = i
    · subst c
      rw [va_up_self]
      obtain ⟨a0, a1, a2, a3, a4⟩ := h5w_at (F.2.2 k) d
      have : j = 0 ∨ j = 1 ∨ j = 2 ∨ j = 3 ∨ j = 4 := by omega
      rcases this with rfl | rfl | rfl | rfl | rfl
      · rw [a0, if_neg (by omega), if_neg (by omega), if_neg (by omega), if_neg (by omega), if_pos ⟨rfl, rfl⟩]
      · rw [a1, if_neg (by omega), if_neg (by omega), if_neg (by omega), if_pos ⟨rfl, rfl⟩]
      · rw [a2, if_neg (by omega), if_neg (by omega), if_pos ⟨rfl, rfl⟩]
      · rw [a3, if_neg (by omega), if_pos ⟨rfl, rfl⟩]
      · rw [a4, if_pos ⟨rfl, rfl⟩]
    · rw [va_up_ne _ _ c, if_neg (by omega), if_neg (by omega), if_neg (by omega), if_neg (by omega), if_neg (by omega)]
      exact h k (by omega) j hj
theorem mhd_at (ar : Nat → Nat → Int32) (f : Nat) (d : hd5_) (k' j' : Nat) : mhd_ ar f d k' j' = if j' = 12 + f ∧ k' = 17 then d.2.2.2.2 else if j' = 12 + f ∧ k' = 16 then d.2.2.2.1 else if j' = 12 + f ∧ k' = 15 then d.2.2.1 else if j' = 12 + f ∧ k' = 14 then d.2.1 else if j' = 12 + f ∧ k' = 13 then d.1 else ar k' j' := by
  unfold mhd_
  simp only [u2_at, and_comm]
/-- where the reference writes a function -/
theorem mfu_out (ar : Nat → Nat → Int32) (f : Nat) (d : fd_) (hl : d.2.1.length ≤ 400) (hh : d.2.2.2.length ≤ 6) (k j : Nat) (h : (k < 13 ∨ 25 < k) ∨ (k ≤ 18 ∧ j ≠ 12 + f) ∨ (19 ≤ k ∧ k ≤ 20 ∧ (j < 4800 + 400 * f ∨ 4800 + 400 * f + 400 ≤ j)) ∨ (21 ≤ k ∧ (j < 72 + 6 * f ∨ 72 + 6 * f + 6 ≤ j))) : mfu_ ar f d k j = ar k j := by
  unfold mfu_
  rw [mhs_out f _ _ _ _ _ (by omega), u2_at, if_neg (by omega), mws_out f _ _ _ _ _ (by omega), mhd_at, if_neg (by omega), if_neg (by omega), if_neg (by omega), if_neg (by omega), if_neg (by omega)]
theorem ag_fun (F : fc_) (ar : Nat → Nat → Int32) (f : Nat) (d : fd_) : agf_ (cfu_ F d) (mfu_ ar f d) 1 f d.2.1.length d.2.2.2.length := by
  obtain ⟨c0, c1, c2, c3, c4, c5⟩ := cfu_at F d
  have low : ∀ k, k ≤ 18 → mfu_ ar f d k (12 + f) = u2_ (mhd_ ar f d.1) 18 (12 + f) d.2.2.1 k (12 + f) := by
    intro k hk
    unfold mfu_
    rw [mhs_out f _ _ _ _ _ (by omega), u2_at, u2_at]
    split
    · rfl
    · rw [mws_out f _ _ _ _ _ (by omega)]
  refine ⟨fun j hj => ?_, fun i hi => ?_, fun k hk j hj => ?_⟩
  · rw [Nat.mul_one, low _ (by omega), u2_at, mhd_at]
    have : j = 0 ∨ j = 1 ∨ j = 2 ∨ j = 3 ∨ j = 4 ∨ j = 5 := by omega
    rcases this with rfl | rfl | rfl | rfl | rfl | rfl
    · rw [c0, if_neg (by omega), if_neg (by omega), if_neg (by omega), if_neg (by omega), if_neg (by omega), if_pos ⟨rfl, rfl⟩]
    · rw [c1, if_neg (by omega), if_neg (by omega), if_neg (by omega), if_neg (by omega), if_pos ⟨rfl, rfl⟩]
    · rw [c2, if_neg (by omega), if_neg (by omega), if_neg (by omega), if_pos ⟨rfl, rfl⟩]
    · rw [c3, if_neg (by omega), if_neg (by omega), if_pos ⟨rfl, rfl⟩]
    · rw [c4, if_neg (by omega), if_pos ⟨rfl, rfl⟩]
    · rw [c5, if_pos ⟨rfl, rfl⟩]
  · rw [Nat.mul_one]
    unfold cfu_ mfu_
    rw [(hws_1 _ _ _).2, mhs_out f _ _ _ _ _ (by omega), mhs_out f _ _ _ _ _ (by omega), u2_at, if_neg (by omega), u2_at, if_neg (by omega)]
    exact ag_ins f d.2.1 (hdu_ F d.1) (mhd_ ar f d.1) 0 (fun j hj => by omega) i (by omega)
  · rw [Nat.mul_one]
    unfold cfu_ mfu_
    exact ag_hdl f d.2.2.2 _ _ 0 (fun k hk => by omega) k (by omega) j hj
theorem ag_mfu {F : fc_} {ar : Nat → Nat → Int32} {f n hn : Nat} (hn4 : n ≤ 400) (hh6 : hn ≤ 6) (h : agf_ F ar 1 f n hn) {f' : Nat} (hne : f ≠ f') (d : fd_) (hl : d.2.1.length ≤ 400) (hh : d.2.2.2.length ≤ 6) : agf_ F (mfu_ ar f' d) 1 f n hn := by
  refine ⟨fun j hj => ?_, fun i hi => ?_, fun k hk j hj => ?_⟩
  · rw [mfu_out ar f' d hl hh _ _ (by omega)]; exact h.1 j hj
  · rw [mfu_out ar f' d hl hh _ _ (by omega), mfu_out ar f' d hl hh _ _ (by omega)]; exact h.2.1 i hi
  · rw [mfu_out ar f' d hl hh _ _ (by omega)]; exact h.2.2 k hk j hj
theorem cfs_lo : ∀ (l : List fd_) (FF : Nat → fc_) (i j : Nat), j < i → cfs_ FF i l j = FF j
  | [], _, _, _, _ => rfl
  | d :: l, FF, i, j, h => by rw [cfs_, cfs_lo l _ _ _ (by omega), va_up_ne _ _ (by omega)]
/-- the whole program that is read -/
theorem ag_prog {B : Nat → Int32} {N np : Nat} (hnp : np ≤ 12) : ∀ (r i p p' : Nat) (l : List fd_) (FF : Nat → fc_) (ar : Nat → Nat → Int32), i + r ≤ 12 → sfs_ B N (nI np) r i p = .inr (l, p') → (∀ g, g < i → ∃ n hn, fok_ np (FF g) n hn ∧ agf_ (FF g) ar 1 g n hn) → ∀ g, g < i + r → ∃ n hn, fok_ np (cfs_ FF i l g) n hn ∧ agf_ (cfs_ FF i l g) (mfus_ ar i l) 1 g n hn
  | 0, i, p, p', l, FF, ar, _, h, hI, g, hg => by cases h; exact hI g (by omega)
  | r + 1, i, p, p', l, FF, ar, hi, h, hI, g, hg => by
    rw [sfs_] at h
    obtain ⟨d, p1, h0, h⟩ := sbd_inr h
    obtain ⟨l', p2, h1, h⟩ := sbd_inr h
    cases h
    rw [cfs_, mfus_]
    refine ag_prog hnp r (i + 1) p1 _ l' _ _ (by omega) h1 (fun g hg => ?_) g (by omega)
    obtain ⟨n, hn, e1, e2, e3⟩ := sf_ok hnp h0 (FF i)
    by_cases c : g = i
    · subst c
      rw [va_up_self]
      refine ⟨n, hn, e3, ?_⟩
      have := ag_fun (FF g) ar g d
      rw [e1, e2] at this
      exact this
    · rw [va_up_ne _ _ c]
      obtain ⟨n', hn', f1, f2⟩ := hI g (by omega)
      exact ⟨n', hn', f1, ag_mfu f1.2.2.1 f1.2.2.2.2.1 f2 c d (by have := e3.2.2.1; omega) (by have := e3.2.2.2.2.1; omega)⟩
theorem mfus_k {j : Nat} (hj : j < 13) : ∀ (l : List fd_) (ar : Nat → Nat → Int32) (i : Nat), mfus_ ar i l j = ar j
  | [], _, _ => rfl
  | d :: l, ar, i => by rw [mfus_, mfus_k hj l, mfu_k _ _ _ hj]
