/-! WHAT IS READ: class and reference hold the same; and it can be verified -/
/-- a function can be verified: in a program of np functions -/
def iok_ (np n : Nat) (o v : Int32) : Prop := (∃ j, j ≤ 29 ∧ o = nI j) ∧ (o = 18 ∨ o = 19 ∨ o = 20 → ∃ t, t < n ∧ v = nI t) ∧ (o = 25 → ∃ t, t < np ∧ v = nI t) ∧ (o = 26 ∨ o = 29 → ∃ t, t < 1000 ∧ v = nI t)
def fok_ (np : Nat) (F : fc_) (n hn : Nat) : Prop := F.1 4 = nI n ∧ 1 ≤ n ∧ n ≤ 400 ∧ F.1 5 = nI hn ∧ hn ≤ 6 ∧ (∃ c, c ≤ 4 ∧ F.1 0 = nI c) ∧ (∃ lo, lo ≤ 12 ∧ F.1 1 = nI lo) ∧ (F.1 3 = 0 ∨ F.1 3 = 1 ∨ F.1 3 = 2) ∧ (∀ k, k < hn → ∃ t, t < n ∧ F.2.2 k 2 = nI t) ∧ ∀ i, i < n → iok_ np n (F.2.1 0 i) (F.2.1 1 i)
theorem okf_of {np : Nat} {FF : Nat → fc_} {N H : Nat → Nat} (h : ∀ g, g < np → fok_ np (FF g) (N g) (H g)) {f : Nat} (hf : f < np) : okf_ FF np f (N f) (H f) := by
  obtain ⟨a1, a2, a3, a4, a5, a6, a7, a8, a9, a10⟩ := h f hf
  refine ⟨a1, a2, a3, a4, a5, a8, a9, fun i hi => ?_⟩
  obtain ⟨b1, b2, b3, b4⟩ := a10 i hi
  refine ⟨b1, b2, fun z => ?_, b4⟩
  obtain ⟨t, t1, t2⟩ := b3 z
  obtain ⟨-, -, -, -, -, ⟨c, c1, c2⟩, -, c3, -, -⟩ := h t t1
  exact ⟨t, c, t1, t2, by omega, c2, c3⟩
theorem sls_len {δ : Type} {S : rs_ δ} : ∀ (r p p' : Nat) (l : List δ), sls_ S r p = .inr (l, p') → l.length = r
  | 0, p, p', l, h => by cases h; rfl
  | r + 1, p, p', l, h => by
    rw [sls_] at h
    obtain ⟨d, p1, -, h⟩ := sbd_inr h
    obtain ⟨l', p2, h1, h⟩ := sbd_inr h
    cases h
    rw [List.length_cons, sls_len r p1 _ l' h1]
theorem sls_all {δ : Type} {S : rs_ δ} {P : δ → Prop} (hP : ∀ p d p', S p = .inr (d, p') → P d) : ∀ (r p p' : Nat) (l : List δ), sls_ S r p = .inr (l, p') → ∀ d, d ∈ l → P d
  | 0, p, p', l, h => by cases h; intro d hd; cases hd
  | r + 1, p, p', l, h => by
    rw [sls_] at h
    obtain ⟨d, p1, h0, h⟩ := sbd_inr h
    obtain ⟨l', p2, h1, h⟩ := sbd_inr h
    cases h
    intro x hx
    rcases List.mem_cons.mp hx with z | z
    · subst z; exact hP p x p1 h0
    · exact sls_all hP r p1 _ l' h1 x z
theorem in_nI {v lo hi : Int32} (h : ¬ v < lo ∧ ¬ hi < v) (hl : ¬ lo < 0) {n : Nat} (hh : hi.toInt = n) : ∃ j, j ≤ n ∧ v = nI j := nI_of2 hh (fun z => h.1 (Int32.lt_of_lt_of_le z (Int32.not_lt.mp hl))) (Int32.not_lt.mp h.2)
theorem in_pred {v : Int32} {n : Nat} (h : ¬ v < 0 ∧ ¬ nI n - 1 < v) (hn : n ≤ 5000) : ∃ t, t < n ∧ v = nI t := by
  rcases Nat.eq_zero_or_pos n with z | z
  · subst z
    exfalso
    have h2 := Int32.not_lt.mp h.2
    exact h.1 (Int32.lt_of_le_of_lt h2 (by decide))
  · have e : nI n - 1 = nI (n - 1) := pk_sub (b := 1) (by omega)
    rw [e] at h
    obtain ⟨j, hj, hv⟩ := nI_of2 (n := n - 1) (nI_toInt (by omega)) h.1 (Int32.not_lt.mp h.2)
    exact ⟨j, by omega, hv⟩
theorem si_ok {B : Nat → Int32} {N p p' : Nat} {lo : Int32} {n np : Nat} (hn : n ≤ 400) (hnp : np ≤ 12) {d : Int32 × Int32} (h : si_ B N lo (nI n) (nI np) p = .inr (d, p')) : iok_ np n d.1 d.2 := by
  unfold si_ at h
  obtain ⟨o, p1, h1, h⟩ := sbd_inr h
  obtain ⟨v, p2, h2, h⟩ := sbd_inr h
  cases h
  have io := nn_in h1
  have iv := nn_in h2
  show iok_ np n o v
  refine ⟨in_nI io (by decide) (n := 29) (by decide), fun z => ?_, fun z => ?_, fun z => ?_⟩
  · have e : mb_ o lo (nI n) (nI np) = nI n - 1 ∧ lb_ o = 0 := by
      rcases z with rfl | rfl | rfl <;> exact ⟨rfl, rfl⟩
    rw [e.1, e.2] at iv
    exact in_pred iv (by omega)
  · subst z
    exact in_pred (n := np) iv (by omega)
  · have e : mb_ o lo (nI n) (nI np) = 15 ∧ lb_ o = 0 := by
      rcases z with rfl | rfl <;> exact ⟨rfl, rfl⟩
    rw [e.1, e.2] at iv
    obtain ⟨j, hj, e⟩ := in_nI iv (by decide) (n := 15) (by decide)
    exact ⟨j, by omega, e⟩
theorem sh_ok {B : Nat → Int32} {N p p' n : Nat} (hn : n ≤ 400) {d : hd5_} (h : sh_ B N (nI n) p = .inr (d, p')) : ∃ t, t < n ∧ d.2.2.1 = nI t := by
  unfold sh_ at h
  obtain ⟨a, p1, h1, h⟩ := sbd_inr h
  obtain ⟨t, p2, h2, h⟩ := sbd_inr h
  obtain ⟨g, p3, h3, h⟩ := sbd_inr h
  obtain ⟨k, p4, h4, h⟩ := sbd_inr h
  obtain ⟨c, p5, h5, h⟩ := sbd_inr h
  cases h
  exact in_pred (nn_in h3) (by omega)
theorem iws_at : ∀ (l : List (Int32 × Int32)) (F : fc_) (i : Nat), (∀ j, j < i → (iws_ F i l).2.1 0 j = F.2.1 0 j ∧ (iws_ F i l).2.1 1 j = F.2.1 1 j) ∧ ∀ j, i ≤ j → j < i + l.length → ∃ d, d ∈ l ∧ (iws_ F i l).2.1 0 j = d.1 ∧ (iws_ F i l).2.1 1 j = d.2
  | [], F, i => ⟨fun j _ => ⟨rfl, rfl⟩, fun j h1 h2 => by simp at h2; omega⟩
  | d :: l, F, i => by
    obtain ⟨k1, k2⟩ := iws_at l (iw_ F i d) (i + 1)
    rw [iws_]
    have w0 : ∀ j, (iw_ F i d).2.1 0 j = va_up (F.2.1 0) i d.1 j := fun j => by simp [iw_, va_up]
    have w1 : ∀ j, (iw_ F i d).2.1 1 j = va_up (F.2.1 1) i d.2 j := fun j => by simp [iw_, va_up]
    refine ⟨fun j hj => ?_, fun j h1 h2 => ?_⟩
    · rw [(k1 j (by omega)).1, (k1 j (by omega)).2, w0, w1, va_up_ne _ _ (by omega), va_up_ne _ _ (by omega)]
      exact ⟨rfl, rfl⟩
    · by_cases c : j = i
      · subst c
        rw [(k1 j (by omega)).1, (k1 j (by omega)).2, w0, w1, va_up_self, va_up_self]
        exact ⟨d, List.mem_cons_self, rfl, rfl⟩
      · obtain ⟨x, hx, e⟩ := k2 j (by omega) (by rw [List.length_cons] at h2; omega)
        exact ⟨x, List.mem_cons_of_mem _ hx, e⟩
theorem iws_2 : ∀ (l : List (Int32 × Int32)) (F : fc_) (i : Nat), (iws_ F i l).2.2 = F.2.2
  | [], _, _ => rfl
  | d :: l, F, i => by rw [iws_, iws_2 l]; rfl
theorem hws_1 : ∀ (l : List hd5_) (F : fc_) (k : Nat), (hws_ F k l).1 = F.1 ∧ (hws_ F k l).2.1 = F.2.1
  | [], _, _ => ⟨rfl, rfl⟩
  | d :: l, F, k => by
    rw [hws_]
    obtain ⟨a, b⟩ := hws_1 l (hw_ F k d) (k + 1)
    exact ⟨a, b⟩
theorem h5w_at (s : Nat → Int32) (d : hd5_) : h5w_ s d 0 = d.1 ∧ h5w_ s d 1 = d.2.1 ∧ h5w_ s d 2 = d.2.2.1 ∧ h5w_ s d 3 = d.2.2.2.1 ∧ h5w_ s d 4 = d.2.2.2.2 := by
  simp [h5w_, va_up]
theorem hws_at : ∀ (l : List hd5_) (F : fc_) (k : Nat), (∀ j, j < k → (hws_ F k l).2.2 j = F.2.2 j) ∧ ∀ j, k ≤ j → j < k + l.length → ∃ d, d ∈ l ∧ (hws_ F k l).2.2 j 2 = d.2.2.1
  | [], F, i => ⟨fun j _ => rfl, fun j h1 h2 => by simp at h2; omega⟩
  | d :: l, F, k => by
    obtain ⟨k1, k2⟩ := hws_at l (hw_ F k d) (k + 1)
    rw [hws_]
    have w : ∀ j, (hw_ F k d).2.2 j = va_up F.2.2 k (h5w_ (F.2.2 k) d) j := fun j => rfl
    refine ⟨fun j hj => ?_, fun j h1 h2 => ?_⟩
    · rw [k1 j (by omega), w, va_up_ne _ _ (by omega)]
    · by_cases c : j = k
      · subst c
        rw [k1 j (by omega), w, va_up_self]
        exact ⟨d, List.mem_cons_self, (h5w_at _ d).2.2.1⟩
      · obtain ⟨x, hx, e⟩ := k2 j (by omega) (by rw [List.length_cons] at h2; omega)
        exact ⟨x, List.mem_cons_of_mem _ hx, e⟩
theorem cfu_1 (F : fc_) (d : fd_) : (cfu_ F d).1 = va_up (hdu_ F d.1).1 5 d.2.2.1 := by
  unfold cfu_
  rw [(hws_1 _ _ _).1]
  show va_up (iws_ (hdu_ F d.1) 0 d.2.1).1 5 _ = _
  rw [iws_1]
theorem cfu_at (F : fc_) (d : fd_) : (cfu_ F d).1 0 = d.1.1 ∧ (cfu_ F d).1 1 = d.1.2.1 ∧ (cfu_ F d).1 2 = d.1.2.2.1 ∧ (cfu_ F d).1 3 = d.1.2.2.2.1 ∧ (cfu_ F d).1 4 = d.1.2.2.2.2 ∧ (cfu_ F d).1 5 = d.2.2.1 := by
  rw [cfu_1]
  simp [hdu_, va_up]
/-- what is read of a function: lengths and ranges -/
theorem sf_ok {B : Nat → Int32} {N f p p' np : Nat} (hnp : np ≤ 12) {d : fd_} (h : sf_ B N f (nI np) p = .inr (d, p')) (F : fc_) : ∃ n hn, d.2.1.length = n ∧ d.2.2.2.length = hn ∧ fok_ np (cfu_ F d) n hn := by
  unfold sf_ at h
  obtain ⟨hd, p1, h1, h⟩ := sbd_inr h
  obtain ⟨il, p2, h2, h⟩ := sbd_inr h
  obtain ⟨hn, p3, h3, h⟩ := sbd_inr h
  obtain ⟨hl, p4, h4, h⟩ := sbd_inr h
  cases h
  obtain ⟨n, n1, n4, en⟩ := shd_sz h1
  obtain ⟨k, k6, rfl⟩ := in_nI (nn_in h3) (by decide) (n := 6) (by decide)
  have eil : il.length = n := by rw [sls_len _ _ _ _ h2, en, nI_clamp (by omega)]
  have ehl : hl.length = k := by rw [sls_len _ _ _ _ h4, nI_clamp (by omega)]
  obtain ⟨c0, c1, c2, c3, c4, c5⟩ := cfu_at F (hd, il, nI k, hl)
  unfold shd_ at h1
  obtain ⟨pa, q1, g1, h1⟩ := sbd_inr h1
  obtain ⟨lo, q2, g2, h1⟩ := sbd_inr h1
  obtain ⟨rb, q3, g3, h1⟩ := sbd_inr h1
  obtain ⟨rs, q4, g4, h1⟩ := sbd_inr h1
  obtain ⟨sz, q5, g5, h1⟩ := sbd_inr h1
  cases h1
  have en : sz = nI n := en
  subst en
  have i1 := nn_in g1
  have i2 := nn_in g2
  have i4 := nn_in g4
  refine ⟨n, k, eil, ehl, c4, n1, n4, c5, k6, ?_, ?_, ?_, fun j hj => ?_, fun i hi => ?_⟩
  · rw [c0]
    by_cases z : f = 0
    · rw [if_pos z] at i1
      obtain ⟨j, hj, e⟩ := in_nI i1 (by decide) (n := 0) (by decide)
      exact ⟨j, by omega, e⟩
    · rw [if_neg z] at i1
      exact in_nI i1 (by decide) (n := 4) (by decide)
  · rw [c1]
    exact in_nI i2 i1.1 (n := 12) (by decide)
  · rw [c3]
    by_cases z : f = 0
    · rw [if_pos z] at i4
      obtain ⟨j, hj, e⟩ := in_nI i4 (by decide) (n := 1) (by decide)
      show rs = 0 ∨ rs = 1 ∨ rs = 2
      rw [e]
      have : j = 0 ∨ j = 1 := by omega
      rcases this with rfl | rfl
      · exact Or.inl rfl
      · exact Or.inr (Or.inl rfl)
    · rw [if_neg z] at i4
      obtain ⟨j, hj, e⟩ := in_nI i4 (by decide) (n := 2) (by decide)
      show rs = 0 ∨ rs = 1 ∨ rs = 2
      rw [e]
      have : j = 0 ∨ j = 1 ∨ j = 2 := by omega
      rcases this with rfl | rfl | rfl
      · exact Or.inl rfl
      · exact Or.inr (Or.inl rfl)
      · exact Or.inr (Or.inr rfl)
  · unfold cfu_
    obtain ⟨x, hx, e⟩ := (hws_at hl (va_up (iws_ (hdu_ F (pa, lo, rb, rs, nI n)) 0 il).1 5 (nI k), (iws_ (hdu_ F (pa, lo, rb, rs, nI n)) 0 il).2) 0).2 j (by omega) (by omega)
    have := sls_all (P := fun d : hd5_ => ∃ t, t < n ∧ d.2.2.1 = nI t) (fun p d p' hs => sh_ok n4 hs) _ _ _ _ h4 x hx
    rw [e]
    exact this
  · unfold cfu_
    rw [(hws_1 _ _ _).2]
    obtain ⟨x, hx, e0, e1⟩ := (iws_at il (hdu_ F (pa, lo, rb, rs, nI n)) 0).2 i (by omega) (by omega)
    have := sls_all (P := fun d : Int32 × Int32 => iok_ np n d.1 d.2) (fun p d p' hs => si_ok n4 hnp hs) _ _ _ _ h2 x hx
    show iok_ np n ((iws_ (hdu_ F (pa, lo, rb, rs, nI n)) 0 il).2.1 0 i) ((iws_ (hdu_ F (pa, lo, rb, rs, nI n)) 0 il).2.1 1 i)
    rw [e0, e1]
    exact this
