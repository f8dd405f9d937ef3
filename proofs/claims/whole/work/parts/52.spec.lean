/-! WHAT BOTH SIDES DO: the specification, in the reference's words. q: how many are on the stack, and which are rows. -/
theorem va_up_at {α : Type} (f : Nat → α) (k : Nat) (v : α) (j : Nat) : va_up f k v j = if j = k then v else f j := (Eq.refl _).trans (Eq.refl _)
abbrev sq_ : Type := Int32 × Int32
/-- the type of the top: 1 if it is a row, else 0 -/
def tp_ (q : sq_) : Int32 := (q.2 >>> ((q.1 - 1) &&& 31)) &&& 1
/-- without the top -/
def dr_ (q : sq_) : sq_ := (q.1 - 1, q.2 &&& (((1 : Int32) <<< ((q.1 - 1) &&& 31)) - 1))
/-- one is taken: of type t (2: of any) -/
def tk_ (t : Int32) (q : sq_) : Option sq_ := if q.1 = 0 then none else if t = 2 ∨ t = tp_ q then some (dr_ q) else none
/-- one is put: of type t -/
def pt_ (t : Int32) (q : sq_) : sq_ := (q.1 + 1, q.2 ||| (t <<< (q.1 &&& 31)))
def tki_ : Nat → sq_ → Option sq_
  | 0, q => some q
  | n + 1, q => (tk_ 0 q).bind (tki_ n)
def pti_ : Nat → sq_ → sq_
  | 0, q => q
  | n + 1, q => pti_ n (pt_ 0 q)
/-- the parameters, the last one first: bits of their types -/
def tkc_ (bits : Int32) : Nat → sq_ → Option sq_
  | 0, q => some q
  | n + 1, q => (tk_ ((bits >>> (nI n &&& 31)) &&& 1) q).bind (tkc_ bits n)
/-- an instruction o, v, in a function with row bits rb and result rs; the called one has cp parameters of the types cb and the result cr -/
def mv_ (o v rb rs cp cb cr : Int32) (q : sq_) : Option sq_ :=
  if o = 0 then some (pt_ 0 q)
  else if o = 1 then tk_ 2 q
  else if o = 2 then (if q.1 ≤ 0 then none else some (pt_ (tp_ q) q))
  else if o = 3 then (if q.1 ≤ 1 then none else some (pt_ (tp_ (dr_ q)) (pt_ (tp_ q) (dr_ (dr_ q)))))
  else if o = 4 then some (pt_ ((rb >>> (v &&& 31)) &&& 1) q)
  else if o = 5 then tk_ ((rb >>> (v &&& 31)) &&& 1) q
  else if o ≤ 17 then (tki_ 2 q).map (pt_ 0)
  else if o = 19 ∨ o = 20 ∨ o = 28 then tk_ 0 q
  else if o = 21 then (tk_ 0 q).map (pt_ 1)
  else if o = 22 then ((tk_ 0 q).bind (tk_ 1)).map (pt_ 0)
  else if o = 23 then (tki_ 2 q).bind (tk_ 1)
  else if o = 24 then (tk_ 1 q).map (pt_ 0)
  else if o = 25 then (tkc_ cb cp.toNatClampNeg q).map (fun q => if cr ≤ 0 then q else pt_ (cr - 1) q)
  else if o = 26 then (tki_ (v - v / 4 * 4).toNatClampNeg q).map (pt_ 0)
  else if o = 27 then (if rs ≤ 0 then some q else tk_ (rs - 1) q)
  else if o = 29 then (tki_ (v - v / 4 * 4).toNatClampNeg q).map (pti_ (v - v / 4 * 4).toNatClampNeg)
  else some q
/-- what is known of a function's instructions: heights, kinds, who waits -/
abbrev s3_ : Type := (Nat → Int32) × (Nat → Int32) × (Nat → Int32)
/-- i is come to with q: a fault and its place, or what is known then -/
def cm_ (f i : Nat) (q : sq_) (s : s3_) : (Int32 × Int32) ⊕ s3_ :=
  if s.1 i < 0 then .inr (va_up s.1 i q.1, va_up s.2.1 i q.2, va_up s.2.2 i 1)
  else if s.1 i = q.1 ∧ s.2.1 i = q.2 then .inr s
  else .inl (7, nI (512 * f + i))
def bi_ {α : Type} (x : (Int32 × Int32) ⊕ α) (k : α → (Int32 × Int32) ⊕ α) : (Int32 × Int32) ⊕ α := match x with
  | .inl e => .inl e
  | .inr a => k a
/-- the handlers from the j-th on -/
def hd_ (f i : Nat) (hn : Nat) (hf ht hg : Nat → Int32) : Nat → s3_ → (Int32 × Int32) ⊕ s3_
  | 0, s => .inr s
  | j + 1, s => bi_ (if hf (hn - (j + 1)) ≤ nI i ∧ nI i < ht (hn - (j + 1)) then cm_ f (hg (hn - (j + 1))).toNatClampNeg (1, 0) s else .inr s) (hd_ f i hn hf ht hg j)
/-- a function, as it is verified: its number, size, instructions, handlers; row bits and result of all functions, parameters -/
abbrev fn_ : Type := Nat × Nat × (Nat → Int32) × (Nat → Int32) × Nat × (Nat → Int32) × (Nat → Int32) × (Nat → Int32) × (Nat → Int32) × (Nat → Int32) × (Nat → Int32)
/-- instruction i is looked at -/
def lk_ (f n : Nat) (op vv : Nat → Int32) (hn : Nat) (hf ht hg : Nat → Int32) (rb rs cp : Nat → Int32) (i : Nat) (s : s3_) : (Int32 × Int32) ⊕ s3_ :=
  match mv_ (op i) (vv i) (rb f) (rs f) (cp (vv i).toNatClampNeg) (rb (vv i).toNatClampNeg) (rs (vv i).toNatClampNeg) (s.1 i, s.2.1 i) with
  | none => .inl (5, nI (512 * f + i))
  | some q =>
    if 16 < q.1 then .inl (6, nI (512 * f + i))
    else bi_ (hd_ f i hn hf ht hg hn s) fun s =>
      bi_ (if 17 < op i ∧ op i < 21 then cm_ f (vv i).toNatClampNeg q s else .inr s) fun s =>
        if op i = 18 ∨ op i = 27 ∨ op i = 28 then .inr s
        else if i + 1 = n then .inl (8, nI (512 * f + i))
        else cm_ f (i + 1) q s
