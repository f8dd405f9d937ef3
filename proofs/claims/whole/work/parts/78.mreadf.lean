/-! THE REFERENCE reads handlers, and a function -/
section MRH
variable (h : hc_H) (m : Nat) {sc : Nat → Int32} (B : Nat → Int32) {N : Nat}
def q5_ (m f k : Nat) (L : hM Unit) (z : Int32) : hM Unit := hm_bind (hm_ist 25 (some (m + 16)) ((72 + (6 * nI f)) + nI k) z) fun _ => L
def q4c_ (m f k : Nat) (L : hM Unit) (a46 : Int32) : hM Unit := if a46 = 0 then hm_bind (hm_on 8 (some m) (p_Mo_numberNext (some m) 4 (-2147483648) 2147483647)) fun a48 => q5_ m f k L a48 else q5_ m f k L 0
def q4d_ (m f k : Nat) (L : hM Unit) (z43 : Int32) : hM Unit := hm_bind (hm_ist 24 (some (m + 15)) ((72 + (6 * nI f)) + nI k) (z43 &&& 1)) fun _ => hm_bind (hm_getr 8 22 (some m)) fun a44 => hm_bind (hm_getr 8 21 (some m)) fun a45 => hm_bind (hm_ild 24 a45 ((72 + (6 * nI f)) + nI k)) fun a46 => if a46 = 0 then hm_bind (hm_on 8 (some m) (p_Mo_numberNext (some m) 4 (-2147483648) 2147483647)) fun a48 => hm_bind (hm_ist 25 a44 ((72 + (6 * nI f)) + nI k) a48) fun _ => L else hm_bind (hm_ist 25 a44 ((72 + (6 * nI f)) + nI k) 0) fun _ => L
def q4_ (m f k : Nat) (L : hM Unit) : hM Unit := hm_bind (hm_on 8 (some m) (p_Mo_numberNext (some m) 1 0 1)) fun a42 => if a42 = 0 then q4d_ m f k L 1 else q4d_ m f k L 0
def q3_ (m f k : Nat) (L : hM Unit) (cnt : Int32) : hM Unit := hm_bind (hm_on 8 (some m) (p_Mo_numberNext (some m) 2 0 (cnt - 1))) fun a40 => hm_bind (hm_ist 23 (some (m + 14)) ((72 + (6 * nI f)) + nI k) a40) fun _ => hm_bind (hm_getr 8 21 (some m)) fun a41 => hm_bind (hm_on 8 (some m) (p_Mo_numberNext (some m) 1 0 1)) fun a42 => hm_jn (fun (z43 : Int32) => hm_bind (hm_ist 24 a41 ((72 + (6 * nI f)) + nI k) (z43 &&& 1)) fun _ => hm_bind (hm_getr 8 22 (some m)) fun a44 => hm_bind (hm_getr 8 21 (some m)) fun a45 => hm_bind (hm_ild 24 a45 ((72 + (6 * nI f)) + nI k)) fun a46 => hm_jn (fun (z47 : Int32) => hm_bind (hm_ist 25 a44 ((72 + (6 * nI f)) + nI k) z47) fun _ => L) fun k314 => if a46 = 0 then (hm_bind (hm_on 8 (some m) (p_Mo_numberNext (some m) 4 (-2147483648) 2147483647)) fun a48 => k314 a48) else k314 0) fun k284 => if a42 = 0 then k284 1 else k284 0
def q2_ (m f k : Nat) (L : hM Unit) (a33 a35 : Int32) : hM Unit := hm_bind (hm_on 8 (some m) (p_Mo_numberNext (some m) 2 (a33 + 1) a35)) fun a36 => hm_bind (hm_ist 22 (some (m + 13)) ((72 + (6 * nI f)) + nI k) a36) fun _ => hm_bind (hm_getr 8 20 (some m)) fun a37 => hm_bind (hm_getr 8 14 (some m)) fun a38 => hm_bind (hm_ild 17 a38 (nI (12 + f))) fun a39 => hm_bind (hm_on 8 (some m) (p_Mo_numberNext (some m) 2 0 (a39 - 1))) fun a40 => hm_bind (hm_ist 23 a37 ((72 + (6 * nI f)) + nI k) a40) fun _ => hm_bind (hm_getr 8 21 (some m)) fun a41 => hm_bind (hm_on 8 (some m) (p_Mo_numberNext (some m) 1 0 1)) fun a42 => hm_jn (fun (z43 : Int32) => hm_bind (hm_ist 24 a41 ((72 + (6 * nI f)) + nI k) (z43 &&& 1)) fun _ => hm_bind (hm_getr 8 22 (some m)) fun a44 => hm_bind (hm_getr 8 21 (some m)) fun a45 => hm_bind (hm_ild 24 a45 ((72 + (6 * nI f)) + nI k)) fun a46 => hm_jn (fun (z47 : Int32) => hm_bind (hm_ist 25 a44 ((72 + (6 * nI f)) + nI k) z47) fun _ => L) fun k314 => if a46 = 0 then (hm_bind (hm_on 8 (some m) (p_Mo_numberNext (some m) 4 (-2147483648) 2147483647)) fun a48 => k314 a48) else k314 0) fun k284 => if a42 = 0 then k284 1 else k284 0
def q1_ (m f k : Nat) (L : hM Unit) (cnt : Int32) : hM Unit := hm_bind (hm_on 8 (some m) (p_Mo_numberNext (some m) 2 0 (cnt - 1))) fun a30 => hm_bind (hm_ist 21 (some (m + 12)) ((72 + (6 * nI f)) + nI k) a30) fun _ => hm_bind (hm_getr 8 19 (some m)) fun a31 => hm_bind (hm_getr 8 18 (some m)) fun a32 => hm_bind (hm_ild 21 a32 ((72 + (6 * nI f)) + nI k)) fun a33 => hm_bind (hm_getr 8 14 (some m)) fun a34 => hm_bind (hm_ild 17 a34 (nI (12 + f))) fun a35 => hm_bind (hm_on 8 (some m) (p_Mo_numberNext (some m) 2 (a33 + 1) a35)) fun a36 => hm_bind (hm_ist 22 a31 ((72 + (6 * nI f)) + nI k) a36) fun _ => hm_bind (hm_getr 8 20 (some m)) fun a37 => hm_bind (hm_getr 8 14 (some m)) fun a38 => hm_bind (hm_ild 17 a38 (nI (12 + f))) fun a39 => hm_bind (hm_on 8 (some m) (p_Mo_numberNext (some m) 2 0 (a39 - 1))) fun a40 => hm_bind (hm_ist 23 a37 ((72 + (6 * nI f)) + nI k) a40) fun _ => hm_bind (hm_getr 8 21 (some m)) fun a41 => hm_bind (hm_on 8 (some m) (p_Mo_numberNext (some m) 1 0 1)) fun a42 => hm_jn (fun (z43 : Int32) => hm_bind (hm_ist 24 a41 ((72 + (6 * nI f)) + nI k) (z43 &&& 1)) fun _ => hm_bind (hm_getr 8 22 (some m)) fun a44 => hm_bind (hm_getr 8 21 (some m)) fun a45 => hm_bind (hm_ild 24 a45 ((72 + (6 * nI f)) + nI k)) fun a46 => hm_jn (fun (z47 : Int32) => hm_bind (hm_ist 25 a44 ((72 + (6 * nI f)) + nI k) z47) fun _ => L) fun k314 => if a46 = 0 then (hm_bind (hm_on 8 (some m) (p_Mo_numberNext (some m) 4 (-2147483648) 2147483647)) fun a48 => k314 a48) else k314 0) fun k284 => if a42 = 0 then k284 1 else k284 0
theorem ix_in {f k : Nat} (hf : f < 12) (hk : k < 6) : ¬ (nI (72 + 6 * f + k) < 0 ∨ 144 ≤ (nI (72 + 6 * f + k)).toNatClampNeg) := nI_in (by omega) (by omega)
theorem ix_cl {f k : Nat} (hf : f < 12) (hk : k < 6) : (nI (72 + 6 * f + k)).toNatClampNeg = 72 + 6 * f + k := nI_clamp (by omega)
theorem ix_in2 {f : Nat} (hf : f < 12) : ¬ (nI (12 + f) < 0 ∨ 24 ≤ (nI (12 + f)).toNatClampNeg) := nI_in (by omega) (by omega)
theorem ix_cl2 {f : Nat} (hf : f < 12) : (nI (12 + f)).toNatClampNeg = 12 + f := nI_clamp (by omega)
theorem q5_e {f k : Nat} (hf : f < 12) (hk : k < 6) (L : hM Unit) (z : Int32) (ar : Nat → Nat → Int32) (p : Int32) (ft : Int32 × Int32) : q5_ m f k L z (Em_ h m sc ar p ft) = L (Em_ h m sc (u2_ ar 25 (72 + 6 * f + k) z) p ft) := by
  rw [q5_, ix72, mo_ist25, if_neg (ix_in hf hk), ix_cl hf hk]; rfl
theorem q4d_e {f k : Nat} (hf : f < 12) (hk : k < 6) (L : hM Unit) (z : Int32) (ar : Nat → Nat → Int32) (p : Int32) (ft : Int32 × Int32) : q4d_ m f k L z (Em_ h m sc ar p ft) = q4c_ m f k L (z &&& 1) (Em_ h m sc (u2_ ar 24 (72 + 6 * f + k) (z &&& 1)) p ft) := by
  rw [q4d_, ix72, mo_ist24, if_neg (ix_in hf hk), ix_cl hf hk, mo_ref22, mo_ref21, mo_ild24, if_neg (ix_in hf hk), ix_cl hf hk, va_up_self, va_up_self]
  unfold q4c_ q5_
  rw [ix72]
  rfl
theorem q3_e {f k : Nat} (hf : f < 12) (hk : k < 6) (L : hM Unit) (a40 : Int32) (ar : Nat → Nat → Int32) (p : Int32) (ft : Int32 × Int32) : (hm_bind (hm_ist 23 (some (m + 14)) ((72 + (6 * nI f)) + nI k) a40) fun _ => hm_bind (hm_getr 8 21 (some m)) fun a41 => hm_bind (hm_on 8 (some m) (p_Mo_numberNext (some m) 1 0 1)) fun a42 => hm_jn (fun (z43 : Int32) => hm_bind (hm_ist 24 a41 ((72 + (6 * nI f)) + nI k) (z43 &&& 1)) fun _ => hm_bind (hm_getr 8 22 (some m)) fun a44 => hm_bind (hm_getr 8 21 (some m)) fun a45 => hm_bind (hm_ild 24 a45 ((72 + (6 * nI f)) + nI k)) fun a46 => hm_jn (fun (z47 : Int32) => hm_bind (hm_ist 25 a44 ((72 + (6 * nI f)) + nI k) z47) fun _ => L) fun k314 => if a46 = 0 then (hm_bind (hm_on 8 (some m) (p_Mo_numberNext (some m) 4 (-2147483648) 2147483647)) fun a48 => k314 a48) else k314 0) fun k284 => if a42 = 0 then k284 1 else k284 0) (Em_ h m sc ar p ft) = q4_ m f k L (Em_ h m sc (u2_ ar 23 (72 + 6 * f + k) a40) p ft) := by
  rw [ix72, mo_ist23, if_neg (ix_in hf hk), ix_cl hf hk, mo_ref21]
  unfold q4_ q4d_
  rw [ix72]
  rfl
theorem q2_e {f k : Nat} (hf : f < 12) (hk : k < 6) (L : hM Unit) (a36 : Int32) (ar : Nat → Nat → Int32) (p : Int32) (ft : Int32 × Int32) : (hm_bind (hm_ist 22 (some (m + 13)) ((72 + (6 * nI f)) + nI k) a36) fun _ => hm_bind (hm_getr 8 20 (some m)) fun a37 => hm_bind (hm_getr 8 14 (some m)) fun a38 => hm_bind (hm_ild 17 a38 (nI (12 + f))) fun a39 => hm_bind (hm_on 8 (some m) (p_Mo_numberNext (some m) 2 0 (a39 - 1))) fun a40 => hm_bind (hm_ist 23 a37 ((72 + (6 * nI f)) + nI k) a40) fun _ => hm_bind (hm_getr 8 21 (some m)) fun a41 => hm_bind (hm_on 8 (some m) (p_Mo_numberNext (some m) 1 0 1)) fun a42 => hm_jn (fun (z43 : Int32) => hm_bind (hm_ist 24 a41 ((72 + (6 * nI f)) + nI k) (z43 &&& 1)) fun _ => hm_bind (hm_getr 8 22 (some m)) fun a44 => hm_bind (hm_getr 8 21 (some m)) fun a45 => hm_bind (hm_ild 24 a45 ((72 + (6 * nI f)) + nI k)) fun a46 => hm_jn (fun (z47 : Int32) => hm_bind (hm_ist 25 a44 ((72 + (6 * nI f)) + nI k) z47) fun _ => L) fun k314 => if a46 = 0 then (hm_bind (hm_on 8 (some m) (p_Mo_numberNext (some m) 4 (-2147483648) 2147483647)) fun a48 => k314 a48) else k314 0) fun k284 => if a42 = 0 then k284 1 else k284 0) (Em_ h m sc ar p ft) = q3_ m f k L (ar 17 (12 + f)) (Em_ h m sc (u2_ ar 22 (72 + 6 * f + k) a36) p ft) := by
  rw [ix72, mo_ist22, if_neg (ix_in hf hk), ix_cl hf hk, mo_ref20, mo_ref14, mo_ild17, if_neg (ix_in2 hf), ix_cl2 hf]
  unfold q3_
  rw [ix72]
  rfl
theorem q1_e {f k : Nat} (hf : f < 12) (hk : k < 6) (L : hM Unit) (a30 : Int32) (ar : Nat → Nat → Int32) (p : Int32) (ft : Int32 × Int32) : (hm_bind (hm_ist 21 (some (m + 12)) ((72 + (6 * nI f)) + nI k) a30) fun _ => hm_bind (hm_getr 8 19 (some m)) fun a31 => hm_bind (hm_getr 8 18 (some m)) fun a32 => hm_bind (hm_ild 21 a32 ((72 + (6 * nI f)) + nI k)) fun a33 => hm_bind (hm_getr 8 14 (some m)) fun a34 => hm_bind (hm_ild 17 a34 (nI (12 + f))) fun a35 => hm_bind (hm_on 8 (some m) (p_Mo_numberNext (some m) 2 (a33 + 1) a35)) fun a36 => hm_bind (hm_ist 22 a31 ((72 + (6 * nI f)) + nI k) a36) fun _ => hm_bind (hm_getr 8 20 (some m)) fun a37 => hm_bind (hm_getr 8 14 (some m)) fun a38 => hm_bind (hm_ild 17 a38 (nI (12 + f))) fun a39 => hm_bind (hm_on 8 (some m) (p_Mo_numberNext (some m) 2 0 (a39 - 1))) fun a40 => hm_bind (hm_ist 23 a37 ((72 + (6 * nI f)) + nI k) a40) fun _ => hm_bind (hm_getr 8 21 (some m)) fun a41 => hm_bind (hm_on 8 (some m) (p_Mo_numberNext (some m) 1 0 1)) fun a42 => hm_jn (fun (z43 : Int32) => hm_bind (hm_ist 24 a41 ((72 + (6 * nI f)) + nI k) (z43 &&& 1)) fun _ => hm_bind (hm_getr 8 22 (some m)) fun a44 => hm_bind (hm_getr 8 21 (some m)) fun a45 => hm_bind (hm_ild 24 a45 ((72 + (6 * nI f)) + nI k)) fun a46 => hm_jn (fun (z47 : Int32) => hm_bind (hm_ist 25 a44 ((72 + (6 * nI f)) + nI k) z47) fun _ => L) fun k314 => if a46 = 0 then (hm_bind (hm_on 8 (some m) (p_Mo_numberNext (some m) 4 (-2147483648) 2147483647)) fun a48 => k314 a48) else k314 0) fun k284 => if a42 = 0 then k284 1 else k284 0) (Em_ h m sc ar p ft) = q2_ m f k L a30 (ar 17 (12 + f)) (Em_ h m sc (u2_ ar 21 (72 + 6 * f + k) a30) p ft) := by
  rw [ix72, mo_ist21, if_neg (ix_in hf hk), ix_cl hf hk, mo_ref19, mo_ref18, mo_ild21, if_neg (ix_in hf hk), ix_cl hf hk, va_up_self, va_up_self, mo_ref14, mo_ild17, if_neg (ix_in2 hf), ix_cl2 hf]
  unfold q2_
  rw [ix72]
  rfl
theorem u2_72 (ar : Nat → Nat → Int32) {k j : Nat} (h1 : 21 ≤ k) (h2 : k ≤ 25) (hj : 72 ≤ j) (x : Int32) : sb0_ ar (u2_ ar k j x) := u2_sb ar (by omega) (by rw [bk_72 h1 h2]; exact hj) x
theorem u2_12 (ar : Nat → Nat → Int32) {k j : Nat} (h1 : 13 ≤ k) (h2 : k ≤ 18) (hj : 12 ≤ j) (x : Int32) : sb0_ ar (u2_ ar k j x) := u2_sb ar (by omega) (by rw [bk_12 h1 h2]; exact hj) x
abbrev RT_ (h : hc_H) (m : Nat) (sc : Nat → Int32) (B : Nat → Int32) (x : hM Unit) : Prop := rt_ (Em_ h m sc) (IB_ B) sb0_ x (fun _ => True)
theorem q5_t {f k : Nat} (hf : f < 12) (hk : k < 6) {L : hM Unit} (hL : RT_ h m sc B L) (z : Int32) : RT_ h m sc B (q5_ m f k L z) :=
  rt_pre sb0_tr (fun ar p ft hB => ⟨_, u2_B B (by omega) _ _ hB, u2_72 ar (by omega) (by omega) (by omega) z, q5_e h m hf hk L z ar p ft⟩) hL
theorem q4c_t {f k : Nat} (hf : f < 12) (hk : k < 6) {L : hM Unit} (hL : RT_ h m sc B L) (z : Int32) : RT_ h m sc B (q4c_ m f k L z) := by
  unfold q4c_
  by_cases c : z = 0
  · rw [if_pos c]; exact rt_bind sb0_tr (mnt_ h m sc B 4 (by omega) _ _) (fun v _ => q5_t h m B hf hk hL v)
  · rw [if_neg c]; exact q5_t h m B hf hk hL 0
theorem q4d_t {f k : Nat} (hf : f < 12) (hk : k < 6) {L : hM Unit} (hL : RT_ h m sc B L) (z : Int32) : RT_ h m sc B (q4d_ m f k L z) :=
  rt_pre sb0_tr (fun ar p ft hB => ⟨_, u2_B B (by omega) _ _ hB, u2_72 ar (by omega) (by omega) (by omega) _, q4d_e h m hf hk L z ar p ft⟩) (q4c_t h m B hf hk hL _)
theorem q4_t {f k : Nat} (hf : f < 12) (hk : k < 6) {L : hM Unit} (hL : RT_ h m sc B L) : RT_ h m sc B (q4_ m f k L) := by
  refine rt_bind sb0_tr (mnt_ h m sc B 1 (by omega) _ _) (fun v _ => ?_)
  by_cases c : v = 0
  · rw [if_pos c]; exact q4d_t h m B hf hk hL 1
  · rw [if_neg c]; exact q4d_t h m B hf hk hL 0
theorem q3_t {f k : Nat} (hf : f < 12) (hk : k < 6) {L : hM Unit} (hL : RT_ h m sc B L) (z : Int32) : RT_ h m sc B (q3_ m f k L z) :=
  rt_bind sb0_tr (mnt_ h m sc B 2 (by omega) _ _) (fun v _ => rt_pre sb0_tr (fun ar p ft hB => ⟨_, u2_B B (by omega) _ _ hB, u2_72 ar (by omega) (by omega) (by omega) v, q3_e h m hf hk L v ar p ft⟩) (q4_t h m B hf hk hL))
theorem q2_t {f k : Nat} (hf : f < 12) (hk : k < 6) {L : hM Unit} (hL : RT_ h m sc B L) (y z : Int32) : RT_ h m sc B (q2_ m f k L y z) :=
  rt_bind sb0_tr (mnt_ h m sc B 2 (by omega) _ _) (fun v _ => rt_pre2 sb0_tr (m' := fun z => q3_ m f k L z) (fun ar p ft hB _ => ⟨_, _, u2_B B (by omega) _ _ hB, u2_72 ar (by omega) (by omega) (by omega) v, q2_e h m hf hk L v ar p ft⟩) (fun z => q3_t h m B hf hk hL z))
theorem q1_t {f k : Nat} (hf : f < 12) (hk : k < 6) {L : hM Unit} (hL : RT_ h m sc B L) (z : Int32) : RT_ h m sc B (q1_ m f k L z) :=
  rt_bind sb0_tr (mnt_ h m sc B 2 (by omega) _ _) (fun v _ => rt_pre2 sb0_tr (m' := fun z => q2_ m f k L v z) (fun ar p ft hB _ => ⟨_, _, u2_B B (by omega) _ _ hB, u2_72 ar (by omega) (by omega) (by omega) v, q1_e h m hf hk L v ar p ft⟩) (fun z => q2_t h m B hf hk hL v z))
def mh_ (ar : Nat → Nat → Int32) (f k : Nat) (d : hd5_) : Nat → Nat → Int32 := u2_ (u2_ (u2_ (u2_ (u2_ ar 21 (72 + 6 * f + k) d.1) 22 (72 + 6 * f + k) d.2.1) 23 (72 + 6 * f + k) d.2.2.1) 24 (72 + 6 * f + k) d.2.2.2.1) 25 (72 + 6 * f + k) d.2.2.2.2
theorem mh_k (ar : Nat → Nat → Int32) (f k : Nat) (d : hd5_) {j : Nat} (hj : j < 21) : mh_ ar f k d j = ar j := by
  unfold mh_
  rw [u2_k _ _ _ (by omega), u2_k _ _ _ (by omega), u2_k _ _ _ (by omega), u2_k _ _ _ (by omega), u2_k _ _ _ (by omega)]
theorem q1_o (e2 : sc 2 = nI N) (hN : N ≤ 4096) {f k : Nat} (hf : f < 12) (hk : k < 6) {L : hM Unit} (hL : RT_ h m sc B L) (ar : Nat → Nat → Int32) (hB : ar 10 = B) (cnt : Int32) (e17 : ar 17 (12 + f) = cnt) {δ : Type} {T : hd5_ → rs_ δ} {upd : δ → Nat → Nat → Int32} (hT : ∀ d, ro_ (Em_ h m sc) N (IB_ B) sb0_ L (mh_ ar f k d) (T d) (fun _ => ()) upd (fun _ => True)) : ro_ (Em_ h m sc) N (IB_ B) sb0_ (q1_ m f k L cnt) ar (sbd_ (sh_ B N cnt) T) (fun _ => ()) upd (fun _ => True) := by
  have key : ro_ (Em_ h m sc) N (IB_ B) sb0_ (q1_ m f k L cnt) ar (sbd_ (nn_ B N 2 0 (cnt - 1)) fun a => sbd_ (nn_ B N 2 (a + 1) cnt) fun t => sbd_ (nn_ B N 2 0 (cnt - 1)) fun tg => sbd_ (nn_ B N 1 0 1) fun an => sbd_ (nn_ B N (if an = 0 then 0 else 4) (-2147483648) 2147483647) fun cd => T (a, t, tg, if an = 0 then 1 else 0, cd)) (fun _ => ()) upd (fun _ => True) := by
    refine ro_bind sb0_tr (mno_ h m B e2 hN ar hB 2 (by omega) _ _) (fun a _ _ _ => ?_) (fun v _ => rt_pre2 sb0_tr (m' := fun z => q2_ m f k L v z) (fun ar p ft hB _ => ⟨_, _, u2_B B (by omega) _ _ hB, u2_72 ar (by omega) (by omega) (by omega) v, q1_e h m hf hk L v ar p ft⟩) (fun z => q2_t h m B hf hk hL v z))
    have hB1 := u2_B B (k := 21) (by omega) (72 + 6 * f + k) a hB
    refine ro_pre0 sb0_tr (c' := u2_ ar 21 (72 + 6 * f + k) a) (m' := q2_ m f k L a cnt) (u2_72 ar (by omega) (by omega) (by omega) a) (fun p ft _ => by rw [← e17]; exact q1_e h m hf hk L a ar p ft) ?_
    refine ro_bind sb0_tr (mno_ h m B e2 hN _ hB1 2 (by omega) _ _) (fun t _ _ _ => ?_) (fun v _ => rt_pre2 sb0_tr (m' := fun z => q3_ m f k L z) (fun ar p ft hB _ => ⟨_, _, u2_B B (by omega) _ _ hB, u2_72 ar (by omega) (by omega) (by omega) v, q2_e h m hf hk L v ar p ft⟩) (fun z => q3_t h m B hf hk hL z))
    have hB2 := u2_B B (k := 22) (by omega) (72 + 6 * f + k) t hB1
    refine ro_pre0 sb0_tr (c' := u2_ (u2_ ar 21 (72 + 6 * f + k) a) 22 (72 + 6 * f + k) t) (m' := q3_ m f k L cnt) (u2_72 _ (by omega) (by omega) (by omega) t) (fun p ft _ => by
      have := q2_e h m hf hk L t (u2_ ar 21 (72 + 6 * f + k) a) p ft (sc := sc)
      rw [u2_k _ _ _ (show (17 : Nat) ≠ 21 by omega), e17] at this
      exact this) ?_
    refine ro_bind sb0_tr (mno_ h m B e2 hN _ hB2 2 (by omega) _ _) (fun tg _ _ _ => ?_) (fun v _ => rt_pre sb0_tr (fun ar p ft hB => ⟨_, u2_B B (by omega) _ _ hB, u2_72 ar (by omega) (by omega) (by omega) v, q3_e h m hf hk L v ar p ft⟩) (q4_t h m B hf hk hL))
    have hB3 := u2_B B (k := 23) (by omega) (72 + 6 * f + k) tg hB2
    refine ro_pre0 sb0_tr (c' := u2_ (u2_ (u2_ ar 21 (72 + 6 * f + k) a) 22 (72 + 6 * f + k) t) 23 (72 + 6 * f + k) tg) (m' := q4_ m f k L) (u2_72 _ (by omega) (by omega) (by omega) tg) (fun p ft _ => q3_e h m hf hk L tg _ p ft) ?_
    refine ro_bind sb0_tr (mno_ h m B e2 hN _ hB3 1 (by omega) _ _) (fun an _ _ _ => ?_) (fun v _ => ?_)
    · have hB4 := u2_B B (k := 24) (by omega) (72 + 6 * f + k) (if an = 0 then 1 else 0) hB3
      refine ro_pre0 sb0_tr (c' := u2_ (u2_ (u2_ (u2_ ar 21 (72 + 6 * f + k) a) 22 (72 + 6 * f + k) t) 23 (72 + 6 * f + k) tg) 24 (72 + 6 * f + k) (if an = 0 then 1 else 0)) (m' := q4c_ m f k L (if an = 0 then 1 else 0)) (u2_72 _ (by omega) (by omega) (by omega) _) (fun p ft _ => ?_) ?_
      · by_cases c : an = 0
        · rw [if_pos c, if_pos c, q4d_e h m hf hk]; rfl
        · rw [if_neg c, if_neg c, q4d_e h m hf hk]; rfl
      · have last : ∀ cd, ro_ (Em_ h m sc) N (IB_ B) sb0_ (q5_ m f k L cd) (u2_ (u2_ (u2_ (u2_ ar 21 (72 + 6 * f + k) a) 22 (72 + 6 * f + k) t) 23 (72 + 6 * f + k) tg) 24 (72 + 6 * f + k) (if an = 0 then 1 else 0)) (T (a, t, tg, if an = 0 then 1 else 0, cd)) (fun _ => ()) upd (fun _ => True) := fun cd => ro_pre0 sb0_tr (c' := mh_ ar f k (a, t, tg, if an = 0 then 1 else 0, cd)) (m' := L) (u2_72 _ (by omega) (by omega) (by omega) cd) (fun p ft _ => q5_e h m hf hk L cd _ p ft) (hT _)
        unfold q4c_
        by_cases c : an = 0
        · have l0 := last 0
          simp only [if_pos c] at l0 ⊢
          rw [if_neg (by decide)]
          refine ro_eq l0 (fun p => ?_)
          rfl
        · have l1 := last
          simp only [if_neg c, if_true] at l1 ⊢
          have hB4' := u2_B B (k := 24) (by omega) (72 + 6 * f + k) 0 hB3
          exact ro_bind sb0_tr (mno_ h m B e2 hN _ hB4' 4 (by omega) _ _) (fun cd _ _ _ => l1 cd) (fun v _ => q5_t h m B hf hk hL v)
    · by_cases c : v = 0
      · rw [if_pos c]; exact q4d_t h m B hf hk hL 1
      · rw [if_neg c]; exact q4d_t h m B hf hk hL 0
  refine ro_eq key (fun p => ?_)
  rw [sh_, sbd_as]
  refine sbd_c _ (fun a p => ?_) p
  rw [sbd_as]
  refine sbd_c _ (fun t p => ?_) p
  rw [sbd_as]
  refine sbd_c _ (fun t p => ?_) p
  rw [sbd_as]
  refine sbd_c _ (fun t p => ?_) p
  rw [sbd_as]
  exact sbd_c _ (fun t p => rfl) p
def mhs_ (f : Nat) : (Nat → Nat → Int32) → Nat → List hd5_ → (Nat → Nat → Int32)
  | ar, _, [] => ar
  | ar, k, d :: l => mhs_ f (mh_ ar f k d) (k + 1) l
theorem mhl_t {f : Nat} (hf : f < 12) (x : Int32) {kx : hM Unit} (hk : RT_ h m sc B kx) (fu : Nat) : RT_ h m sc B (p_Mo_readFunction_164 (some m) (nI f) (nI (12 + f)) kx (fu + 1) x) := by
  refine rt_pre2 sb0_tr (ι := Unit) (m' := fun _ => kx) (fun ar p ft hB hft => ⟨(), ar, hB, sb0_rfl _, ?_⟩) (fun _ => hk)
  rw [p_Mo_readFunction_164, mo_ref15, mo_ild18, if_neg (ix_in2 hf), ev_ite]
  split
  · rfl
  · rw [mo_get7, sp_7, ev_ite, if_neg (lt_ne hft)]
theorem mhl_o (e2 : sc 2 = nI N) (hN : N ≤ 4096) {f : Nat} (hf : f < 12) (n : Nat) (hn : n ≤ 6) (cnt : Int32) {kx : hM Unit} (hk : RT_ h m sc B kx) {δ : Type} {T : List hd5_ → rs_ δ} {upd : δ → Nat → Nat → Int32} : ∀ (r fu : Nat) (ar : Nat → Nat → Int32), r ≤ n → r < fu → ar 10 = B → ar 18 (12 + f) = nI n → ar 17 (12 + f) = cnt → (∀ l, l.length = r → mhs_ f ar (n - r) l 10 = B → ro_ (Em_ h m sc) N (IB_ B) sb0_ kx (mhs_ f ar (n - r) l) (T l) (fun _ => ()) upd (fun _ => True)) → ro_ (Em_ h m sc) N (IB_ B) sb0_ (p_Mo_readFunction_164 (some m) (nI f) (nI (12 + f)) kx fu (nI (n - r))) ar (sbd_ (sls_ (sh_ B N cnt) r) T) (fun _ => ()) upd (fun _ => True) := by
  intro r
  induction r generalizing T with
  | zero =>
    intro fu ar _ hfu hB e18 e17 hT
    obtain ⟨u, rfl⟩ : ∃ u, fu = u + 1 := ⟨fu - 1, by omega⟩
    refine ro_pre0 sb0_tr (c' := ar) (m' := kx) (sb0_rfl _) (fun p ft _ => ?_) (hT [] rfl hB)
    rw [p_Mo_readFunction_164, mo_ref15, mo_ild18, if_neg (ix_in2 hf), ix_cl2 hf, e18, ev_ite, if_pos (nI_le (by omega) (by omega))]
  | succ r ih =>
    intro fu ar hr hfu hB e18 e17 hT
    obtain ⟨u, rfl⟩ : ∃ u, fu = u + 1 := ⟨fu - 1, by omega⟩
    obtain ⟨u, rfl⟩ : ∃ k, u = k + 1 := ⟨u - 1, by omega⟩
    have hk6 : n - (r + 1) < 6 := by omega
    have tL := mhl_t h m B hf (nI (n - r)) hk u (sc := sc)
    refine ro_pre0 sb0_tr (c' := ar) (m' := q1_ m f (n - (r + 1)) (p_Mo_readFunction_164 (some m) (nI f) (nI (12 + f)) kx (u + 1) (nI (n - r))) cnt) (sb0_rfl _) (fun p ft hft => ?_) ?_
    · rw [p_Mo_readFunction_164, mo_ref15, mo_ild18, if_neg (ix_in2 hf), ix_cl2 hf, e18, ev_ite, if_neg (nI_ge (by omega) (by omega)), mo_get7, sp_7, ev_ite, if_pos hft, mo_ref18, mo_ref14, mo_ild17, if_neg (ix_in2 hf), ix_cl2 hf, e17, nI_1, show n - (r + 1) + 1 = n - r by omega]
      rfl
    · have key := q1_o h m B e2 hN hf hk6 tL ar hB cnt e17 (T := fun d => sbd_ (sls_ (sh_ B N cnt) r) fun l => T (d :: l)) (upd := upd) (fun d => ?_)
      · refine ro_eq key (fun p => ?_)
        rw [sls_, sbd_as]
        refine sbd_c _ (fun o p => ?_) p
        rw [sbd_as]
        exact sbd_c _ (fun l p => rfl) p
      · refine ih (u + 1) (mh_ ar f (n - (r + 1)) d) (by omega) (by omega) (by rw [mh_k _ _ _ _ (by omega)]; exact hB) (by rw [mh_k _ _ _ _ (by omega)]; exact e18) (by rw [mh_k _ _ _ _ (by omega)]; exact e17) (fun l hl hBl => ?_)
        have := hT (d :: l) (by rw [List.length_cons, hl])
        rw [mhs_, show n - (r + 1) + 1 = n - r by omega] at this
        exact this hBl
end MRH
