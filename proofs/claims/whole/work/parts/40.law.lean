/-! THE CLAIM OUT OF ONE WALK OF THE LAW'S BODY. Your part is whole_start (and what it stands on); all else here is the same for every law, but numbers. -/
def R_law : String := "StackBytesLaw"
def lw_P (b : Addr) (xs : List Int32) (args : Array Value) (s : State) : Prop := args = #[.ref b] ∧ s.IntsAt b xs ∧ xs.length ≤ 2560 ∧ (Jvm.Cond.and given_1 narrow_1).before args s = true
def lw_Q (_ : Array Value) (s : State) (o : Outcome) (t : State) : Prop := o = .returned (some (.int 1)) ∧ Framed s o t [] 600000 7302250
def lw_Z (below : List Frame) (a : Array Value) (s : State) : State → Prop := fun t => ∃ o, t.status = .running ∧ Ended t below o ∧ lw_Q a s o t
/-- the law's own end, with 1 on the stack, nothing written that was there before, its room as the claim has it -/
theorem lw_ret {p : Program} {l : Launch} {e : Env} {s : State} {m : MethodId} {below : List Frame} {meth : Method} {c : Code} {b : Nat} (hx : p.tables.exec = Jvm.exec) (hb : c.code = code) (hr : meth.sig.returnType = ret) (hlocks : meth.locks = false) {pc : Nat} {H : Heap} {ls : Array Slot} (hdg : decode code pc = .ok (.ireturn, 1)) : W p l e room_1 s m #[Value.ref b] below meth c H [] 600000 7302250 (lw_Z below #[Value.ref b] s) (F0 m pc ls [.int 1]) := by
  intro T hT X
  obtain ⟨fs, hret, hrun, hended, hW, hframe⟩ := X.leave (v := some (.int 1)) (hlocks := hlocks) (fun h => by rw [hr] at h; cases h)
  have hmeth' : T.vm.method? m = some meth := X.method'
  refine ⟨T.setFrames fs, ?_, .returned (some (.int 1)), hrun, hended, rfl, ⟨_, rfl⟩, hW, hframe⟩
  jvm_step X.here [X.here.top, hx, hb, hdg, hmeth', hr, ret, narrow_b1]
  (try refine ⟨rfl, ?_⟩); (try refine ⟨rfl, ?_⟩)
  first | (intro acts; rw [hret _ acts rfl rfl rfl]) | rw [hret _ _ rfl rfl rfl]
  exact Steps.refl _
/-- what holds at the law's entry: the machine, the code, the tables' words (any of lw_tbl by 'hts w (by decide +kernel)'), the script of L ints xs at the cell b, what the Statement gives of the start (any of its parts by flat_of_before) -/
def lw_At (p : Program) (s : State) (m : MethodId) (meth : Method) (c : Code) (b L : Nat) (xs : Nat → Int32) : Prop :=
  p.tables.exec = Jvm.exec ∧ c.code = code ∧ meth.sig.returnType = ret ∧ c.maxLocals = 4 ∧ s.vm.findClass R_law = some m.cls ∧ (∀ w ∈ lw_tbl, w.before #[Value.ref b] s = true) ∧ va_X b L xs s s.heap ∧ b < s.heap.size ∧ meth.locks = false ∧ (Jvm.Cond.and given_1 narrow_1).before #[Value.ref b] s = true
/-- the heap at the law's entry: nothing is known of it -/
def hz_ (s : State) : hc_H := (s.heap.size, fun _ _ => none, fun _ _ => none, fun _ _ => none)
def hm_sld (L : Nat) (xs : Nat → Int32) (i : Int32) : hM Int32 := fun h => if i < 0 ∨ L ≤ i.toNatClampNeg then none else some (xs i.toNatClampNeg, 0, 0, h)
theorem hz_A {s : State} {q : Nat} (h : hc_A (hz_ s) q) : s.heap.size ≤ q := by
  rcases h with ⟨e, he⟩ | h
  · rcases e with e | e | e <;> cases he
  · exact h
section HJL
variable {p : Program} {l : Launch} {e : Env} {R : Room} {s : State} {m : MethodId} {args : Array Value} {below : List Frame} {meth : Method} {c : Code} {G : hc_G} {h0 h h2 : hc_H} {nL : Nat} {Q : State → Prop} {C S pc : Nat} {lv lv' : List (Nat × lc_V)} {st : List lc_V}
variable {cc : ByteArray} {own nm : String} {Ts : List Cond} {b0 L : Nat} {xs : Nat → Int32} {rr : Option FieldType}
theorem hj_sld (hC : hj_C p s m args meth c G cc nL rr own nm Ts) (hX : va_X b0 L xs s s.heap) (hbl : b0 < s.heap.size) (hbA : ¬ hc_A h0 b0) {β : Type} {b : β} {i : Int32} {kont : Int32 → hM β} (hd : decode cc pc = .ok (.iaload, 1)) (hr : hm_bind (hm_sld L xs i) kont h = some (b, C, S, h2)) (kk : ∀ v, kont v h = some (b, C, S, h2) → hj_J p l e R s m args below meth c G h0 nL Q C S h (pc + 1) lv (vi_ v :: st)) : hj_J p l e R s m args below meth c G h0 nL Q C S h pc lv (vi_ i :: vr_ (some b0) :: st) := by
  obtain ⟨v, c1, s1, h1, c2, s2, hm, hk2, rfl, rfl⟩ := hm_bind_inv hr
  unfold hm_sld at hm
  split at hm
  · cases hm
  · next hin =>
    cases hm
    simp only [Nat.zero_add] at kk ⊢
    exact fun H locs cells slots ls hP hI hS hz hc hs hl => va_sld hC.1 hC.2.1 hX hbl hbA hS hin hd (kk _ hk2 H locs cells slots ls hP hI hS hz (by omega) (by omega) hl)
theorem hj_slen (hC : hj_C p s m args meth c G cc nL rr own nm Ts) (hX : va_X b0 L xs s s.heap) (hbl : b0 < s.heap.size) (hbA : ¬ hc_A h0 b0) (hd : decode cc pc = .ok (.arraylength, 1)) (kk : hj_J p l e R s m args below meth c G h0 nL Q C S h (pc + 1) lv (vi_ (Int32.ofNat L) :: st)) : hj_J p l e R s m args below meth c G h0 nL Q C S h pc lv (vr_ (some b0) :: st) :=
  fun H locs cells slots ls hP hI hS hz hc hs hl => va_slen hC.1 hC.2.1 hX hbl hbA hS hd (kk H locs cells slots ls hP hI hS hz hc hs hl)
theorem hj_lawret (hC : hj_C p s m #[Value.ref b0] meth c G code nL ret own nm Ts) (hlk : meth.locks = false) {v : Int32} (hd : decode code pc = .ok (.ireturn, 1)) (hr : hm_z v h = some (1, C, S, h2)) : hj_J p l e room_1 s m #[Value.ref b0] below meth c G (hz_ s) nL (lw_Z below #[Value.ref b0] s) C S h pc lv [vi_ v] := by
  unfold hm_z at hr
  split at hr
  · unfold hm_ret at hr
    cases hr
    intro H locs cells slots ls hP hI hS hz hc hs hl
    refine va_forget (fun q hq => hz_A (hS.2.2 q hq)) ?_
    refine W.widen (k := 600000) (n := 7302250) (by have : room_1.cells = 600000 := rfl; omega) (by have : room_1.slots = 7302250 := rfl; omega) ?_
    exact lw_ret hC.1 hC.2.1 hC.2.2.2.1 hlk hd
  · cases hr
end HJL
theorem d_La_law_0 : decode code 0 = .ok (.new 7, 3) := by decide +kernel
theorem d_La_law_3 : decode code 3 = .ok (.dup, 1) := by decide +kernel
theorem d_La_law_4 : decode code 4 = .ok (.invokespecial 9, 3) := by decide +kernel
theorem d_La_law_7 : decode code 7 = .ok (.astore_n 1, 1) := by decide +kernel
theorem d_La_law_8 : decode code 8 = .ok (.new 10, 3) := by decide +kernel
theorem d_La_law_11 : decode code 11 = .ok (.dup, 1) := by decide +kernel
theorem d_La_law_12 : decode code 12 = .ok (.invokespecial 12, 3) := by decide +kernel
theorem d_La_law_15 : decode code 15 = .ok (.astore_n 2, 1) := by decide +kernel
theorem d_La_law_16 : decode code 16 = .ok (.iconst 0, 1) := by decide +kernel
theorem d_La_law_17 : decode code 17 = .ok (.istore_n 3, 1) := by decide +kernel
theorem d_La_law_18 : decode code 18 = .ok (.iload_n 3, 1) := by decide +kernel
theorem d_La_law_19 : decode code 19 = .ok (.aload_n 0, 1) := by decide +kernel
theorem d_La_law_20 : decode code 20 = .ok (.arraylength, 1) := by decide +kernel
theorem d_La_law_21 : decode code 21 = .ok (.iconst 5, 1) := by decide +kernel
theorem d_La_law_22 : decode code 22 = .ok (.isub, 1) := by decide +kernel
theorem d_La_law_23 : decode code 23 = .ok (.if_icmp .gt 481, 3) := by decide +kernel
theorem d_La_law_26 : decode code 26 = .ok (.aload_n 0, 1) := by decide +kernel
theorem d_La_law_27 : decode code 27 = .ok (.iload_n 3, 1) := by decide +kernel
theorem d_La_law_28 : decode code 28 = .ok (.iaload, 1) := by decide +kernel
theorem d_La_law_29 : decode code 29 = .ok (.bipush 15, 2) := by decide +kernel
theorem d_La_law_31 : decode code 31 = .ok (.iand, 1) := by decide +kernel
theorem d_La_law_32 : decode code 32 = .ok (.tableswitch 466 0 11 #[64, 127, 150, 183, 196, 209, 222, 275, 318, 351, 394, 443], 64) := by decide +kernel
theorem d_La_law_96 : decode code 96 = .ok (.aload_n 1, 1) := by decide +kernel
theorem d_La_law_97 : decode code 97 = .ok (.aload_n 0, 1) := by decide +kernel
theorem d_La_law_98 : decode code 98 = .ok (.iload_n 3, 1) := by decide +kernel
theorem d_La_law_99 : decode code 99 = .ok (.iconst 1, 1) := by decide +kernel
theorem d_La_law_100 : decode code 100 = .ok (.iadd, 1) := by decide +kernel
theorem d_La_law_101 : decode code 101 = .ok (.iaload, 1) := by decide +kernel
theorem d_La_law_102 : decode code 102 = .ok (.i2l, 1) := by decide +kernel
theorem d_La_law_103 : decode code 103 = .ok (.bipush 32, 2) := by decide +kernel
theorem d_La_law_105 : decode code 105 = .ok (.lshl, 1) := by decide +kernel
theorem d_La_law_106 : decode code 106 = .ok (.aload_n 0, 1) := by decide +kernel
theorem d_La_law_107 : decode code 107 = .ok (.iload_n 3, 1) := by decide +kernel
theorem d_La_law_108 : decode code 108 = .ok (.iconst 2, 1) := by decide +kernel
theorem d_La_law_109 : decode code 109 = .ok (.iadd, 1) := by decide +kernel
theorem d_La_law_110 : decode code 110 = .ok (.iaload, 1) := by decide +kernel
theorem d_La_law_111 : decode code 111 = .ok (.i2l, 1) := by decide +kernel
theorem d_La_law_112 : decode code 112 = .ok (.ldc2_w 13, 3) := by decide +kernel
theorem d_La_law_115 : decode code 115 = .ok (.land, 1) := by decide +kernel
theorem d_La_law_116 : decode code 116 = .ok (.lor, 1) := by decide +kernel
theorem d_La_law_117 : decode code 117 = .ok (.aload_n 0, 1) := by decide +kernel
theorem d_La_law_118 : decode code 118 = .ok (.iload_n 3, 1) := by decide +kernel
theorem d_La_law_119 : decode code 119 = .ok (.iconst 3, 1) := by decide +kernel
theorem d_La_law_120 : decode code 120 = .ok (.iadd, 1) := by decide +kernel
theorem d_La_law_121 : decode code 121 = .ok (.iaload, 1) := by decide +kernel
theorem d_La_law_122 : decode code 122 = .ok (.invokevirtual 15, 3) := by decide +kernel
theorem d_La_law_125 : decode code 125 = .ok (.aload_n 2, 1) := by decide +kernel
theorem d_La_law_126 : decode code 126 = .ok (.aload_n 0, 1) := by decide +kernel
theorem d_La_law_127 : decode code 127 = .ok (.iload_n 3, 1) := by decide +kernel
theorem d_La_law_128 : decode code 128 = .ok (.iconst 1, 1) := by decide +kernel
theorem d_La_law_129 : decode code 129 = .ok (.iadd, 1) := by decide +kernel
theorem d_La_law_130 : decode code 130 = .ok (.iaload, 1) := by decide +kernel
theorem d_La_law_131 : decode code 131 = .ok (.i2l, 1) := by decide +kernel
theorem d_La_law_132 : decode code 132 = .ok (.bipush 32, 2) := by decide +kernel
theorem d_La_law_134 : decode code 134 = .ok (.lshl, 1) := by decide +kernel
theorem d_La_law_135 : decode code 135 = .ok (.aload_n 0, 1) := by decide +kernel
theorem d_La_law_136 : decode code 136 = .ok (.iload_n 3, 1) := by decide +kernel
theorem d_La_law_137 : decode code 137 = .ok (.iconst 2, 1) := by decide +kernel
theorem d_La_law_138 : decode code 138 = .ok (.iadd, 1) := by decide +kernel
theorem d_La_law_139 : decode code 139 = .ok (.iaload, 1) := by decide +kernel
theorem d_La_law_140 : decode code 140 = .ok (.i2l, 1) := by decide +kernel
theorem d_La_law_141 : decode code 141 = .ok (.ldc2_w 13, 3) := by decide +kernel
theorem d_La_law_144 : decode code 144 = .ok (.land, 1) := by decide +kernel
theorem d_La_law_145 : decode code 145 = .ok (.lor, 1) := by decide +kernel
theorem d_La_law_146 : decode code 146 = .ok (.aload_n 0, 1) := by decide +kernel
theorem d_La_law_147 : decode code 147 = .ok (.iload_n 3, 1) := by decide +kernel
theorem d_La_law_148 : decode code 148 = .ok (.iconst 3, 1) := by decide +kernel
theorem d_La_law_149 : decode code 149 = .ok (.iadd, 1) := by decide +kernel
theorem d_La_law_150 : decode code 150 = .ok (.iaload, 1) := by decide +kernel
theorem d_La_law_151 : decode code 151 = .ok (.invokevirtual 19, 3) := by decide +kernel
theorem d_La_law_154 : decode code 154 = .ok (.if_icmp .eq 344, 3) := by decide +kernel
theorem d_La_law_157 : decode code 157 = .ok (.iconst 0, 1) := by decide +kernel
theorem d_La_law_158 : decode code 158 = .ok (.ireturn, 1) := by decide +kernel
theorem d_La_law_159 : decode code 159 = .ok (.aload_n 1, 1) := by decide +kernel
theorem d_La_law_160 : decode code 160 = .ok (.aload_n 0, 1) := by decide +kernel
theorem d_La_law_161 : decode code 161 = .ok (.iload_n 3, 1) := by decide +kernel
theorem d_La_law_162 : decode code 162 = .ok (.iconst 1, 1) := by decide +kernel
theorem d_La_law_163 : decode code 163 = .ok (.iadd, 1) := by decide +kernel
theorem d_La_law_164 : decode code 164 = .ok (.iaload, 1) := by decide +kernel
theorem d_La_law_165 : decode code 165 = .ok (.invokevirtual 20, 3) := by decide +kernel
theorem d_La_law_168 : decode code 168 = .ok (.aload_n 2, 1) := by decide +kernel
theorem d_La_law_169 : decode code 169 = .ok (.aload_n 0, 1) := by decide +kernel
theorem d_La_law_170 : decode code 170 = .ok (.iload_n 3, 1) := by decide +kernel
theorem d_La_law_171 : decode code 171 = .ok (.iconst 1, 1) := by decide +kernel
theorem d_La_law_172 : decode code 172 = .ok (.iadd, 1) := by decide +kernel
theorem d_La_law_173 : decode code 173 = .ok (.iaload, 1) := by decide +kernel
theorem d_La_law_174 : decode code 174 = .ok (.invokevirtual 24, 3) := by decide +kernel
theorem d_La_law_177 : decode code 177 = .ok (.if_icmp .eq 321, 3) := by decide +kernel
theorem d_La_law_180 : decode code 180 = .ok (.iconst 0, 1) := by decide +kernel
theorem d_La_law_181 : decode code 181 = .ok (.ireturn, 1) := by decide +kernel
theorem d_La_law_182 : decode code 182 = .ok (.aload_n 1, 1) := by decide +kernel
theorem d_La_law_183 : decode code 183 = .ok (.aload_n 0, 1) := by decide +kernel
theorem d_La_law_184 : decode code 184 = .ok (.iload_n 3, 1) := by decide +kernel
theorem d_La_law_185 : decode code 185 = .ok (.iconst 1, 1) := by decide +kernel
theorem d_La_law_186 : decode code 186 = .ok (.iadd, 1) := by decide +kernel
theorem d_La_law_187 : decode code 187 = .ok (.iaload, 1) := by decide +kernel
theorem d_La_law_188 : decode code 188 = .ok (.aload_n 0, 1) := by decide +kernel
theorem d_La_law_189 : decode code 189 = .ok (.iload_n 3, 1) := by decide +kernel
theorem d_La_law_190 : decode code 190 = .ok (.iconst 2, 1) := by decide +kernel
theorem d_La_law_191 : decode code 191 = .ok (.iadd, 1) := by decide +kernel
theorem d_La_law_192 : decode code 192 = .ok (.iaload, 1) := by decide +kernel
theorem d_La_law_193 : decode code 193 = .ok (.invokevirtual 25, 3) := by decide +kernel
theorem d_La_law_196 : decode code 196 = .ok (.aload_n 2, 1) := by decide +kernel
theorem d_La_law_197 : decode code 197 = .ok (.aload_n 0, 1) := by decide +kernel
theorem d_La_law_198 : decode code 198 = .ok (.iload_n 3, 1) := by decide +kernel
theorem d_La_law_199 : decode code 199 = .ok (.iconst 1, 1) := by decide +kernel
theorem d_La_law_200 : decode code 200 = .ok (.iadd, 1) := by decide +kernel
theorem d_La_law_201 : decode code 201 = .ok (.iaload, 1) := by decide +kernel
theorem d_La_law_202 : decode code 202 = .ok (.aload_n 0, 1) := by decide +kernel
theorem d_La_law_203 : decode code 203 = .ok (.iload_n 3, 1) := by decide +kernel
theorem d_La_law_204 : decode code 204 = .ok (.iconst 2, 1) := by decide +kernel
theorem d_La_law_205 : decode code 205 = .ok (.iadd, 1) := by decide +kernel
theorem d_La_law_206 : decode code 206 = .ok (.iaload, 1) := by decide +kernel
theorem d_La_law_207 : decode code 207 = .ok (.invokevirtual 29, 3) := by decide +kernel
theorem d_La_law_210 : decode code 210 = .ok (.if_icmp .eq 288, 3) := by decide +kernel
theorem d_La_law_213 : decode code 213 = .ok (.iconst 0, 1) := by decide +kernel
theorem d_La_law_214 : decode code 214 = .ok (.ireturn, 1) := by decide +kernel
theorem d_La_law_215 : decode code 215 = .ok (.aload_n 1, 1) := by decide +kernel
theorem d_La_law_216 : decode code 216 = .ok (.invokevirtual 30, 3) := by decide +kernel
theorem d_La_law_219 : decode code 219 = .ok (.aload_n 2, 1) := by decide +kernel
theorem d_La_law_220 : decode code 220 = .ok (.invokevirtual 34, 3) := by decide +kernel
theorem d_La_law_223 : decode code 223 = .ok (.if_icmp .eq 275, 3) := by decide +kernel
theorem d_La_law_226 : decode code 226 = .ok (.iconst 0, 1) := by decide +kernel
theorem d_La_law_227 : decode code 227 = .ok (.ireturn, 1) := by decide +kernel
theorem d_La_law_228 : decode code 228 = .ok (.aload_n 1, 1) := by decide +kernel
theorem d_La_law_229 : decode code 229 = .ok (.invokevirtual 35, 3) := by decide +kernel
theorem d_La_law_232 : decode code 232 = .ok (.aload_n 2, 1) := by decide +kernel
theorem d_La_law_233 : decode code 233 = .ok (.invokevirtual 38, 3) := by decide +kernel
theorem d_La_law_236 : decode code 236 = .ok (.if_icmp .eq 262, 3) := by decide +kernel
theorem d_La_law_239 : decode code 239 = .ok (.iconst 0, 1) := by decide +kernel
theorem d_La_law_240 : decode code 240 = .ok (.ireturn, 1) := by decide +kernel
theorem d_La_law_241 : decode code 241 = .ok (.aload_n 1, 1) := by decide +kernel
theorem d_La_law_242 : decode code 242 = .ok (.invokevirtual 39, 3) := by decide +kernel
theorem d_La_law_245 : decode code 245 = .ok (.aload_n 2, 1) := by decide +kernel
theorem d_La_law_246 : decode code 246 = .ok (.invokevirtual 43, 3) := by decide +kernel
theorem d_La_law_249 : decode code 249 = .ok (.if_icmp .eq 249, 3) := by decide +kernel
theorem d_La_law_252 : decode code 252 = .ok (.iconst 0, 1) := by decide +kernel
theorem d_La_law_253 : decode code 253 = .ok (.ireturn, 1) := by decide +kernel
theorem d_La_law_254 : decode code 254 = .ok (.aload_n 1, 1) := by decide +kernel
theorem d_La_law_255 : decode code 255 = .ok (.aload_n 0, 1) := by decide +kernel
theorem d_La_law_256 : decode code 256 = .ok (.iload_n 3, 1) := by decide +kernel
theorem d_La_law_257 : decode code 257 = .ok (.iconst 1, 1) := by decide +kernel
theorem d_La_law_258 : decode code 258 = .ok (.iadd, 1) := by decide +kernel
theorem d_La_law_259 : decode code 259 = .ok (.iaload, 1) := by decide +kernel
theorem d_La_law_260 : decode code 260 = .ok (.aload_n 0, 1) := by decide +kernel
theorem d_La_law_261 : decode code 261 = .ok (.iload_n 3, 1) := by decide +kernel
theorem d_La_law_262 : decode code 262 = .ok (.iconst 2, 1) := by decide +kernel
theorem d_La_law_263 : decode code 263 = .ok (.iadd, 1) := by decide +kernel
theorem d_La_law_264 : decode code 264 = .ok (.iaload, 1) := by decide +kernel
theorem d_La_law_265 : decode code 265 = .ok (.aload_n 0, 1) := by decide +kernel
theorem d_La_law_266 : decode code 266 = .ok (.iload_n 3, 1) := by decide +kernel
theorem d_La_law_267 : decode code 267 = .ok (.iconst 3, 1) := by decide +kernel
theorem d_La_law_268 : decode code 268 = .ok (.iadd, 1) := by decide +kernel
theorem d_La_law_269 : decode code 269 = .ok (.iaload, 1) := by decide +kernel
theorem d_La_law_270 : decode code 270 = .ok (.aload_n 0, 1) := by decide +kernel
theorem d_La_law_271 : decode code 271 = .ok (.iload_n 3, 1) := by decide +kernel
theorem d_La_law_272 : decode code 272 = .ok (.iconst 4, 1) := by decide +kernel
theorem d_La_law_273 : decode code 273 = .ok (.iadd, 1) := by decide +kernel
theorem d_La_law_274 : decode code 274 = .ok (.iaload, 1) := by decide +kernel
theorem d_La_law_275 : decode code 275 = .ok (.invokevirtual 44, 3) := by decide +kernel
theorem d_La_law_278 : decode code 278 = .ok (.aload_n 2, 1) := by decide +kernel
theorem d_La_law_279 : decode code 279 = .ok (.aload_n 0, 1) := by decide +kernel
theorem d_La_law_280 : decode code 280 = .ok (.iload_n 3, 1) := by decide +kernel
theorem d_La_law_281 : decode code 281 = .ok (.iconst 1, 1) := by decide +kernel
theorem d_La_law_282 : decode code 282 = .ok (.iadd, 1) := by decide +kernel
theorem d_La_law_283 : decode code 283 = .ok (.iaload, 1) := by decide +kernel
theorem d_La_law_284 : decode code 284 = .ok (.aload_n 0, 1) := by decide +kernel
theorem d_La_law_285 : decode code 285 = .ok (.iload_n 3, 1) := by decide +kernel
theorem d_La_law_286 : decode code 286 = .ok (.iconst 2, 1) := by decide +kernel
theorem d_La_law_287 : decode code 287 = .ok (.iadd, 1) := by decide +kernel
theorem d_La_law_288 : decode code 288 = .ok (.iaload, 1) := by decide +kernel
theorem d_La_law_289 : decode code 289 = .ok (.aload_n 0, 1) := by decide +kernel
theorem d_La_law_290 : decode code 290 = .ok (.iload_n 3, 1) := by decide +kernel
theorem d_La_law_291 : decode code 291 = .ok (.iconst 3, 1) := by decide +kernel
theorem d_La_law_292 : decode code 292 = .ok (.iadd, 1) := by decide +kernel
theorem d_La_law_293 : decode code 293 = .ok (.iaload, 1) := by decide +kernel
theorem d_La_law_294 : decode code 294 = .ok (.aload_n 0, 1) := by decide +kernel
theorem d_La_law_295 : decode code 295 = .ok (.iload_n 3, 1) := by decide +kernel
theorem d_La_law_296 : decode code 296 = .ok (.iconst 4, 1) := by decide +kernel
theorem d_La_law_297 : decode code 297 = .ok (.iadd, 1) := by decide +kernel
theorem d_La_law_298 : decode code 298 = .ok (.iaload, 1) := by decide +kernel
theorem d_La_law_299 : decode code 299 = .ok (.invokevirtual 48, 3) := by decide +kernel
theorem d_La_law_302 : decode code 302 = .ok (.if_icmp .eq 196, 3) := by decide +kernel
theorem d_La_law_305 : decode code 305 = .ok (.iconst 0, 1) := by decide +kernel
theorem d_La_law_306 : decode code 306 = .ok (.ireturn, 1) := by decide +kernel
theorem d_La_law_307 : decode code 307 = .ok (.aload_n 1, 1) := by decide +kernel
theorem d_La_law_308 : decode code 308 = .ok (.aload_n 0, 1) := by decide +kernel
theorem d_La_law_309 : decode code 309 = .ok (.iload_n 3, 1) := by decide +kernel
theorem d_La_law_310 : decode code 310 = .ok (.iconst 1, 1) := by decide +kernel
theorem d_La_law_311 : decode code 311 = .ok (.iadd, 1) := by decide +kernel
theorem d_La_law_312 : decode code 312 = .ok (.iaload, 1) := by decide +kernel
theorem d_La_law_313 : decode code 313 = .ok (.aload_n 0, 1) := by decide +kernel
theorem d_La_law_314 : decode code 314 = .ok (.iload_n 3, 1) := by decide +kernel
theorem d_La_law_315 : decode code 315 = .ok (.iconst 2, 1) := by decide +kernel
theorem d_La_law_316 : decode code 316 = .ok (.iadd, 1) := by decide +kernel
theorem d_La_law_317 : decode code 317 = .ok (.iaload, 1) := by decide +kernel
theorem d_La_law_318 : decode code 318 = .ok (.aload_n 0, 1) := by decide +kernel
theorem d_La_law_319 : decode code 319 = .ok (.iload_n 3, 1) := by decide +kernel
theorem d_La_law_320 : decode code 320 = .ok (.iconst 3, 1) := by decide +kernel
theorem d_La_law_321 : decode code 321 = .ok (.iadd, 1) := by decide +kernel
theorem d_La_law_322 : decode code 322 = .ok (.iaload, 1) := by decide +kernel
theorem d_La_law_323 : decode code 323 = .ok (.invokevirtual 49, 3) := by decide +kernel
theorem d_La_law_326 : decode code 326 = .ok (.aload_n 2, 1) := by decide +kernel
theorem d_La_law_327 : decode code 327 = .ok (.aload_n 0, 1) := by decide +kernel
theorem d_La_law_328 : decode code 328 = .ok (.iload_n 3, 1) := by decide +kernel
theorem d_La_law_329 : decode code 329 = .ok (.iconst 1, 1) := by decide +kernel
theorem d_La_law_330 : decode code 330 = .ok (.iadd, 1) := by decide +kernel
theorem d_La_law_331 : decode code 331 = .ok (.iaload, 1) := by decide +kernel
theorem d_La_law_332 : decode code 332 = .ok (.aload_n 0, 1) := by decide +kernel
theorem d_La_law_333 : decode code 333 = .ok (.iload_n 3, 1) := by decide +kernel
theorem d_La_law_334 : decode code 334 = .ok (.iconst 2, 1) := by decide +kernel
theorem d_La_law_335 : decode code 335 = .ok (.iadd, 1) := by decide +kernel
theorem d_La_law_336 : decode code 336 = .ok (.iaload, 1) := by decide +kernel
theorem d_La_law_337 : decode code 337 = .ok (.aload_n 0, 1) := by decide +kernel
theorem d_La_law_338 : decode code 338 = .ok (.iload_n 3, 1) := by decide +kernel
theorem d_La_law_339 : decode code 339 = .ok (.iconst 3, 1) := by decide +kernel
theorem d_La_law_340 : decode code 340 = .ok (.iadd, 1) := by decide +kernel
theorem d_La_law_341 : decode code 341 = .ok (.iaload, 1) := by decide +kernel
theorem d_La_law_342 : decode code 342 = .ok (.invokevirtual 53, 3) := by decide +kernel
theorem d_La_law_345 : decode code 345 = .ok (.if_icmp .eq 153, 3) := by decide +kernel
theorem d_La_law_348 : decode code 348 = .ok (.iconst 0, 1) := by decide +kernel
theorem d_La_law_349 : decode code 349 = .ok (.ireturn, 1) := by decide +kernel
theorem d_La_law_350 : decode code 350 = .ok (.aload_n 1, 1) := by decide +kernel
theorem d_La_law_351 : decode code 351 = .ok (.aload_n 0, 1) := by decide +kernel
theorem d_La_law_352 : decode code 352 = .ok (.iload_n 3, 1) := by decide +kernel
theorem d_La_law_353 : decode code 353 = .ok (.iconst 1, 1) := by decide +kernel
theorem d_La_law_354 : decode code 354 = .ok (.iadd, 1) := by decide +kernel
theorem d_La_law_355 : decode code 355 = .ok (.iaload, 1) := by decide +kernel
theorem d_La_law_356 : decode code 356 = .ok (.aload_n 0, 1) := by decide +kernel
theorem d_La_law_357 : decode code 357 = .ok (.iload_n 3, 1) := by decide +kernel
theorem d_La_law_358 : decode code 358 = .ok (.iconst 2, 1) := by decide +kernel
theorem d_La_law_359 : decode code 359 = .ok (.iadd, 1) := by decide +kernel
theorem d_La_law_360 : decode code 360 = .ok (.iaload, 1) := by decide +kernel
theorem d_La_law_361 : decode code 361 = .ok (.invokevirtual 54, 3) := by decide +kernel
theorem d_La_law_364 : decode code 364 = .ok (.aload_n 2, 1) := by decide +kernel
theorem d_La_law_365 : decode code 365 = .ok (.aload_n 0, 1) := by decide +kernel
theorem d_La_law_366 : decode code 366 = .ok (.iload_n 3, 1) := by decide +kernel
theorem d_La_law_367 : decode code 367 = .ok (.iconst 1, 1) := by decide +kernel
theorem d_La_law_368 : decode code 368 = .ok (.iadd, 1) := by decide +kernel
theorem d_La_law_369 : decode code 369 = .ok (.iaload, 1) := by decide +kernel
theorem d_La_law_370 : decode code 370 = .ok (.aload_n 0, 1) := by decide +kernel
theorem d_La_law_371 : decode code 371 = .ok (.iload_n 3, 1) := by decide +kernel
theorem d_La_law_372 : decode code 372 = .ok (.iconst 2, 1) := by decide +kernel
theorem d_La_law_373 : decode code 373 = .ok (.iadd, 1) := by decide +kernel
theorem d_La_law_374 : decode code 374 = .ok (.iaload, 1) := by decide +kernel
theorem d_La_law_375 : decode code 375 = .ok (.invokevirtual 58, 3) := by decide +kernel
theorem d_La_law_378 : decode code 378 = .ok (.if_icmp .eq 120, 3) := by decide +kernel
theorem d_La_law_381 : decode code 381 = .ok (.iconst 0, 1) := by decide +kernel
theorem d_La_law_382 : decode code 382 = .ok (.ireturn, 1) := by decide +kernel
theorem d_La_law_383 : decode code 383 = .ok (.aload_n 1, 1) := by decide +kernel
theorem d_La_law_384 : decode code 384 = .ok (.aload_n 0, 1) := by decide +kernel
theorem d_La_law_385 : decode code 385 = .ok (.iload_n 3, 1) := by decide +kernel
theorem d_La_law_386 : decode code 386 = .ok (.iconst 1, 1) := by decide +kernel
theorem d_La_law_387 : decode code 387 = .ok (.iadd, 1) := by decide +kernel
theorem d_La_law_388 : decode code 388 = .ok (.iaload, 1) := by decide +kernel
theorem d_La_law_389 : decode code 389 = .ok (.aload_n 0, 1) := by decide +kernel
theorem d_La_law_390 : decode code 390 = .ok (.iload_n 3, 1) := by decide +kernel
theorem d_La_law_391 : decode code 391 = .ok (.iconst 2, 1) := by decide +kernel
theorem d_La_law_392 : decode code 392 = .ok (.iadd, 1) := by decide +kernel
theorem d_La_law_393 : decode code 393 = .ok (.iaload, 1) := by decide +kernel
theorem d_La_law_394 : decode code 394 = .ok (.aload_n 0, 1) := by decide +kernel
theorem d_La_law_395 : decode code 395 = .ok (.iload_n 3, 1) := by decide +kernel
theorem d_La_law_396 : decode code 396 = .ok (.iconst 3, 1) := by decide +kernel
theorem d_La_law_397 : decode code 397 = .ok (.iadd, 1) := by decide +kernel
theorem d_La_law_398 : decode code 398 = .ok (.iaload, 1) := by decide +kernel
theorem d_La_law_399 : decode code 399 = .ok (.invokevirtual 59, 3) := by decide +kernel
theorem d_La_law_402 : decode code 402 = .ok (.aload_n 2, 1) := by decide +kernel
theorem d_La_law_403 : decode code 403 = .ok (.aload_n 0, 1) := by decide +kernel
theorem d_La_law_404 : decode code 404 = .ok (.iload_n 3, 1) := by decide +kernel
theorem d_La_law_405 : decode code 405 = .ok (.iconst 1, 1) := by decide +kernel
theorem d_La_law_406 : decode code 406 = .ok (.iadd, 1) := by decide +kernel
theorem d_La_law_407 : decode code 407 = .ok (.iaload, 1) := by decide +kernel
theorem d_La_law_408 : decode code 408 = .ok (.aload_n 0, 1) := by decide +kernel
theorem d_La_law_409 : decode code 409 = .ok (.iload_n 3, 1) := by decide +kernel
theorem d_La_law_410 : decode code 410 = .ok (.iconst 2, 1) := by decide +kernel
theorem d_La_law_411 : decode code 411 = .ok (.iadd, 1) := by decide +kernel
theorem d_La_law_412 : decode code 412 = .ok (.iaload, 1) := by decide +kernel
theorem d_La_law_413 : decode code 413 = .ok (.aload_n 0, 1) := by decide +kernel
theorem d_La_law_414 : decode code 414 = .ok (.iload_n 3, 1) := by decide +kernel
theorem d_La_law_415 : decode code 415 = .ok (.iconst 3, 1) := by decide +kernel
theorem d_La_law_416 : decode code 416 = .ok (.iadd, 1) := by decide +kernel
theorem d_La_law_417 : decode code 417 = .ok (.iaload, 1) := by decide +kernel
theorem d_La_law_418 : decode code 418 = .ok (.invokevirtual 62, 3) := by decide +kernel
theorem d_La_law_421 : decode code 421 = .ok (.if_icmp .eq 77, 3) := by decide +kernel
theorem d_La_law_424 : decode code 424 = .ok (.iconst 0, 1) := by decide +kernel
theorem d_La_law_425 : decode code 425 = .ok (.ireturn, 1) := by decide +kernel
theorem d_La_law_426 : decode code 426 = .ok (.aload_n 1, 1) := by decide +kernel
theorem d_La_law_427 : decode code 427 = .ok (.aload_n 0, 1) := by decide +kernel
theorem d_La_law_428 : decode code 428 = .ok (.iload_n 3, 1) := by decide +kernel
theorem d_La_law_429 : decode code 429 = .ok (.iconst 1, 1) := by decide +kernel
theorem d_La_law_430 : decode code 430 = .ok (.iadd, 1) := by decide +kernel
theorem d_La_law_431 : decode code 431 = .ok (.iaload, 1) := by decide +kernel
theorem d_La_law_432 : decode code 432 = .ok (.aload_n 0, 1) := by decide +kernel
theorem d_La_law_433 : decode code 433 = .ok (.iload_n 3, 1) := by decide +kernel
theorem d_La_law_434 : decode code 434 = .ok (.iconst 2, 1) := by decide +kernel
theorem d_La_law_435 : decode code 435 = .ok (.iadd, 1) := by decide +kernel
theorem d_La_law_436 : decode code 436 = .ok (.iaload, 1) := by decide +kernel
theorem d_La_law_437 : decode code 437 = .ok (.ifCond .eq 7, 3) := by decide +kernel
theorem d_La_law_440 : decode code 440 = .ok (.iconst 1, 1) := by decide +kernel
theorem d_La_law_441 : decode code 441 = .ok (.goto 4, 3) := by decide +kernel
theorem d_La_law_444 : decode code 444 = .ok (.iconst 0, 1) := by decide +kernel
theorem d_La_law_445 : decode code 445 = .ok (.invokevirtual 63, 3) := by decide +kernel
theorem d_La_law_448 : decode code 448 = .ok (.aload_n 2, 1) := by decide +kernel
theorem d_La_law_449 : decode code 449 = .ok (.aload_n 0, 1) := by decide +kernel
theorem d_La_law_450 : decode code 450 = .ok (.iload_n 3, 1) := by decide +kernel
theorem d_La_law_451 : decode code 451 = .ok (.iconst 1, 1) := by decide +kernel
theorem d_La_law_452 : decode code 452 = .ok (.iadd, 1) := by decide +kernel
theorem d_La_law_453 : decode code 453 = .ok (.iaload, 1) := by decide +kernel
theorem d_La_law_454 : decode code 454 = .ok (.aload_n 0, 1) := by decide +kernel
theorem d_La_law_455 : decode code 455 = .ok (.iload_n 3, 1) := by decide +kernel
theorem d_La_law_456 : decode code 456 = .ok (.iconst 2, 1) := by decide +kernel
theorem d_La_law_457 : decode code 457 = .ok (.iadd, 1) := by decide +kernel
theorem d_La_law_458 : decode code 458 = .ok (.iaload, 1) := by decide +kernel
theorem d_La_law_459 : decode code 459 = .ok (.ifCond .eq 7, 3) := by decide +kernel
theorem d_La_law_462 : decode code 462 = .ok (.iconst 1, 1) := by decide +kernel
theorem d_La_law_463 : decode code 463 = .ok (.goto 4, 3) := by decide +kernel
theorem d_La_law_466 : decode code 466 = .ok (.iconst 0, 1) := by decide +kernel
theorem d_La_law_467 : decode code 467 = .ok (.invokevirtual 67, 3) := by decide +kernel
theorem d_La_law_470 : decode code 470 = .ok (.if_icmp .eq 28, 3) := by decide +kernel
theorem d_La_law_473 : decode code 473 = .ok (.iconst 0, 1) := by decide +kernel
theorem d_La_law_474 : decode code 474 = .ok (.ireturn, 1) := by decide +kernel
theorem d_La_law_475 : decode code 475 = .ok (.aload_n 1, 1) := by decide +kernel
theorem d_La_law_476 : decode code 476 = .ok (.aload_n 0, 1) := by decide +kernel
theorem d_La_law_477 : decode code 477 = .ok (.iload_n 3, 1) := by decide +kernel
theorem d_La_law_478 : decode code 478 = .ok (.iconst 1, 1) := by decide +kernel
theorem d_La_law_479 : decode code 479 = .ok (.iadd, 1) := by decide +kernel
theorem d_La_law_480 : decode code 480 = .ok (.iaload, 1) := by decide +kernel
theorem d_La_law_481 : decode code 481 = .ok (.invokevirtual 68, 3) := by decide +kernel
theorem d_La_law_484 : decode code 484 = .ok (.aload_n 2, 1) := by decide +kernel
theorem d_La_law_485 : decode code 485 = .ok (.aload_n 0, 1) := by decide +kernel
theorem d_La_law_486 : decode code 486 = .ok (.iload_n 3, 1) := by decide +kernel
theorem d_La_law_487 : decode code 487 = .ok (.iconst 1, 1) := by decide +kernel
theorem d_La_law_488 : decode code 488 = .ok (.iadd, 1) := by decide +kernel
theorem d_La_law_489 : decode code 489 = .ok (.iaload, 1) := by decide +kernel
theorem d_La_law_490 : decode code 490 = .ok (.invokevirtual 72, 3) := by decide +kernel
theorem d_La_law_493 : decode code 493 = .ok (.if_icmp .eq 5, 3) := by decide +kernel
theorem d_La_law_496 : decode code 496 = .ok (.iconst 0, 1) := by decide +kernel
theorem d_La_law_497 : decode code 497 = .ok (.ireturn, 1) := by decide +kernel
theorem d_La_law_498 : decode code 498 = .ok (.iinc 3 5, 3) := by decide +kernel
theorem d_La_law_501 : decode code 501 = .ok (.goto (-483), 3) := by decide +kernel
theorem d_La_law_504 : decode code 504 = .ok (.iconst 1, 1) := by decide +kernel
theorem d_La_law_505 : decode code 505 = .ok (.ireturn, 1) := by decide +kernel
def p_La_law_18 (L : Nat) (xs : Nat → Int32) (x1 : Option Nat) (x2 : Option Nat) (kx : hM Int32) : Nat → Int32 → hM Int32
  | 0, _ => hm_fail
  | fu + 1, v3 =>
    if ((Int32.ofNat L) - 5) < v3 then (
      kx)
    else (
      hm_bind (hm_sld L xs v3) fun a3 =>
      hm_jn (
        p_La_law_18 L xs x1 x2 kx fu (v3 + 5)) fun k498 =>
      if (a3 &&& 15) = 0 then (
        hm_bind (hm_sld L xs (v3 + 1)) fun a4 =>
        hm_bind (hm_sld L xs (v3 + 2)) fun a5 =>
        hm_bind (hm_sld L xs (v3 + 3)) fun a6 =>
        hm_bind (hm_on 0 x1 (p_SB_give x1 (((Int32.toInt64 a4) <<< (Int32.toInt64 (32 : Int32) &&& 63)) ||| ((Int32.toInt64 a5) &&& 4294967295)) a6)) fun a7 =>
        hm_bind (hm_sld L xs (v3 + 1)) fun a8 =>
        hm_bind (hm_sld L xs (v3 + 2)) fun a9 =>
        hm_bind (hm_sld L xs (v3 + 3)) fun a10 =>
        hm_bind (hm_on 8 x2 (p_Mo_give x2 (((Int32.toInt64 a8) <<< (Int32.toInt64 (32 : Int32) &&& 63)) ||| ((Int32.toInt64 a9) &&& 4294967295)) a10)) fun a11 =>
        if a7 = a11 then (
          k498)
        else (
          hm_z 0))
      else (
        if (a3 &&& 15) = 1 then (
          hm_bind (hm_sld L xs (v3 + 1)) fun a12 =>
          hm_bind (hm_on 0 x1 (p_SB_cut x1 a12)) fun a13 =>
          hm_bind (hm_sld L xs (v3 + 1)) fun a14 =>
          hm_bind (hm_on 8 x2 (p_Mo_cut x2 a14)) fun a15 =>
          if a13 = a15 then (
            k498)
          else (
            hm_z 0))
        else (
          if (a3 &&& 15) = 2 then (
            hm_bind (hm_sld L xs (v3 + 1)) fun a16 =>
            hm_bind (hm_sld L xs (v3 + 2)) fun a17 =>
            hm_bind (hm_on 0 x1 (p_SB_poke x1 a16 a17)) fun a18 =>
            hm_bind (hm_sld L xs (v3 + 1)) fun a19 =>
            hm_bind (hm_sld L xs (v3 + 2)) fun a20 =>
            hm_bind (hm_on 8 x2 (p_Mo_poke x2 a19 a20)) fun a21 =>
            if a18 = a21 then (
              k498)
            else (
              hm_z 0))
          else (
            if (a3 &&& 15) = 3 then (
              hm_bind (hm_on 0 x1 (p_SB_read x1 )) fun a22 =>
              hm_bind (hm_on 8 x2 (p_Mo_read x2 )) fun a23 =>
              if a22 = a23 then (
                k498)
              else (
                hm_z 0))
            else (
              if (a3 &&& 15) = 4 then (
                hm_bind (hm_on 0 x1 (p_SB_write x1 )) fun a24 =>
                hm_bind (hm_on 8 x2 (p_Mo_write x2 )) fun a25 =>
                if a24 = a25 then (
                  k498)
                else (
                  hm_z 0))
              else (
                if (a3 &&& 15) = 5 then (
                  hm_bind (hm_on 0 x1 (p_SB_turnOver x1 )) fun a26 =>
                  hm_bind (hm_on 8 x2 (p_Mo_turnOver x2 )) fun a27 =>
                  if a26 = a27 then (
                    k498)
                  else (
                    hm_z 0))
                else (
                  if (a3 &&& 15) = 6 then (
                    hm_bind (hm_sld L xs (v3 + 1)) fun a28 =>
                    hm_bind (hm_sld L xs (v3 + 2)) fun a29 =>
                    hm_bind (hm_sld L xs (v3 + 3)) fun a30 =>
                    hm_bind (hm_sld L xs (v3 + 4)) fun a31 =>
                    hm_bind (hm_on 0 x1 (p_SB_change x1 a28 a29 a30 a31)) fun a32 =>
                    hm_bind (hm_sld L xs (v3 + 1)) fun a33 =>
                    hm_bind (hm_sld L xs (v3 + 2)) fun a34 =>
                    hm_bind (hm_sld L xs (v3 + 3)) fun a35 =>
                    hm_bind (hm_sld L xs (v3 + 4)) fun a36 =>
                    hm_bind (hm_on 8 x2 (p_Mo_change x2 a33 a34 a35 a36)) fun a37 =>
                    if a32 = a37 then (
                      k498)
                    else (
                      hm_z 0))
                  else (
                    if (a3 &&& 15) = 7 then (
                      hm_bind (hm_sld L xs (v3 + 1)) fun a38 =>
                      hm_bind (hm_sld L xs (v3 + 2)) fun a39 =>
                      hm_bind (hm_sld L xs (v3 + 3)) fun a40 =>
                      hm_bind (hm_on 0 x1 (p_SB_code x1 a38 a39 a40)) fun a41 =>
                      hm_bind (hm_sld L xs (v3 + 1)) fun a42 =>
                      hm_bind (hm_sld L xs (v3 + 2)) fun a43 =>
                      hm_bind (hm_sld L xs (v3 + 3)) fun a44 =>
                      hm_bind (hm_on 8 x2 (p_Mo_code x2 a42 a43 a44)) fun a45 =>
                      if a41 = a45 then (
                        k498)
                      else (
                        hm_z 0))
                    else (
                      if (a3 &&& 15) = 8 then (
                        hm_bind (hm_sld L xs (v3 + 1)) fun a46 =>
                        hm_bind (hm_sld L xs (v3 + 2)) fun a47 =>
                        hm_bind (hm_on 0 x1 (p_SB_function x1 a46 a47)) fun a48 =>
                        hm_bind (hm_sld L xs (v3 + 1)) fun a49 =>
                        hm_bind (hm_sld L xs (v3 + 2)) fun a50 =>
                        hm_bind (hm_on 8 x2 (p_Mo_function x2 a49 a50)) fun a51 =>
                        if a48 = a51 then (
                          k498)
                        else (
                          hm_z 0))
                      else (
                        if (a3 &&& 15) = 9 then (
                          hm_bind (hm_sld L xs (v3 + 1)) fun a52 =>
                          hm_bind (hm_sld L xs (v3 + 2)) fun a53 =>
                          hm_bind (hm_sld L xs (v3 + 3)) fun a54 =>
                          hm_bind (hm_on 0 x1 (p_SB_handler x1 a52 a53 a54)) fun a55 =>
                          hm_bind (hm_sld L xs (v3 + 1)) fun a56 =>
                          hm_bind (hm_sld L xs (v3 + 2)) fun a57 =>
                          hm_bind (hm_sld L xs (v3 + 3)) fun a58 =>
                          hm_bind (hm_on 8 x2 (p_Mo_handler x2 a56 a57 a58)) fun a59 =>
                          if a55 = a59 then (
                            k498)
                          else (
                            hm_z 0))
                        else (
                          if (a3 &&& 15) = 10 then (
                            hm_bind (hm_sld L xs (v3 + 1)) fun a60 =>
                            hm_bind (hm_sld L xs (v3 + 2)) fun a61 =>
                            hm_jn (fun (z62 : Int32) =>
                              hm_bind (hm_on 0 x1 (p_SB_byteAt x1 a60 z62)) fun a63 =>
                              hm_bind (hm_sld L xs (v3 + 1)) fun a64 =>
                              hm_bind (hm_sld L xs (v3 + 2)) fun a65 =>
                              hm_jn (fun (z66 : Int32) =>
                                hm_bind (hm_on 8 x2 (p_Mo_byteAt x2 a64 z66)) fun a67 =>
                                if a63 = a67 then (
                                  k498)
                                else (
                                  hm_z 0)) fun k467 =>
                              if a65 = 0 then (
                                k467 0)
                              else (
                                k467 1)) fun k445 =>
                            if a61 = 0 then (
                              k445 0)
                            else (
                              k445 1))
                          else (
                            if (a3 &&& 15) = 11 then (
                              hm_bind (hm_sld L xs (v3 + 1)) fun a68 =>
                              hm_bind (hm_on 0 x1 (p_SB_look x1 a68)) fun a69 =>
                              hm_bind (hm_sld L xs (v3 + 1)) fun a70 =>
                              hm_bind (hm_on 8 x2 (p_Mo_look x2 a70)) fun a71 =>
                              if a69 = a71 then (
                                k498)
                              else (
                                hm_z 0))
                            else (
                              k498)))))))))))))
def p_La_law (L : Nat) (xs : Nat → Int32) : hM Int32 :=
  hm_bind (hm_new 0 6 [vr_ none, vr_ none, vr_ none, vr_ none, vr_ none, vr_ none]) fun q1 =>
  hm_bind (p_SB_init (some q1) ) fun _ =>
  hm_bind (hm_new 8 29 [vi_ 0, vr_ none, vi_ 0, vr_ none, vi_ 0, vi_ 0, vi_ 0, vi_ 0, vi_ 0, vr_ none, vr_ none, vr_ none, vr_ none, vr_ none, vr_ none, vr_ none, vr_ none, vr_ none, vr_ none, vr_ none, vr_ none, vr_ none, vr_ none, vr_ none, vr_ none, vr_ none, vi_ 0, vi_ 0, vi_ 0]) fun q2 =>
  hm_bind (p_Mo_init (some q2) ) fun _ =>
  p_La_law_18 L xs (some q1) (some q2) (
    hm_z 1) hm_fuel 0
set_option maxHeartbeats 4000000 in
set_option maxRecDepth 100000 in
theorem ml_La_law_18 {p : Program} {l : Launch} {e : Env} {s : State} {m : MethodId} {below : List Frame} {meth : Method} {c : Code} {D : va_G} {dA : Nat → ClassId} {b0 L : Nat} {xs : Nat → Int32} {h2 : hc_H} (hC : hj_C p s m #[Value.ref b0] meth c (gg D dA) code 4 ret R_La meth.name tb) (hX : va_X b0 L xs s s.heap) (hbl : b0 < s.heap.size) (hbA : ¬ hc_A (hz_ s) b0) (hlk : meth.locks = false) (x1 : Option Nat) (x2 : Option Nat) (kx : hM Int32) (hk : ∀  (h : hc_H) (C S : Nat), kx  h = some (1, C, S, h2) → hj_J p l e room_1 s m #[Value.ref b0] below meth c (gg D dA) (hz_ s) 4 (lw_Z below #[Value.ref b0] s) C S h 504 [] []) : ∀ (fu : Nat) (v3 : Int32) (h : hc_H) (C S : Nat), p_La_law_18 L xs x1 x2 kx fu v3 h = some (1, C, S, h2) → hj_J p l e room_1 s m #[Value.ref b0] below meth c (gg D dA) (hz_ s) 4 (lw_Z below #[Value.ref b0] s) C S h 18 [(0, vr_ (some b0)), (1, vr_ x1), (2, vr_ x2), (3, vi_ v3)] [] := by
  intro fu
  induction fu with
  | zero =>
    intro v3 h C S hr
    cases hr
  | succ fu ih =>
    intro v3 h C S hr
    rw [p_La_law_18] at hr
    refine hj_iload_n hC 3 d_La_law_18 rfl rfl ?_
    refine hj_aload_n hC 0 d_La_law_19 rfl rfl ?_
    refine hj_slen hC hX hbl hbA d_La_law_20 ?_
    refine hj_iconst hC (v := 5) d_La_law_21 (by decide) ?_
    refine hj_isub hC d_La_law_22 ?_
    refine hj_icmp_gt hC 504 d_La_law_23 (by decide) hr (fun q23 hr => ?_) (fun q23 hr => ?_)
    · refine hj_sub (lv' := []) [] rfl ?_
      exact hk _ _ _ hr
    · refine hj_aload_n hC 0 d_La_law_26 rfl rfl ?_
      refine hj_iload_n hC 3 d_La_law_27 rfl rfl ?_
      refine hj_sld hC hX hbl hbA d_La_law_28 hr (fun a3 hr => ?_)
      refine hj_bipush hC (v := 15) d_La_law_29 (by decide) ?_
      refine hj_iand hC d_La_law_31 ?_
      refine hj_jn hC (K := hM Int32) (fun k => ∀  (h : hc_H) (C S : Nat), k  h = some (1, C, S, h2) → hj_J p l e room_1 s m #[Value.ref b0] below meth c (gg D dA) (hz_ s) 4 (lw_Z below #[Value.ref b0] s) C S h 498 [(0, vr_ (some b0)), (1, vr_ x1), (2, vr_ x2), (3, vi_ v3)] []) hr (fun  h C S hr => ?_) (fun k498 hk498 hr => ?_)
      · refine hj_iinc hC (lv' := [(3, vi_ (v3 + 5)), (0, vr_ (some b0)), (1, vr_ x1), (2, vr_ x2)]) 3 d_La_law_498 rfl rfl (by decide) rfl ?_
        refine hj_goto hC 18 d_La_law_501 (by decide) ?_
        refine hj_sub (lv' := [(0, vr_ (some b0)), (1, vr_ x1), (2, vr_ x2), (3, vi_ (v3 + 5))]) [1, 2, 3, 0] rfl ?_
        exact ih _ _ _ _ hr
      · by_cases s32_0 : (a3 &&& 15) = 0
        · rw [if_pos s32_0] at hr
          refine hj_tableIn hC 96 d_La_law_32 (by rw [s32_0]; decide) (by rw [s32_0]; decide) (by rw [s32_0]; rfl) (by decide) ?_
          refine hj_aload_n hC 1 d_La_law_96 rfl rfl ?_
          refine hj_aload_n hC 0 d_La_law_97 rfl rfl ?_
          refine hj_iload_n hC 3 d_La_law_98 rfl rfl ?_
          refine hj_iconst hC (v := 1) d_La_law_99 (by decide) ?_
          refine hj_iadd hC d_La_law_100 ?_
          refine hj_sld hC hX hbl hbA d_La_law_101 hr (fun a4 hr => ?_)
          refine hj_i2l hC d_La_law_102 ?_
          refine hj_bipush hC (v := 32) d_La_law_103 (by decide) ?_
          refine hj_lshl hC d_La_law_105 ?_
          refine hj_aload_n hC 0 d_La_law_106 rfl rfl ?_
          refine hj_iload_n hC 3 d_La_law_107 rfl rfl ?_
          refine hj_iconst hC (v := 2) d_La_law_108 (by decide) ?_
          refine hj_iadd hC d_La_law_109 ?_
          refine hj_sld hC hX hbl hbA d_La_law_110 hr (fun a5 hr => ?_)
          refine hj_i2l hC d_La_law_111 ?_
          refine hj_ldc2 hC (v := 4294967295) wq_514 d_La_law_112 ?_
          refine hj_land hC d_La_law_115 ?_
          refine hj_lor hC d_La_law_116 ?_
          refine hj_aload_n hC 0 d_La_law_117 rfl rfl ?_
          refine hj_iload_n hC 3 d_La_law_118 rfl rfl ?_
          refine hj_iconst hC (v := 3) d_La_law_119 (by decide) ?_
          refine hj_iadd hC d_La_law_120 ?_
          refine hj_sld hC hX hbl hbA d_La_law_121 hr (fun a6 hr => ?_)
          refine hj_callV hC hG (enc := (fun a : Int32 => some (vi_ a))) (As := [vl_ (((Int32.toInt64 a4) <<< (Int32.toInt64 (32 : Int32) &&& 63)) ||| ((Int32.toInt64 a5) &&& 4294967295)), vi_ a6]) (st := []) (fun h a C S h1 hr => m_SB_give _ _ _ h a C S h1 hr) cf_SB wq_520 wq_521 wq_522 wq_509 wq_515 yk_SB_give rfl ⟨Nat.le_of_ble_eq_true rfl, Nat.le_of_ble_eq_true rfl⟩ rfl (Nat.le_of_ble_eq_true rfl) d_La_law_122 hr (fun a7 h C S hr => ?_)
          refine hj_aload_n hC 2 d_La_law_125 rfl rfl ?_
          refine hj_aload_n hC 0 d_La_law_126 rfl rfl ?_
          refine hj_iload_n hC 3 d_La_law_127 rfl rfl ?_
          refine hj_iconst hC (v := 1) d_La_law_128 (by decide) ?_
          refine hj_iadd hC d_La_law_129 ?_
          refine hj_sld hC hX hbl hbA d_La_law_130 hr (fun a8 hr => ?_)
          refine hj_i2l hC d_La_law_131 ?_
          refine hj_bipush hC (v := 32) d_La_law_132 (by decide) ?_
          refine hj_lshl hC d_La_law_134 ?_
          refine hj_aload_n hC 0 d_La_law_135 rfl rfl ?_
          refine hj_iload_n hC 3 d_La_law_136 rfl rfl ?_
          refine hj_iconst hC (v := 2) d_La_law_137 (by decide) ?_
          refine hj_iadd hC d_La_law_138 ?_
          refine hj_sld hC hX hbl hbA d_La_law_139 hr (fun a9 hr => ?_)
          refine hj_i2l hC d_La_law_140 ?_
          refine hj_ldc2 hC (v := 4294967295) wq_514 d_La_law_141 ?_
          refine hj_land hC d_La_law_144 ?_
          refine hj_lor hC d_La_law_145 ?_
          refine hj_aload_n hC 0 d_La_law_146 rfl rfl ?_
          refine hj_iload_n hC 3 d_La_law_147 rfl rfl ?_
          refine hj_iconst hC (v := 3) d_La_law_148 (by decide) ?_
          refine hj_iadd hC d_La_law_149 ?_
          refine hj_sld hC hX hbl hbA d_La_law_150 hr (fun a10 hr => ?_)
          refine hj_callV hC hG (enc := (fun a : Int32 => some (vi_ a))) (As := [vl_ (((Int32.toInt64 a8) <<< (Int32.toInt64 (32 : Int32) &&& 63)) ||| ((Int32.toInt64 a9) &&& 4294967295)), vi_ a10]) (st := [vi_ a7]) (fun h a C S h1 hr => m_Mo_give _ _ _ h a C S h1 hr) cf_Mo wq_517 wq_518 wq_519 wq_389 wq_516 yk_Mo_give rfl ⟨Nat.le_of_ble_eq_true rfl, Nat.le_of_ble_eq_true rfl⟩ rfl (Nat.le_of_ble_eq_true rfl) d_La_law_151 hr (fun a11 h C S hr => ?_)
          refine hj_icmp_eq hC 498 d_La_law_154 (by decide) hr (fun q154 hr => ?_) (fun q154 hr => ?_)
          · exact hk498 _ _ _ hr
          · refine hj_iconst hC (v := 0) d_La_law_157 (by decide) ?_
            exact hj_lawret hC hlk d_La_law_158 hr
        · rw [if_neg s32_0] at hr
          by_cases s32_1 : (a3 &&& 15) = 1
          · rw [if_pos s32_1] at hr
            refine hj_tableIn hC 159 d_La_law_32 (by rw [s32_1]; decide) (by rw [s32_1]; decide) (by rw [s32_1]; rfl) (by decide) ?_
            refine hj_aload_n hC 1 d_La_law_159 rfl rfl ?_
            refine hj_aload_n hC 0 d_La_law_160 rfl rfl ?_
            refine hj_iload_n hC 3 d_La_law_161 rfl rfl ?_
            refine hj_iconst hC (v := 1) d_La_law_162 (by decide) ?_
            refine hj_iadd hC d_La_law_163 ?_
            refine hj_sld hC hX hbl hbA d_La_law_164 hr (fun a12 hr => ?_)
            refine hj_callV hC hG (enc := (fun a : Int32 => some (vi_ a))) (As := [vi_ a12]) (st := []) (fun h a C S h1 hr => m_SB_cut _ _ h a C S h1 hr) cf_SB wq_528 wq_529 wq_530 wq_509 wq_523 yk_SB_cut rfl ⟨Nat.le_of_ble_eq_true rfl, Nat.le_of_ble_eq_true rfl⟩ rfl (Nat.le_of_ble_eq_true rfl) d_La_law_165 hr (fun a13 h C S hr => ?_)
            refine hj_aload_n hC 2 d_La_law_168 rfl rfl ?_
            refine hj_aload_n hC 0 d_La_law_169 rfl rfl ?_
            refine hj_iload_n hC 3 d_La_law_170 rfl rfl ?_
            refine hj_iconst hC (v := 1) d_La_law_171 (by decide) ?_
            refine hj_iadd hC d_La_law_172 ?_
            refine hj_sld hC hX hbl hbA d_La_law_173 hr (fun a14 hr => ?_)
            refine hj_callV hC hG (enc := (fun a : Int32 => some (vi_ a))) (As := [vi_ a14]) (st := [vi_ a13]) (fun h a C S h1 hr => m_Mo_cut _ _ h a C S h1 hr) cf_Mo wq_525 wq_526 wq_527 wq_389 wq_524 yk_Mo_cut rfl ⟨Nat.le_of_ble_eq_true rfl, Nat.le_of_ble_eq_true rfl⟩ rfl (Nat.le_of_ble_eq_true rfl) d_La_law_174 hr (fun a15 h C S hr => ?_)
            refine hj_icmp_eq hC 498 d_La_law_177 (by decide) hr (fun q177 hr => ?_) (fun q177 hr => ?_)
            · exact hk498 _ _ _ hr
            · refine hj_iconst hC (v := 0) d_La_law_180 (by decide) ?_
              exact hj_lawret hC hlk d_La_law_181 hr
          · rw [if_neg s32_1] at hr
            by_cases s32_2 : (a3 &&& 15) = 2
            · rw [if_pos s32_2] at hr
              refine hj_tableIn hC 182 d_La_law_32 (by rw [s32_2]; decide) (by rw [s32_2]; decide) (by rw [s32_2]; rfl) (by decide) ?_
              refine hj_aload_n hC 1 d_La_law_182 rfl rfl ?_
              refine hj_aload_n hC 0 d_La_law_183 rfl rfl ?_
              refine hj_iload_n hC 3 d_La_law_184 rfl rfl ?_
              refine hj_iconst hC (v := 1) d_La_law_185 (by decide) ?_
              refine hj_iadd hC d_La_law_186 ?_
              refine hj_sld hC hX hbl hbA d_La_law_187 hr (fun a16 hr => ?_)
              refine hj_aload_n hC 0 d_La_law_188 rfl rfl ?_
              refine hj_iload_n hC 3 d_La_law_189 rfl rfl ?_
              refine hj_iconst hC (v := 2) d_La_law_190 (by decide) ?_
              refine hj_iadd hC d_La_law_191 ?_
              refine hj_sld hC hX hbl hbA d_La_law_192 hr (fun a17 hr => ?_)
              refine hj_callV hC hG (enc := (fun a : Int32 => some (vi_ a))) (As := [vi_ a16, vi_ a17]) (st := []) (fun h a C S h1 hr => m_SB_poke _ _ _ h a C S h1 hr) cf_SB wq_536 wq_537 wq_538 wq_509 wq_531 yk_SB_poke rfl ⟨Nat.le_of_ble_eq_true rfl, Nat.le_of_ble_eq_true rfl⟩ rfl (Nat.le_of_ble_eq_true rfl) d_La_law_193 hr (fun a18 h C S hr => ?_)
              refine hj_aload_n hC 2 d_La_law_196 rfl rfl ?_
              refine hj_aload_n hC 0 d_La_law_197 rfl rfl ?_
              refine hj_iload_n hC 3 d_La_law_198 rfl rfl ?_
              refine hj_iconst hC (v := 1) d_La_law_199 (by decide) ?_
              refine hj_iadd hC d_La_law_200 ?_
              refine hj_sld hC hX hbl hbA d_La_law_201 hr (fun a19 hr => ?_)
              refine hj_aload_n hC 0 d_La_law_202 rfl rfl ?_
              refine hj_iload_n hC 3 d_La_law_203 rfl rfl ?_
              refine hj_iconst hC (v := 2) d_La_law_204 (by decide) ?_
              refine hj_iadd hC d_La_law_205 ?_
              refine hj_sld hC hX hbl hbA d_La_law_206 hr (fun a20 hr => ?_)
              refine hj_callV hC hG (enc := (fun a : Int32 => some (vi_ a))) (As := [vi_ a19, vi_ a20]) (st := [vi_ a18]) (fun h a C S h1 hr => m_Mo_poke _ _ _ h a C S h1 hr) cf_Mo wq_533 wq_534 wq_535 wq_389 wq_532 yk_Mo_poke rfl ⟨Nat.le_of_ble_eq_true rfl, Nat.le_of_ble_eq_true rfl⟩ rfl (Nat.le_of_ble_eq_true rfl) d_La_law_207 hr (fun a21 h C S hr => ?_)
              refine hj_icmp_eq hC 498 d_La_law_210 (by decide) hr (fun q210 hr => ?_) (fun q210 hr => ?_)
              · exact hk498 _ _ _ hr
              · refine hj_iconst hC (v := 0) d_La_law_213 (by decide) ?_
                exact hj_lawret hC hlk d_La_law_214 hr
            · rw [if_neg s32_2] at hr
              by_cases s32_3 : (a3 &&& 15) = 3
              · rw [if_pos s32_3] at hr
                refine hj_tableIn hC 215 d_La_law_32 (by rw [s32_3]; decide) (by rw [s32_3]; decide) (by rw [s32_3]; rfl) (by decide) ?_
                refine hj_aload_n hC 1 d_La_law_215 rfl rfl ?_
                refine hj_callV hC hG (enc := (fun a : Int32 => some (vi_ a))) (As := []) (st := []) (fun h a C S h1 hr => m_SB_read _  h a C S h1 hr) cf_SB wq_544 wq_545 wq_546 wq_509 wq_539 yk_SB_read rfl ⟨Nat.le_of_ble_eq_true rfl, Nat.le_of_ble_eq_true rfl⟩ rfl (Nat.le_of_ble_eq_true rfl) d_La_law_216 hr (fun a22 h C S hr => ?_)
                refine hj_aload_n hC 2 d_La_law_219 rfl rfl ?_
                refine hj_callV hC hG (enc := (fun a : Int32 => some (vi_ a))) (As := []) (st := [vi_ a22]) (fun h a C S h1 hr => m_Mo_read _  h a C S h1 hr) cf_Mo wq_541 wq_542 wq_543 wq_389 wq_540 yk_Mo_read rfl ⟨Nat.le_of_ble_eq_true rfl, Nat.le_of_ble_eq_true rfl⟩ rfl (Nat.le_of_ble_eq_true rfl) d_La_law_220 hr (fun a23 h C S hr => ?_)
                refine hj_icmp_eq hC 498 d_La_law_223 (by decide) hr (fun q223 hr => ?_) (fun q223 hr => ?_)
                · exact hk498 _ _ _ hr
                · refine hj_iconst hC (v := 0) d_La_law_226 (by decide) ?_
                  exact hj_lawret hC hlk d_La_law_227 hr
              · rw [if_neg s32_3] at hr
                by_cases s32_4 : (a3 &&& 15) = 4
                · rw [if_pos s32_4] at hr
                  refine hj_tableIn hC 228 d_La_law_32 (by rw [s32_4]; decide) (by rw [s32_4]; decide) (by rw [s32_4]; rfl) (by decide) ?_
                  refine hj_aload_n hC 1 d_La_law_228 rfl rfl ?_
                  refine hj_callV hC hG (enc := (fun a : Int32 => some (vi_ a))) (As := []) (st := []) (fun h a C S h1 hr => m_SB_write _  h a C S h1 hr) cf_SB wq_552 wq_553 wq_554 wq_509 wq_547 yk_SB_write rfl ⟨Nat.le_of_ble_eq_true rfl, Nat.le_of_ble_eq_true rfl⟩ rfl (Nat.le_of_ble_eq_true rfl) d_La_law_229 hr (fun a24 h C S hr => ?_)
                  refine hj_aload_n hC 2 d_La_law_232 rfl rfl ?_
                  refine hj_callV hC hG (enc := (fun a : Int32 => some (vi_ a))) (As := []) (st := [vi_ a24]) (fun h a C S h1 hr => m_Mo_write _  h a C S h1 hr) cf_Mo wq_549 wq_550 wq_551 wq_389 wq_548 yk_Mo_write rfl ⟨Nat.le_of_ble_eq_true rfl, Nat.le_of_ble_eq_true rfl⟩ rfl (Nat.le_of_ble_eq_true rfl) d_La_law_233 hr (fun a25 h C S hr => ?_)
                  refine hj_icmp_eq hC 498 d_La_law_236 (by decide) hr (fun q236 hr => ?_) (fun q236 hr => ?_)
                  · exact hk498 _ _ _ hr
                  · refine hj_iconst hC (v := 0) d_La_law_239 (by decide) ?_
                    exact hj_lawret hC hlk d_La_law_240 hr
                · rw [if_neg s32_4] at hr
                  by_cases s32_5 : (a3 &&& 15) = 5
                  · rw [if_pos s32_5] at hr
                    refine hj_tableIn hC 241 d_La_law_32 (by rw [s32_5]; decide) (by rw [s32_5]; decide) (by rw [s32_5]; rfl) (by decide) ?_
                    refine hj_aload_n hC 1 d_La_law_241 rfl rfl ?_
                    refine hj_callV hC hG (enc := (fun a : Int32 => some (vi_ a))) (As := []) (st := []) (fun h a C S h1 hr => m_SB_turnOver _  h a C S h1 hr) cf_SB wq_560 wq_561 wq_562 wq_509 wq_555 yk_SB_turnOver rfl ⟨Nat.le_of_ble_eq_true rfl, Nat.le_of_ble_eq_true rfl⟩ rfl (Nat.le_of_ble_eq_true rfl) d_La_law_242 hr (fun a26 h C S hr => ?_)
                    refine hj_aload_n hC 2 d_La_law_245 rfl rfl ?_
                    refine hj_callV hC hG (enc := (fun a : Int32 => some (vi_ a))) (As := []) (st := [vi_ a26]) (fun h a C S h1 hr => m_Mo_turnOver _  h a C S h1 hr) cf_Mo wq_557 wq_558 wq_559 wq_389 wq_556 yk_Mo_turnOver rfl ⟨Nat.le_of_ble_eq_true rfl, Nat.le_of_ble_eq_true rfl⟩ rfl (Nat.le_of_ble_eq_true rfl) d_La_law_246 hr (fun a27 h C S hr => ?_)
                    refine hj_icmp_eq hC 498 d_La_law_249 (by decide) hr (fun q249 hr => ?_) (fun q249 hr => ?_)
                    · exact hk498 _ _ _ hr
                    · refine hj_iconst hC (v := 0) d_La_law_252 (by decide) ?_
                      exact hj_lawret hC hlk d_La_law_253 hr
                  · rw [if_neg s32_5] at hr
                    by_cases s32_6 : (a3 &&& 15) = 6
                    · rw [if_pos s32_6] at hr
                      refine hj_tableIn hC 254 d_La_law_32 (by rw [s32_6]; decide) (by rw [s32_6]; decide) (by rw [s32_6]; rfl) (by decide) ?_
                      refine hj_aload_n hC 1 d_La_law_254 rfl rfl ?_
                      refine hj_aload_n hC 0 d_La_law_255 rfl rfl ?_
                      refine hj_iload_n hC 3 d_La_law_256 rfl rfl ?_
                      refine hj_iconst hC (v := 1) d_La_law_257 (by decide) ?_
                      refine hj_iadd hC d_La_law_258 ?_
                      refine hj_sld hC hX hbl hbA d_La_law_259 hr (fun a28 hr => ?_)
                      refine hj_aload_n hC 0 d_La_law_260 rfl rfl ?_
                      refine hj_iload_n hC 3 d_La_law_261 rfl rfl ?_
                      refine hj_iconst hC (v := 2) d_La_law_262 (by decide) ?_
                      refine hj_iadd hC d_La_law_263 ?_
                      refine hj_sld hC hX hbl hbA d_La_law_264 hr (fun a29 hr => ?_)
                      refine hj_aload_n hC 0 d_La_law_265 rfl rfl ?_
                      refine hj_iload_n hC 3 d_La_law_266 rfl rfl ?_
                      refine hj_iconst hC (v := 3) d_La_law_267 (by decide) ?_
                      refine hj_iadd hC d_La_law_268 ?_
                      refine hj_sld hC hX hbl hbA d_La_law_269 hr (fun a30 hr => ?_)
                      refine hj_aload_n hC 0 d_La_law_270 rfl rfl ?_
                      refine hj_iload_n hC 3 d_La_law_271 rfl rfl ?_
                      refine hj_iconst hC (v := 4) d_La_law_272 (by decide) ?_
                      refine hj_iadd hC d_La_law_273 ?_
                      refine hj_sld hC hX hbl hbA d_La_law_274 hr (fun a31 hr => ?_)
                      refine hj_callV hC hG (enc := (fun a : Int32 => some (vi_ a))) (As := [vi_ a28, vi_ a29, vi_ a30, vi_ a31]) (st := []) (fun h a C S h1 hr => m_SB_change _ _ _ _ _ h a C S h1 hr) cf_SB wq_568 wq_569 wq_570 wq_509 wq_563 yk_SB_change rfl ⟨Nat.le_of_ble_eq_true rfl, Nat.le_of_ble_eq_true rfl⟩ rfl (Nat.le_of_ble_eq_true rfl) d_La_law_275 hr (fun a32 h C S hr => ?_)
                      refine hj_aload_n hC 2 d_La_law_278 rfl rfl ?_
                      refine hj_aload_n hC 0 d_La_law_279 rfl rfl ?_
                      refine hj_iload_n hC 3 d_La_law_280 rfl rfl ?_
                      refine hj_iconst hC (v := 1) d_La_law_281 (by decide) ?_
                      refine hj_iadd hC d_La_law_282 ?_
                      refine hj_sld hC hX hbl hbA d_La_law_283 hr (fun a33 hr => ?_)
                      refine hj_aload_n hC 0 d_La_law_284 rfl rfl ?_
                      refine hj_iload_n hC 3 d_La_law_285 rfl rfl ?_
                      refine hj_iconst hC (v := 2) d_La_law_286 (by decide) ?_
                      refine hj_iadd hC d_La_law_287 ?_
                      refine hj_sld hC hX hbl hbA d_La_law_288 hr (fun a34 hr => ?_)
                      refine hj_aload_n hC 0 d_La_law_289 rfl rfl ?_
                      refine hj_iload_n hC 3 d_La_law_290 rfl rfl ?_
                      refine hj_iconst hC (v := 3) d_La_law_291 (by decide) ?_
                      refine hj_iadd hC d_La_law_292 ?_
                      refine hj_sld hC hX hbl hbA d_La_law_293 hr (fun a35 hr => ?_)
                      refine hj_aload_n hC 0 d_La_law_294 rfl rfl ?_
                      refine hj_iload_n hC 3 d_La_law_295 rfl rfl ?_
                      refine hj_iconst hC (v := 4) d_La_law_296 (by decide) ?_
                      refine hj_iadd hC d_La_law_297 ?_
                      refine hj_sld hC hX hbl hbA d_La_law_298 hr (fun a36 hr => ?_)
                      refine hj_callV hC hG (enc := (fun a : Int32 => some (vi_ a))) (As := [vi_ a33, vi_ a34, vi_ a35, vi_ a36]) (st := [vi_ a32]) (fun h a C S h1 hr => m_Mo_change _ _ _ _ _ h a C S h1 hr) cf_Mo wq_565 wq_566 wq_567 wq_389 wq_564 yk_Mo_change rfl ⟨Nat.le_of_ble_eq_true rfl, Nat.le_of_ble_eq_true rfl⟩ rfl (Nat.le_of_ble_eq_true rfl) d_La_law_299 hr (fun a37 h C S hr => ?_)
                      refine hj_icmp_eq hC 498 d_La_law_302 (by decide) hr (fun q302 hr => ?_) (fun q302 hr => ?_)
                      · exact hk498 _ _ _ hr
                      · refine hj_iconst hC (v := 0) d_La_law_305 (by decide) ?_
                        exact hj_lawret hC hlk d_La_law_306 hr
                    · rw [if_neg s32_6] at hr
                      by_cases s32_7 : (a3 &&& 15) = 7
                      · rw [if_pos s32_7] at hr
                        refine hj_tableIn hC 307 d_La_law_32 (by rw [s32_7]; decide) (by rw [s32_7]; decide) (by rw [s32_7]; rfl) (by decide) ?_
                        refine hj_aload_n hC 1 d_La_law_307 rfl rfl ?_
                        refine hj_aload_n hC 0 d_La_law_308 rfl rfl ?_
                        refine hj_iload_n hC 3 d_La_law_309 rfl rfl ?_
                        refine hj_iconst hC (v := 1) d_La_law_310 (by decide) ?_
                        refine hj_iadd hC d_La_law_311 ?_
                        refine hj_sld hC hX hbl hbA d_La_law_312 hr (fun a38 hr => ?_)
                        refine hj_aload_n hC 0 d_La_law_313 rfl rfl ?_
                        refine hj_iload_n hC 3 d_La_law_314 rfl rfl ?_
                        refine hj_iconst hC (v := 2) d_La_law_315 (by decide) ?_
                        refine hj_iadd hC d_La_law_316 ?_
                        refine hj_sld hC hX hbl hbA d_La_law_317 hr (fun a39 hr => ?_)
                        refine hj_aload_n hC 0 d_La_law_318 rfl rfl ?_
                        refine hj_iload_n hC 3 d_La_law_319 rfl rfl ?_
                        refine hj_iconst hC (v := 3) d_La_law_320 (by decide) ?_
                        refine hj_iadd hC d_La_law_321 ?_
                        refine hj_sld hC hX hbl hbA d_La_law_322 hr (fun a40 hr => ?_)
                        refine hj_callV hC hG (enc := (fun a : Int32 => some (vi_ a))) (As := [vi_ a38, vi_ a39, vi_ a40]) (st := []) (fun h a C S h1 hr => m_SB_code _ _ _ _ h a C S h1 hr) cf_SB wq_576 wq_577 wq_578 wq_509 wq_571 yk_SB_code rfl ⟨Nat.le_of_ble_eq_true rfl, Nat.le_of_ble_eq_true rfl⟩ rfl (Nat.le_of_ble_eq_true rfl) d_La_law_323 hr (fun a41 h C S hr => ?_)
                        refine hj_aload_n hC 2 d_La_law_326 rfl rfl ?_
                        refine hj_aload_n hC 0 d_La_law_327 rfl rfl ?_
                        refine hj_iload_n hC 3 d_La_law_328 rfl rfl ?_
                        refine hj_iconst hC (v := 1) d_La_law_329 (by decide) ?_
                        refine hj_iadd hC d_La_law_330 ?_
                        refine hj_sld hC hX hbl hbA d_La_law_331 hr (fun a42 hr => ?_)
                        refine hj_aload_n hC 0 d_La_law_332 rfl rfl ?_
                        refine hj_iload_n hC 3 d_La_law_333 rfl rfl ?_
                        refine hj_iconst hC (v := 2) d_La_law_334 (by decide) ?_
                        refine hj_iadd hC d_La_law_335 ?_
                        refine hj_sld hC hX hbl hbA d_La_law_336 hr (fun a43 hr => ?_)
                        refine hj_aload_n hC 0 d_La_law_337 rfl rfl ?_
                        refine hj_iload_n hC 3 d_La_law_338 rfl rfl ?_
                        refine hj_iconst hC (v := 3) d_La_law_339 (by decide) ?_
                        refine hj_iadd hC d_La_law_340 ?_
                        refine hj_sld hC hX hbl hbA d_La_law_341 hr (fun a44 hr => ?_)
                        refine hj_callV hC hG (enc := (fun a : Int32 => some (vi_ a))) (As := [vi_ a42, vi_ a43, vi_ a44]) (st := [vi_ a41]) (fun h a C S h1 hr => m_Mo_code _ _ _ _ h a C S h1 hr) cf_Mo wq_573 wq_574 wq_575 wq_389 wq_572 yk_Mo_code rfl ⟨Nat.le_of_ble_eq_true rfl, Nat.le_of_ble_eq_true rfl⟩ rfl (Nat.le_of_ble_eq_true rfl) d_La_law_342 hr (fun a45 h C S hr => ?_)
                        refine hj_icmp_eq hC 498 d_La_law_345 (by decide) hr (fun q345 hr => ?_) (fun q345 hr => ?_)
                        · exact hk498 _ _ _ hr
                        · refine hj_iconst hC (v := 0) d_La_law_348 (by decide) ?_
                          exact hj_lawret hC hlk d_La_law_349 hr
                      · rw [if_neg s32_7] at hr
                        by_cases s32_8 : (a3 &&& 15) = 8
                        · rw [if_pos s32_8] at hr
                          refine hj_tableIn hC 350 d_La_law_32 (by rw [s32_8]; decide) (by rw [s32_8]; decide) (by rw [s32_8]; rfl) (by decide) ?_
                          refine hj_aload_n hC 1 d_La_law_350 rfl rfl ?_
                          refine hj_aload_n hC 0 d_La_law_351 rfl rfl ?_
                          refine hj_iload_n hC 3 d_La_law_352 rfl rfl ?_
                          refine hj_iconst hC (v := 1) d_La_law_353 (by decide) ?_
                          refine hj_iadd hC d_La_law_354 ?_
                          refine hj_sld hC hX hbl hbA d_La_law_355 hr (fun a46 hr => ?_)
                          refine hj_aload_n hC 0 d_La_law_356 rfl rfl ?_
                          refine hj_iload_n hC 3 d_La_law_357 rfl rfl ?_
                          refine hj_iconst hC (v := 2) d_La_law_358 (by decide) ?_
                          refine hj_iadd hC d_La_law_359 ?_
                          refine hj_sld hC hX hbl hbA d_La_law_360 hr (fun a47 hr => ?_)
                          refine hj_callV hC hG (enc := (fun a : Int32 => some (vi_ a))) (As := [vi_ a46, vi_ a47]) (st := []) (fun h a C S h1 hr => m_SB_function _ _ _ h a C S h1 hr) cf_SB wq_584 wq_585 wq_586 wq_509 wq_579 yk_SB_function rfl ⟨Nat.le_of_ble_eq_true rfl, Nat.le_of_ble_eq_true rfl⟩ rfl (Nat.le_of_ble_eq_true rfl) d_La_law_361 hr (fun a48 h C S hr => ?_)
                          refine hj_aload_n hC 2 d_La_law_364 rfl rfl ?_
                          refine hj_aload_n hC 0 d_La_law_365 rfl rfl ?_
                          refine hj_iload_n hC 3 d_La_law_366 rfl rfl ?_
                          refine hj_iconst hC (v := 1) d_La_law_367 (by decide) ?_
                          refine hj_iadd hC d_La_law_368 ?_
                          refine hj_sld hC hX hbl hbA d_La_law_369 hr (fun a49 hr => ?_)
                          refine hj_aload_n hC 0 d_La_law_370 rfl rfl ?_
                          refine hj_iload_n hC 3 d_La_law_371 rfl rfl ?_
                          refine hj_iconst hC (v := 2) d_La_law_372 (by decide) ?_
                          refine hj_iadd hC d_La_law_373 ?_
                          refine hj_sld hC hX hbl hbA d_La_law_374 hr (fun a50 hr => ?_)
                          refine hj_callV hC hG (enc := (fun a : Int32 => some (vi_ a))) (As := [vi_ a49, vi_ a50]) (st := [vi_ a48]) (fun h a C S h1 hr => m_Mo_function _ _ _ h a C S h1 hr) cf_Mo wq_581 wq_582 wq_583 wq_389 wq_580 yk_Mo_function rfl ⟨Nat.le_of_ble_eq_true rfl, Nat.le_of_ble_eq_true rfl⟩ rfl (Nat.le_of_ble_eq_true rfl) d_La_law_375 hr (fun a51 h C S hr => ?_)
                          refine hj_icmp_eq hC 498 d_La_law_378 (by decide) hr (fun q378 hr => ?_) (fun q378 hr => ?_)
                          · exact hk498 _ _ _ hr
                          · refine hj_iconst hC (v := 0) d_La_law_381 (by decide) ?_
                            exact hj_lawret hC hlk d_La_law_382 hr
                        · rw [if_neg s32_8] at hr
                          by_cases s32_9 : (a3 &&& 15) = 9
                          · rw [if_pos s32_9] at hr
                            refine hj_tableIn hC 383 d_La_law_32 (by rw [s32_9]; decide) (by rw [s32_9]; decide) (by rw [s32_9]; rfl) (by decide) ?_
                            refine hj_aload_n hC 1 d_La_law_383 rfl rfl ?_
                            refine hj_aload_n hC 0 d_La_law_384 rfl rfl ?_
                            refine hj_iload_n hC 3 d_La_law_385 rfl rfl ?_
                            refine hj_iconst hC (v := 1) d_La_law_386 (by decide) ?_
                            refine hj_iadd hC d_La_law_387 ?_
                            refine hj_sld hC hX hbl hbA d_La_law_388 hr (fun a52 hr => ?_)
                            refine hj_aload_n hC 0 d_La_law_389 rfl rfl ?_
                            refine hj_iload_n hC 3 d_La_law_390 rfl rfl ?_
                            refine hj_iconst hC (v := 2) d_La_law_391 (by decide) ?_
                            refine hj_iadd hC d_La_law_392 ?_
                            refine hj_sld hC hX hbl hbA d_La_law_393 hr (fun a53 hr => ?_)
                            refine hj_aload_n hC 0 d_La_law_394 rfl rfl ?_
                            refine hj_iload_n hC 3 d_La_law_395 rfl rfl ?_
                            refine hj_iconst hC (v := 3) d_La_law_396 (by decide) ?_
                            refine hj_iadd hC d_La_law_397 ?_
                            refine hj_sld hC hX hbl hbA d_La_law_398 hr (fun a54 hr => ?_)
                            refine hj_callV hC hG (enc := (fun a : Int32 => some (vi_ a))) (As := [vi_ a52, vi_ a53, vi_ a54]) (st := []) (fun h a C S h1 hr => m_SB_handler _ _ _ _ h a C S h1 hr) cf_SB wq_592 wq_593 wq_594 wq_509 wq_587 yk_SB_handler rfl ⟨Nat.le_of_ble_eq_true rfl, Nat.le_of_ble_eq_true rfl⟩ rfl (Nat.le_of_ble_eq_true rfl) d_La_law_399 hr (fun a55 h C S hr => ?_)
                            refine hj_aload_n hC 2 d_La_law_402 rfl rfl ?_
                            refine hj_aload_n hC 0 d_La_law_403 rfl rfl ?_
                            refine hj_iload_n hC 3 d_La_law_404 rfl rfl ?_
                            refine hj_iconst hC (v := 1) d_La_law_405 (by decide) ?_
                            refine hj_iadd hC d_La_law_406 ?_
                            refine hj_sld hC hX hbl hbA d_La_law_407 hr (fun a56 hr => ?_)
                            refine hj_aload_n hC 0 d_La_law_408 rfl rfl ?_
                            refine hj_iload_n hC 3 d_La_law_409 rfl rfl ?_
                            refine hj_iconst hC (v := 2) d_La_law_410 (by decide) ?_
                            refine hj_iadd hC d_La_law_411 ?_
                            refine hj_sld hC hX hbl hbA d_La_law_412 hr (fun a57 hr => ?_)
                            refine hj_aload_n hC 0 d_La_law_413 rfl rfl ?_
                            refine hj_iload_n hC 3 d_La_law_414 rfl rfl ?_
                            refine hj_iconst hC (v := 3) d_La_law_415 (by decide) ?_
                            refine hj_iadd hC d_La_law_416 ?_
                            refine hj_sld hC hX hbl hbA d_La_law_417 hr (fun a58 hr => ?_)
                            refine hj_callV hC hG (enc := (fun a : Int32 => some (vi_ a))) (As := [vi_ a56, vi_ a57, vi_ a58]) (st := [vi_ a55]) (fun h a C S h1 hr => m_Mo_handler _ _ _ _ h a C S h1 hr) cf_Mo wq_589 wq_590 wq_591 wq_389 wq_588 yk_Mo_handler rfl ⟨Nat.le_of_ble_eq_true rfl, Nat.le_of_ble_eq_true rfl⟩ rfl (Nat.le_of_ble_eq_true rfl) d_La_law_418 hr (fun a59 h C S hr => ?_)
                            refine hj_icmp_eq hC 498 d_La_law_421 (by decide) hr (fun q421 hr => ?_) (fun q421 hr => ?_)
                            · exact hk498 _ _ _ hr
                            · refine hj_iconst hC (v := 0) d_La_law_424 (by decide) ?_
                              exact hj_lawret hC hlk d_La_law_425 hr
                          · rw [if_neg s32_9] at hr
                            by_cases s32_10 : (a3 &&& 15) = 10
                            · rw [if_pos s32_10] at hr
                              refine hj_tableIn hC 426 d_La_law_32 (by rw [s32_10]; decide) (by rw [s32_10]; decide) (by rw [s32_10]; rfl) (by decide) ?_
                              refine hj_aload_n hC 1 d_La_law_426 rfl rfl ?_
                              refine hj_aload_n hC 0 d_La_law_427 rfl rfl ?_
                              refine hj_iload_n hC 3 d_La_law_428 rfl rfl ?_
                              refine hj_iconst hC (v := 1) d_La_law_429 (by decide) ?_
                              refine hj_iadd hC d_La_law_430 ?_
                              refine hj_sld hC hX hbl hbA d_La_law_431 hr (fun a60 hr => ?_)
                              refine hj_aload_n hC 0 d_La_law_432 rfl rfl ?_
                              refine hj_iload_n hC 3 d_La_law_433 rfl rfl ?_
                              refine hj_iconst hC (v := 2) d_La_law_434 (by decide) ?_
                              refine hj_iadd hC d_La_law_435 ?_
                              refine hj_sld hC hX hbl hbA d_La_law_436 hr (fun a61 hr => ?_)
                              refine hj_jn hC (K := Int32 → hM Int32) (fun k => ∀ (z62 : Int32) (h : hc_H) (C S : Nat), k z62 h = some (1, C, S, h2) → hj_J p l e room_1 s m #[Value.ref b0] below meth c (gg D dA) (hz_ s) 4 (lw_Z below #[Value.ref b0] s) C S h 445 [(0, vr_ (some b0)), (1, vr_ x1), (2, vr_ x2), (3, vi_ v3)] [vi_ z62, vi_ a60, vr_ x1]) hr (fun z62 h C S hr => ?_) (fun k445 hk445 hr => ?_)
                              · refine hj_callV hC hG (enc := (fun a : Int32 => some (vi_ a))) (As := [vi_ a60, vi_ z62]) (st := []) (fun h a C S h1 hr => m_SB_byteAt _ _ _ h a C S h1 hr) cf_SB wq_600 wq_601 wq_602 wq_509 wq_595 yk_SB_byteAt rfl ⟨Nat.le_of_ble_eq_true rfl, Nat.le_of_ble_eq_true rfl⟩ rfl (Nat.le_of_ble_eq_true rfl) d_La_law_445 hr (fun a63 h C S hr => ?_)
                                refine hj_aload_n hC 2 d_La_law_448 rfl rfl ?_
                                refine hj_aload_n hC 0 d_La_law_449 rfl rfl ?_
                                refine hj_iload_n hC 3 d_La_law_450 rfl rfl ?_
                                refine hj_iconst hC (v := 1) d_La_law_451 (by decide) ?_
                                refine hj_iadd hC d_La_law_452 ?_
                                refine hj_sld hC hX hbl hbA d_La_law_453 hr (fun a64 hr => ?_)
                                refine hj_aload_n hC 0 d_La_law_454 rfl rfl ?_
                                refine hj_iload_n hC 3 d_La_law_455 rfl rfl ?_
                                refine hj_iconst hC (v := 2) d_La_law_456 (by decide) ?_
                                refine hj_iadd hC d_La_law_457 ?_
                                refine hj_sld hC hX hbl hbA d_La_law_458 hr (fun a65 hr => ?_)
                                refine hj_jn hC (K := Int32 → hM Int32) (fun k => ∀ (z66 : Int32) (h : hc_H) (C S : Nat), k z66 h = some (1, C, S, h2) → hj_J p l e room_1 s m #[Value.ref b0] below meth c (gg D dA) (hz_ s) 4 (lw_Z below #[Value.ref b0] s) C S h 467 [(0, vr_ (some b0)), (1, vr_ x1), (2, vr_ x2), (3, vi_ v3)] [vi_ z66, vi_ a64, vr_ x2, vi_ a63]) hr (fun z66 h C S hr => ?_) (fun k467 hk467 hr => ?_)
                                · refine hj_callV hC hG (enc := (fun a : Int32 => some (vi_ a))) (As := [vi_ a64, vi_ z66]) (st := [vi_ a63]) (fun h a C S h1 hr => m_Mo_byteAt _ _ _ h a C S h1 hr) cf_Mo wq_597 wq_598 wq_599 wq_389 wq_596 yk_Mo_byteAt rfl ⟨Nat.le_of_ble_eq_true rfl, Nat.le_of_ble_eq_true rfl⟩ rfl (Nat.le_of_ble_eq_true rfl) d_La_law_467 hr (fun a67 h C S hr => ?_)
                                  refine hj_icmp_eq hC 498 d_La_law_470 (by decide) hr (fun q470 hr => ?_) (fun q470 hr => ?_)
                                  · exact hk498 _ _ _ hr
                                  · refine hj_iconst hC (v := 0) d_La_law_473 (by decide) ?_
                                    exact hj_lawret hC hlk d_La_law_474 hr
                                · refine hj_if_eq hC 466 d_La_law_459 (by decide) hr (fun q459 hr => ?_) (fun q459 hr => ?_)
                                  · refine hj_iconst hC (v := 0) d_La_law_466 (by decide) ?_
                                    exact hk467 _ _ _ _ hr
                                  · refine hj_iconst hC (v := 1) d_La_law_462 (by decide) ?_
                                    refine hj_goto hC 467 d_La_law_463 (by decide) ?_
                                    exact hk467 _ _ _ _ hr
                              · refine hj_if_eq hC 444 d_La_law_437 (by decide) hr (fun q437 hr => ?_) (fun q437 hr => ?_)
                                · refine hj_iconst hC (v := 0) d_La_law_444 (by decide) ?_
                                  exact hk445 _ _ _ _ hr
                                · refine hj_iconst hC (v := 1) d_La_law_440 (by decide) ?_
                                  refine hj_goto hC 445 d_La_law_441 (by decide) ?_
                                  exact hk445 _ _ _ _ hr
                            · rw [if_neg s32_10] at hr
                              by_cases s32_11 : (a3 &&& 15) = 11
                              · rw [if_pos s32_11] at hr
                                refine hj_tableIn hC 475 d_La_law_32 (by rw [s32_11]; decide) (by rw [s32_11]; decide) (by rw [s32_11]; rfl) (by decide) ?_
                                refine hj_aload_n hC 1 d_La_law_475 rfl rfl ?_
                                refine hj_aload_n hC 0 d_La_law_476 rfl rfl ?_
                                refine hj_iload_n hC 3 d_La_law_477 rfl rfl ?_
                                refine hj_iconst hC (v := 1) d_La_law_478 (by decide) ?_
                                refine hj_iadd hC d_La_law_479 ?_
                                refine hj_sld hC hX hbl hbA d_La_law_480 hr (fun a68 hr => ?_)
                                refine hj_callV hC hG (enc := (fun a : Int32 => some (vi_ a))) (As := [vi_ a68]) (st := []) (fun h a C S h1 hr => m_SB_look _ _ h a C S h1 hr) cf_SB wq_608 wq_609 wq_610 wq_509 wq_603 yk_SB_look rfl ⟨Nat.le_of_ble_eq_true rfl, Nat.le_of_ble_eq_true rfl⟩ rfl (Nat.le_of_ble_eq_true rfl) d_La_law_481 hr (fun a69 h C S hr => ?_)
                                refine hj_aload_n hC 2 d_La_law_484 rfl rfl ?_
                                refine hj_aload_n hC 0 d_La_law_485 rfl rfl ?_
                                refine hj_iload_n hC 3 d_La_law_486 rfl rfl ?_
                                refine hj_iconst hC (v := 1) d_La_law_487 (by decide) ?_
                                refine hj_iadd hC d_La_law_488 ?_
                                refine hj_sld hC hX hbl hbA d_La_law_489 hr (fun a70 hr => ?_)
                                refine hj_callV hC hG (enc := (fun a : Int32 => some (vi_ a))) (As := [vi_ a70]) (st := [vi_ a69]) (fun h a C S h1 hr => m_Mo_look _ _ h a C S h1 hr) cf_Mo wq_605 wq_606 wq_607 wq_389 wq_604 yk_Mo_look rfl ⟨Nat.le_of_ble_eq_true rfl, Nat.le_of_ble_eq_true rfl⟩ rfl (Nat.le_of_ble_eq_true rfl) d_La_law_490 hr (fun a71 h C S hr => ?_)
                                refine hj_icmp_eq hC 498 d_La_law_493 (by decide) hr (fun q493 hr => ?_) (fun q493 hr => ?_)
                                · exact hk498 _ _ _ hr
                                · refine hj_iconst hC (v := 0) d_La_law_496 (by decide) ?_
                                  exact hj_lawret hC hlk d_La_law_497 hr
                              · rw [if_neg s32_11] at hr
                                have e0 := lv_neT s32_0 (a := 0) (by decide)
                                have e1 := lv_neT s32_1 (a := 1) (by decide)
                                have e2 := lv_neT s32_2 (a := 2) (by decide)
                                have e3 := lv_neT s32_3 (a := 3) (by decide)
                                have e4 := lv_neT s32_4 (a := 4) (by decide)
                                have e5 := lv_neT s32_5 (a := 5) (by decide)
                                have e6 := lv_neT s32_6 (a := 6) (by decide)
                                have e7 := lv_neT s32_7 (a := 7) (by decide)
                                have e8 := lv_neT s32_8 (a := 8) (by decide)
                                have e9 := lv_neT s32_9 (a := 9) (by decide)
                                have e10 := lv_neT s32_10 (a := 10) (by decide)
                                have e11 := lv_neT s32_11 (a := 11) (by decide)
                                refine hj_tableOut hC 498 d_La_law_32 (by omega) (by decide) ?_
                                exact hk498 _ _ _ hr
set_option maxHeartbeats 4000000 in
set_option maxRecDepth 100000 in
theorem m_La_law {p : Program} {l : Launch} {e : Env} {s : State} {m : MethodId} {below : List Frame} {meth : Method} {c : Code} {D : va_G} {dA : Nat → ClassId} {b0 L : Nat} {xs : Nat → Int32} {h2 : hc_H} (hC : hj_C p s m #[Value.ref b0] meth c (gg D dA) code 4 ret R_La meth.name tb) (hX : va_X b0 L xs s s.heap) (hbl : b0 < s.heap.size) (hbA : ¬ hc_A (hz_ s) b0) (hlk : meth.locks = false) (h : hc_H) (C S : Nat) (hr : p_La_law L xs h = some (1, C, S, h2)) : hj_J p l e room_1 s m #[Value.ref b0] below meth c (gg D dA) (hz_ s) 4 (lw_Z below #[Value.ref b0] s) C S h 0 [(0, vr_ (some b0))] [] := by
  unfold p_La_law at hr
  refine hj_new hC cf_SB wq_507 wq_508 wq_509 (fs := [vr_ none, vr_ none, vr_ none, vr_ none, vr_ none, vr_ none]) (fun j hj => by rcases (show j = 0 ∨ j = 1 ∨ j = 2 ∨ j = 3 ∨ j = 4 ∨ j = 5 by omega) with rfl | rfl | rfl | rfl | rfl | rfl <;> rfl) d_La_law_0 hr (fun q1 h C S hr => ?_)
  refine hj_dup hC d_La_law_3 rfl ?_
  refine hj_callI hC hG (As := []) (st := [vr_ (some q1)]) (fun h a C S h1 hr => m_SB_init _  h a C S h1 hr) (Or.inl wq_613) wq_614 wq_509 wq_510 rfl yk_SB_init rfl ⟨Nat.le_of_ble_eq_true rfl, Nat.le_of_ble_eq_true rfl⟩ rfl (Nat.le_of_ble_eq_true rfl) d_La_law_4 hr (fun _ h C S hr => ?_)
  refine hj_astore_n hC (lv' := [(1, vr_ (some q1)), (0, vr_ (some b0))]) d_La_law_7 rfl (by decide) rfl ?_
  refine hj_new hC cf_Mo wq_511 wq_512 wq_389 (fs := [vi_ 0, vr_ none, vi_ 0, vr_ none, vi_ 0, vi_ 0, vi_ 0, vi_ 0, vi_ 0, vr_ none, vr_ none, vr_ none, vr_ none, vr_ none, vr_ none, vr_ none, vr_ none, vr_ none, vr_ none, vr_ none, vr_ none, vr_ none, vr_ none, vr_ none, vr_ none, vr_ none, vi_ 0, vi_ 0, vi_ 0]) (fun j hj => by rcases (show j = 0 ∨ j = 1 ∨ j = 2 ∨ j = 3 ∨ j = 4 ∨ j = 5 ∨ j = 6 ∨ j = 7 ∨ j = 8 ∨ j = 9 ∨ j = 10 ∨ j = 11 ∨ j = 12 ∨ j = 13 ∨ j = 14 ∨ j = 15 ∨ j = 16 ∨ j = 17 ∨ j = 18 ∨ j = 19 ∨ j = 20 ∨ j = 21 ∨ j = 22 ∨ j = 23 ∨ j = 24 ∨ j = 25 ∨ j = 26 ∨ j = 27 ∨ j = 28 by omega) with rfl | rfl | rfl | rfl | rfl | rfl | rfl | rfl | rfl | rfl | rfl | rfl | rfl | rfl | rfl | rfl | rfl | rfl | rfl | rfl | rfl | rfl | rfl | rfl | rfl | rfl | rfl | rfl | rfl <;> rfl) d_La_law_8 hr (fun q2 h C S hr => ?_)
  refine hj_dup hC d_La_law_11 rfl ?_
  refine hj_callI hC hG (As := []) (st := [vr_ (some q2)]) (fun h a C S h1 hr => m_Mo_init _  h a C S h1 hr) (Or.inl wq_611) wq_612 wq_389 wq_513 rfl yk_Mo_init rfl ⟨Nat.le_of_ble_eq_true rfl, Nat.le_of_ble_eq_true rfl⟩ rfl (Nat.le_of_ble_eq_true rfl) d_La_law_12 hr (fun _ h C S hr => ?_)
  refine hj_astore_n hC (lv' := [(2, vr_ (some q2)), (1, vr_ (some q1)), (0, vr_ (some b0))]) d_La_law_15 rfl (by decide) rfl ?_
  refine hj_iconst hC (v := 0) d_La_law_16 (by decide) ?_
  refine hj_istore_n hC (lv' := [(3, vi_ 0), (2, vr_ (some q2)), (1, vr_ (some q1)), (0, vr_ (some b0))]) d_La_law_17 rfl (by decide) rfl ?_
  refine hj_sub (lv' := [(0, vr_ (some b0)), (1, vr_ (some q1)), (2, vr_ (some q2)), (3, vi_ 0)]) [3, 2, 1, 0] rfl ?_
  refine ml_La_law_18 hC hX hbl hbA hlk _ _ _ (fun  h C S hr => ?_) _ _ _ _ _ hr
  refine hj_iconst hC (v := 1) d_La_law_504 (by decide) ?_
  exact hj_lawret hC hlk d_La_law_505 hr
