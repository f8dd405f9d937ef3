theorem d_Mo_readProgram_0 : decode b_Mo_readProgram 0 = .ok (.aload_n 0, 1) := by decide +kernel
theorem d_Mo_readProgram_1 : decode b_Mo_readProgram 1 = .ok (.iconst 0, 1) := by decide +kernel
theorem d_Mo_readProgram_2 : decode b_Mo_readProgram 2 = .ok (.putfield 93, 3) := by decide +kernel
theorem d_Mo_readProgram_5 : decode b_Mo_readProgram 5 = .ok (.aload_n 0, 1) := by decide +kernel
theorem d_Mo_readProgram_6 : decode b_Mo_readProgram 6 = .ok (.iconst 0, 1) := by decide +kernel
theorem d_Mo_readProgram_7 : decode b_Mo_readProgram 7 = .ok (.putfield 79, 3) := by decide +kernel
theorem d_Mo_readProgram_10 : decode b_Mo_readProgram 10 = .ok (.aload_n 0, 1) := by decide +kernel
theorem d_Mo_readProgram_11 : decode b_Mo_readProgram 11 = .ok (.iconst (-1), 1) := by decide +kernel
theorem d_Mo_readProgram_12 : decode b_Mo_readProgram 12 = .ok (.putfield 82, 3) := by decide +kernel
theorem d_Mo_readProgram_15 : decode b_Mo_readProgram 15 = .ok (.iconst 0, 1) := by decide +kernel
theorem d_Mo_readProgram_16 : decode b_Mo_readProgram 16 = .ok (.istore_n 1, 1) := by decide +kernel
theorem d_Mo_readProgram_17 : decode b_Mo_readProgram 17 = .ok (.iload_n 1, 1) := by decide +kernel
theorem d_Mo_readProgram_18 : decode b_Mo_readProgram 18 = .ok (.iconst 3, 1) := by decide +kernel
theorem d_Mo_readProgram_19 : decode b_Mo_readProgram 19 = .ok (.if_icmp .ge 51, 3) := by decide +kernel
theorem d_Mo_readProgram_22 : decode b_Mo_readProgram 22 = .ok (.aload_n 0, 1) := by decide +kernel
theorem d_Mo_readProgram_23 : decode b_Mo_readProgram 23 = .ok (.invokevirtual 99, 3) := by decide +kernel
theorem d_Mo_readProgram_26 : decode b_Mo_readProgram 26 = .ok (.istore_n 2, 1) := by decide +kernel
theorem d_Mo_readProgram_27 : decode b_Mo_readProgram 27 = .ok (.aload_n 0, 1) := by decide +kernel
theorem d_Mo_readProgram_28 : decode b_Mo_readProgram 28 = .ok (.getfield 79, 3) := by decide +kernel
theorem d_Mo_readProgram_31 : decode b_Mo_readProgram 31 = .ok (.ifCond .ne 33, 3) := by decide +kernel
theorem d_Mo_readProgram_34 : decode b_Mo_readProgram 34 = .ok (.iload_n 2, 1) := by decide +kernel
theorem d_Mo_readProgram_35 : decode b_Mo_readProgram 35 = .ok (.iload_n 1, 1) := by decide +kernel
theorem d_Mo_readProgram_36 : decode b_Mo_readProgram 36 = .ok (.ifCond .ne 8, 3) := by decide +kernel
theorem d_Mo_readProgram_39 : decode b_Mo_readProgram 39 = .ok (.bipush 71, 2) := by decide +kernel
theorem d_Mo_readProgram_41 : decode b_Mo_readProgram 41 = .ok (.goto 14, 3) := by decide +kernel
theorem d_Mo_readProgram_44 : decode b_Mo_readProgram 44 = .ok (.iload_n 1, 1) := by decide +kernel
theorem d_Mo_readProgram_45 : decode b_Mo_readProgram 45 = .ok (.iconst 1, 1) := by decide +kernel
theorem d_Mo_readProgram_46 : decode b_Mo_readProgram 46 = .ok (.if_icmp .ne 8, 3) := by decide +kernel
theorem d_Mo_readProgram_49 : decode b_Mo_readProgram 49 = .ok (.bipush 70, 2) := by decide +kernel
theorem d_Mo_readProgram_51 : decode b_Mo_readProgram 51 = .ok (.goto 4, 3) := by decide +kernel
theorem d_Mo_readProgram_54 : decode b_Mo_readProgram 54 = .ok (.iconst 1, 1) := by decide +kernel
theorem d_Mo_readProgram_55 : decode b_Mo_readProgram 55 = .ok (.if_icmp .eq 9, 3) := by decide +kernel
theorem d_Mo_readProgram_58 : decode b_Mo_readProgram 58 = .ok (.aload_n 0, 1) := by decide +kernel
theorem d_Mo_readProgram_59 : decode b_Mo_readProgram 59 = .ok (.iconst 2, 1) := by decide +kernel
theorem d_Mo_readProgram_60 : decode b_Mo_readProgram 60 = .ok (.iload_n 1, 1) := by decide +kernel
theorem d_Mo_readProgram_61 : decode b_Mo_readProgram 61 = .ok (.invokevirtual 96, 3) := by decide +kernel
theorem d_Mo_readProgram_64 : decode b_Mo_readProgram 64 = .ok (.iinc 1 1, 3) := by decide +kernel
theorem d_Mo_readProgram_67 : decode b_Mo_readProgram 67 = .ok (.goto (-50), 3) := by decide +kernel
theorem d_Mo_readProgram_70 : decode b_Mo_readProgram 70 = .ok (.aload_n 0, 1) := by decide +kernel
theorem d_Mo_readProgram_71 : decode b_Mo_readProgram 71 = .ok (.getfield 20, 3) := by decide +kernel
theorem d_Mo_readProgram_74 : decode b_Mo_readProgram 74 = .ok (.iconst 1, 1) := by decide +kernel
theorem d_Mo_readProgram_75 : decode b_Mo_readProgram 75 = .ok (.aload_n 0, 1) := by decide +kernel
theorem d_Mo_readProgram_76 : decode b_Mo_readProgram 76 = .ok (.iconst 1, 1) := by decide +kernel
theorem d_Mo_readProgram_77 : decode b_Mo_readProgram 77 = .ok (.iconst 1, 1) := by decide +kernel
theorem d_Mo_readProgram_78 : decode b_Mo_readProgram 78 = .ok (.bipush 12, 2) := by decide +kernel
theorem d_Mo_readProgram_80 : decode b_Mo_readProgram 80 = .ok (.invokevirtual 103, 3) := by decide +kernel
theorem d_Mo_readProgram_83 : decode b_Mo_readProgram 83 = .ok (.iastore, 1) := by decide +kernel
theorem d_Mo_readProgram_84 : decode b_Mo_readProgram 84 = .ok (.iconst 0, 1) := by decide +kernel
theorem d_Mo_readProgram_85 : decode b_Mo_readProgram 85 = .ok (.istore_n 1, 1) := by decide +kernel
theorem d_Mo_readProgram_86 : decode b_Mo_readProgram 86 = .ok (.iload_n 1, 1) := by decide +kernel
theorem d_Mo_readProgram_87 : decode b_Mo_readProgram 87 = .ok (.aload_n 0, 1) := by decide +kernel
theorem d_Mo_readProgram_88 : decode b_Mo_readProgram 88 = .ok (.getfield 20, 3) := by decide +kernel
theorem d_Mo_readProgram_91 : decode b_Mo_readProgram 91 = .ok (.iconst 1, 1) := by decide +kernel
theorem d_Mo_readProgram_92 : decode b_Mo_readProgram 92 = .ok (.iaload, 1) := by decide +kernel
theorem d_Mo_readProgram_93 : decode b_Mo_readProgram 93 = .ok (.if_icmp .ge 27, 3) := by decide +kernel
theorem d_Mo_readProgram_96 : decode b_Mo_readProgram 96 = .ok (.aload_n 0, 1) := by decide +kernel
theorem d_Mo_readProgram_97 : decode b_Mo_readProgram 97 = .ok (.getfield 79, 3) := by decide +kernel
theorem d_Mo_readProgram_100 : decode b_Mo_readProgram 100 = .ok (.ifCond .ne 20, 3) := by decide +kernel
theorem d_Mo_readProgram_103 : decode b_Mo_readProgram 103 = .ok (.aload_n 0, 1) := by decide +kernel
theorem d_Mo_readProgram_104 : decode b_Mo_readProgram 104 = .ok (.iload_n 1, 1) := by decide +kernel
theorem d_Mo_readProgram_105 : decode b_Mo_readProgram 105 = .ok (.aload_n 0, 1) := by decide +kernel
theorem d_Mo_readProgram_106 : decode b_Mo_readProgram 106 = .ok (.getfield 20, 3) := by decide +kernel
theorem d_Mo_readProgram_109 : decode b_Mo_readProgram 109 = .ok (.iconst 1, 1) := by decide +kernel
theorem d_Mo_readProgram_110 : decode b_Mo_readProgram 110 = .ok (.iaload, 1) := by decide +kernel
theorem d_Mo_readProgram_111 : decode b_Mo_readProgram 111 = .ok (.invokevirtual 113, 3) := by decide +kernel
theorem d_Mo_readProgram_114 : decode b_Mo_readProgram 114 = .ok (.iinc 1 1, 3) := by decide +kernel
theorem d_Mo_readProgram_117 : decode b_Mo_readProgram 117 = .ok (.goto (-31), 3) := by decide +kernel
theorem d_Mo_readProgram_120 : decode b_Mo_readProgram 120 = .ok (.aload_n 0, 1) := by decide +kernel
theorem d_Mo_readProgram_121 : decode b_Mo_readProgram 121 = .ok (.getfield 79, 3) := by decide +kernel
theorem d_Mo_readProgram_124 : decode b_Mo_readProgram 124 = .ok (.ifCond .ne 23, 3) := by decide +kernel
theorem d_Mo_readProgram_127 : decode b_Mo_readProgram 127 = .ok (.aload_n 0, 1) := by decide +kernel
theorem d_Mo_readProgram_128 : decode b_Mo_readProgram 128 = .ok (.getfield 93, 3) := by decide +kernel
theorem d_Mo_readProgram_131 : decode b_Mo_readProgram 131 = .ok (.aload_n 0, 1) := by decide +kernel
theorem d_Mo_readProgram_132 : decode b_Mo_readProgram 132 = .ok (.getfield 85, 3) := by decide +kernel
theorem d_Mo_readProgram_135 : decode b_Mo_readProgram 135 = .ok (.if_icmp .ge 12, 3) := by decide +kernel
theorem d_Mo_readProgram_138 : decode b_Mo_readProgram 138 = .ok (.aload_n 0, 1) := by decide +kernel
theorem d_Mo_readProgram_139 : decode b_Mo_readProgram 139 = .ok (.iconst 4, 1) := by decide +kernel
theorem d_Mo_readProgram_140 : decode b_Mo_readProgram 140 = .ok (.aload_n 0, 1) := by decide +kernel
theorem d_Mo_readProgram_141 : decode b_Mo_readProgram 141 = .ok (.getfield 93, 3) := by decide +kernel
theorem d_Mo_readProgram_144 : decode b_Mo_readProgram 144 = .ok (.invokevirtual 96, 3) := by decide +kernel
theorem d_Mo_readProgram_147 : decode b_Mo_readProgram 147 = .ok (.return_, 1) := by decide +kernel
set_option maxHeartbeats 4000000 in
set_option maxRecDepth 100000 in
theorem ml_Mo_readProgram_17 {p : Program} {l : Launch} {e : Env} {s : State} {m : MethodId} {args : Array Value} {below : List Frame} {meth : Method} {c : Code} {D : va_G} {dA : Nat → ClassId} {h0 h2 : hc_H} {C0 S0 : Nat} {b : Unit} (hC : hj_C p s m args meth c (gg D dA) b_Mo_readProgram 3 none R_Mo "readProgram" tb) (x0 : Option Nat) (kx : hM Unit) (hk : ∀  (h : hc_H) (C S : Nat), kx  h = some (b, C, S, h2) → hj_J p l e { frames := 5, cells := C0, slots := S0, locals := 119 } s m args below meth c (gg D dA) h0 3 (hj_Q below args s { frames := 5, cells := C0, slots := S0, locals := 119 } (gg D dA) h0 none h2) C S h 70 [(0, vr_ x0)] []) : ∀ (fu : Nat) (v1 : Int32) (h : hc_H) (C S : Nat), p_Mo_readProgram_17 x0 kx fu v1 h = some (b, C, S, h2) → hj_J p l e { frames := 5, cells := C0, slots := S0, locals := 119 } s m args below meth c (gg D dA) h0 3 (hj_Q below args s { frames := 5, cells := C0, slots := S0, locals := 119 } (gg D dA) h0 none h2) C S h 17 [(0, vr_ x0), (1, vi_ v1)] [] := by
  intro fu
  induction fu with
  | zero =>
    intro v1 h C S hr
    cases hr
  | succ fu ih =>
    intro v1 h C S hr
    rw [p_Mo_readProgram_17] at hr
    refine hj_iload_n hC 1 d_Mo_readProgram_17 rfl rfl ?_
    refine hj_iconst hC (v := 3) d_Mo_readProgram_18 (by decide) ?_
    refine hj_icmp_ge hC 70 d_Mo_readProgram_19 (by decide) hr (fun q19 hr => ?_) (fun q19 hr => ?_)
    · refine hj_sub (lv' := [(0, vr_ x0)]) [0] rfl ?_
      exact hk _ _ _ hr
    · refine hj_aload_n hC 0 d_Mo_readProgram_22 rfl rfl ?_
      refine hj_callV hC hG (enc := (fun a : Int32 => some (vi_ a))) (As := []) (st := []) (fun h a C S h1 hr => m_Mo_byteNext _  h a C S h1 hr) cf_Mo wq_450 wq_451 wq_452 wq_389 wq_449 yk_Mo_byteNext rfl ⟨Nat.le_of_ble_eq_true rfl, Nat.le_of_ble_eq_true rfl⟩ rfl (Nat.le_of_ble_eq_true rfl) d_Mo_readProgram_23 hr (fun a1 h C S hr => ?_)
      refine hj_istore_n hC (lv' := [(2, vi_ a1), (0, vr_ x0), (1, vi_ v1)]) d_Mo_readProgram_26 rfl (by decide) rfl ?_
      refine hj_aload_n hC 1 d_Mo_readProgram_27 rfl rfl ?_
      refine hj_geti hC cf_Mo (k := 7) (by decide) wq_382 rfl d_Mo_readProgram_28 hr (fun a2 hr => ?_)
      refine hj_jn hC (K := hM Unit) (fun k => ∀  (h : hc_H) (C S : Nat), k  h = some (b, C, S, h2) → hj_J p l e { frames := 5, cells := C0, slots := S0, locals := 119 } s m args below meth c (gg D dA) h0 3 (hj_Q below args s { frames := 5, cells := C0, slots := S0, locals := 119 } (gg D dA) h0 none h2) C S h 64 [(0, vr_ x0), (1, vi_ v1)] []) hr (fun  h C S hr => ?_) (fun k64 hk64 hr => ?_)
      · refine hj_iinc hC (lv' := [(1, vi_ (v1 + 1)), (0, vr_ x0)]) 1 d_Mo_readProgram_64 rfl rfl (by decide) rfl ?_
        refine hj_goto hC 17 d_Mo_readProgram_67 (by decide) ?_
        refine hj_sub (lv' := [(0, vr_ x0), (1, vi_ (v1 + 1))]) [1, 0] rfl ?_
        exact ih _ _ _ _ hr
      · refine hj_if_ne hC 64 d_Mo_readProgram_31 (by decide) hr (fun q31 hr => ?_) (fun q31 hr => ?_)
        · refine hj_sub (lv' := [(0, vr_ x0), (1, vi_ v1)]) [1, 2] rfl ?_
          exact hk64 _ _ _ hr
        · refine hj_iload_n hC 0 d_Mo_readProgram_34 rfl rfl ?_
          refine hj_iload_n hC 2 d_Mo_readProgram_35 rfl rfl ?_
          refine hj_jn hC (K := Int32 → hM Unit) (fun k => ∀ (z3 : Int32) (h : hc_H) (C S : Nat), k z3 h = some (b, C, S, h2) → hj_J p l e { frames := 5, cells := C0, slots := S0, locals := 119 } s m args below meth c (gg D dA) h0 3 (hj_Q below args s { frames := 5, cells := C0, slots := S0, locals := 119 } (gg D dA) h0 none h2) C S h 55 [(0, vr_ x0), (1, vi_ v1)] [vi_ z3, vi_ a1]) hr (fun z3 h C S hr => ?_) (fun k55 hk55 hr => ?_)
          · refine hj_icmp_eq hC 64 d_Mo_readProgram_55 (by decide) hr (fun q55 hr => ?_) (fun q55 hr => ?_)
            · exact hk64 _ _ _ hr
            · refine hj_aload_n hC 0 d_Mo_readProgram_58 rfl rfl ?_
              refine hj_iconst hC (v := 2) d_Mo_readProgram_59 (by decide) ?_
              refine hj_iload_n hC 1 d_Mo_readProgram_60 rfl rfl ?_
              refine hj_callV hC hG (enc := (fun _ : Unit => none)) (As := [vi_ 2, vi_ v1]) (st := []) (fun h a C S h1 hr => m_Mo_wrong _ _ _ h a C S h1 hr) cf_Mo wq_386 wq_387 wq_388 wq_389 wq_385 yk_Mo_wrong rfl ⟨Nat.le_of_ble_eq_true rfl, Nat.le_of_ble_eq_true rfl⟩ rfl (Nat.le_of_ble_eq_true rfl) d_Mo_readProgram_61 hr (fun _ h C S hr => ?_)
              exact hk64 _ _ _ hr
          · refine hj_if_ne hC 44 d_Mo_readProgram_36 (by decide) hr (fun q36 hr => ?_) (fun q36 hr => ?_)
            · refine hj_iload_n hC 2 d_Mo_readProgram_44 rfl rfl ?_
              refine hj_iconst hC (v := 1) d_Mo_readProgram_45 (by decide) ?_
              refine hj_icmp_ne hC 54 d_Mo_readProgram_46 (by decide) hr (fun q46 hr => ?_) (fun q46 hr => ?_)
              · refine hj_iconst hC (v := 1) d_Mo_readProgram_54 (by decide) ?_
                refine hj_sub (lv' := [(0, vr_ x0), (1, vi_ v1)]) [1, 2] rfl ?_
                exact hk55 _ _ _ _ hr
              · refine hj_bipush hC (v := 70) d_Mo_readProgram_49 (by decide) ?_
                refine hj_goto hC 55 d_Mo_readProgram_51 (by decide) ?_
                refine hj_sub (lv' := [(0, vr_ x0), (1, vi_ v1)]) [1, 2] rfl ?_
                exact hk55 _ _ _ _ hr
            · refine hj_bipush hC (v := 71) d_Mo_readProgram_39 (by decide) ?_
              refine hj_goto hC 55 d_Mo_readProgram_41 (by decide) ?_
              refine hj_sub (lv' := [(0, vr_ x0), (1, vi_ v1)]) [1, 2] rfl ?_
              exact hk55 _ _ _ _ hr
set_option maxHeartbeats 4000000 in
set_option maxRecDepth 100000 in
theorem ml_Mo_readProgram_86 {p : Program} {l : Launch} {e : Env} {s : State} {m : MethodId} {args : Array Value} {below : List Frame} {meth : Method} {c : Code} {D : va_G} {dA : Nat → ClassId} {h0 h2 : hc_H} {C0 S0 : Nat} {b : Unit} (hC : hj_C p s m args meth c (gg D dA) b_Mo_readProgram 3 none R_Mo "readProgram" tb) (x0 : Option Nat) (kx : hM Unit) (hk : ∀  (h : hc_H) (C S : Nat), kx  h = some (b, C, S, h2) → hj_J p l e { frames := 5, cells := C0, slots := S0, locals := 119 } s m args below meth c (gg D dA) h0 3 (hj_Q below args s { frames := 5, cells := C0, slots := S0, locals := 119 } (gg D dA) h0 none h2) C S h 120 [(0, vr_ x0)] []) : ∀ (fu : Nat) (v1 : Int32) (h : hc_H) (C S : Nat), p_Mo_readProgram_86 x0 kx fu v1 h = some (b, C, S, h2) → hj_J p l e { frames := 5, cells := C0, slots := S0, locals := 119 } s m args below meth c (gg D dA) h0 3 (hj_Q below args s { frames := 5, cells := C0, slots := S0, locals := 119 } (gg D dA) h0 none h2) C S h 86 [(0, vr_ x0), (1, vi_ v1)] [] := by
  intro fu
  induction fu with
  | zero =>
    intro v1 h C S hr
    cases hr
  | succ fu ih =>
    intro v1 h C S hr
    rw [p_Mo_readProgram_86] at hr
    refine hj_iload_n hC 1 d_Mo_readProgram_86 rfl rfl ?_
    refine hj_aload_n hC 0 d_Mo_readProgram_87 rfl rfl ?_
    refine hj_getr hC cf_Mo (k := 9) (by decide) wq_436 rfl d_Mo_readProgram_88 hr (fun a6 hr => ?_)
    refine hj_iconst hC (v := 1) d_Mo_readProgram_91 (by decide) ?_
    refine hj_iald hC (kd := 12) rfl d_Mo_readProgram_92 hr (fun a7 hr => ?_)
    refine hj_icmp_ge hC 120 d_Mo_readProgram_93 (by decide) hr (fun q93 hr => ?_) (fun q93 hr => ?_)
    · refine hj_sub (lv' := [(0, vr_ x0)]) [0] rfl ?_
      exact hk _ _ _ hr
    · refine hj_aload_n hC 0 d_Mo_readProgram_96 rfl rfl ?_
      refine hj_geti hC cf_Mo (k := 7) (by decide) wq_382 rfl d_Mo_readProgram_97 hr (fun a8 hr => ?_)
      refine hj_if_ne hC 120 d_Mo_readProgram_100 (by decide) hr (fun q100 hr => ?_) (fun q100 hr => ?_)
      · refine hj_sub (lv' := [(0, vr_ x0)]) [0] rfl ?_
        exact hk _ _ _ hr
      · refine hj_aload_n hC 0 d_Mo_readProgram_103 rfl rfl ?_
        refine hj_iload_n hC 1 d_Mo_readProgram_104 rfl rfl ?_
        refine hj_aload_n hC 0 d_Mo_readProgram_105 rfl rfl ?_
        refine hj_getr hC cf_Mo (k := 9) (by decide) wq_436 rfl d_Mo_readProgram_106 hr (fun a9 hr => ?_)
        refine hj_iconst hC (v := 1) d_Mo_readProgram_109 (by decide) ?_
        refine hj_iald hC (kd := 12) rfl d_Mo_readProgram_110 hr (fun a10 hr => ?_)
        refine hj_callV hC hG (enc := (fun _ : Unit => none)) (As := [vi_ v1, vi_ a10]) (st := []) (fun h a C S h1 hr => m_Mo_readFunction _ _ _ h a C S h1 hr) cf_Mo wq_464 wq_465 wq_466 wq_389 wq_463 yk_Mo_readFunction rfl ⟨Nat.le_of_ble_eq_true rfl, Nat.le_of_ble_eq_true rfl⟩ rfl (Nat.le_of_ble_eq_true rfl) d_Mo_readProgram_111 hr (fun _ h C S hr => ?_)
        refine hj_iinc hC (lv' := [(1, vi_ (v1 + 1)), (0, vr_ x0)]) 1 d_Mo_readProgram_114 rfl rfl (by decide) rfl ?_
        refine hj_goto hC 86 d_Mo_readProgram_117 (by decide) ?_
        refine hj_sub (lv' := [(0, vr_ x0), (1, vi_ (v1 + 1))]) [1, 0] rfl ?_
        exact ih _ _ _ _ hr
set_option maxHeartbeats 4000000 in
set_option maxRecDepth 100000 in
theorem m_Mo_readProgram {l : Launch} {D : va_G} {dA : Nat → ClassId} (o : Option Nat) (h0 : hc_H) (b : Unit) (C0 S0 : Nat) (h2 : hc_H) (hr : p_Mo_readProgram o h0 = some (b, C0, S0, h2)) : hc_Met l (gg D dA) y_Mo_readProgram b_Mo_readProgram 3 none tb 5 119 [vr_ o] h0 C0 S0 none h2 := by
  refine hc_Met.of (by decide) (Nat.le_of_ble_eq_true rfl) ?_
  intro p e s m args below meth c hC
  unfold p_Mo_readProgram at hr
  refine hj_sub (lv' := [(0, vr_ o)]) [0] rfl ?_
  refine hj_aload_n hC 0 d_Mo_readProgram_0 rfl rfl ?_
  refine hj_iconst hC (v := 0) d_Mo_readProgram_1 (by decide) ?_
  refine hj_puti hC cf_Mo (k := 26) (by decide) wq_448 rfl (Or.inl rfl) rfl d_Mo_readProgram_2 hr (fun h hr => ?_)
  refine hj_aload_n hC 0 d_Mo_readProgram_5 rfl rfl ?_
  refine hj_iconst hC (v := 0) d_Mo_readProgram_6 (by decide) ?_
  refine hj_puti hC cf_Mo (k := 7) (by decide) wq_382 rfl (Or.inl rfl) rfl d_Mo_readProgram_7 hr (fun h hr => ?_)
  refine hj_aload_n hC 0 d_Mo_readProgram_10 rfl rfl ?_
  refine hj_iconst hC (v := (-1)) d_Mo_readProgram_11 (by decide) ?_
  refine hj_puti hC cf_Mo (k := 8) (by decide) wq_383 rfl (Or.inl rfl) rfl d_Mo_readProgram_12 hr (fun h hr => ?_)
  refine hj_iconst hC (v := 0) d_Mo_readProgram_15 (by decide) ?_
  refine hj_istore_n hC (lv' := [(1, vi_ 0), (0, vr_ o)]) d_Mo_readProgram_16 rfl (by decide) rfl ?_
  refine hj_sub (lv' := [(0, vr_ o), (1, vi_ 0)]) [1, 0] rfl ?_
  refine ml_Mo_readProgram_17 hC _ _ (fun  h C S hr => ?_) _ _ _ _ _ hr
  refine hj_aload_n hC 0 d_Mo_readProgram_70 rfl rfl ?_
  refine hj_getr hC cf_Mo (k := 9) (by decide) wq_436 rfl d_Mo_readProgram_71 hr (fun a4 hr => ?_)
  refine hj_iconst hC (v := 1) d_Mo_readProgram_74 (by decide) ?_
  refine hj_aload_n hC 0 d_Mo_readProgram_75 rfl rfl ?_
  refine hj_iconst hC (v := 1) d_Mo_readProgram_76 (by decide) ?_
  refine hj_iconst hC (v := 1) d_Mo_readProgram_77 (by decide) ?_
  refine hj_bipush hC (v := 12) d_Mo_readProgram_78 (by decide) ?_
  refine hj_callV hC hG (enc := (fun a : Int32 => some (vi_ a))) (As := [vi_ 1, vi_ 1, vi_ 12]) (st := [vi_ 1, vr_ a4]) (fun h a C S h1 hr => m_Mo_numberNext _ _ _ _ h a C S h1 hr) cf_Mo wq_454 wq_455 wq_456 wq_389 wq_453 yk_Mo_numberNext rfl ⟨Nat.le_of_ble_eq_true rfl, Nat.le_of_ble_eq_true rfl⟩ rfl (Nat.le_of_ble_eq_true rfl) d_Mo_readProgram_80 hr (fun a5 h C S hr => ?_)
  refine hj_iast hC (kd := 12) rfl d_Mo_readProgram_83 hr (fun h hr => ?_)
  refine hj_iconst hC (v := 0) d_Mo_readProgram_84 (by decide) ?_
  refine hj_istore_n hC (lv' := [(1, vi_ 0), (0, vr_ o)]) d_Mo_readProgram_85 rfl (by decide) rfl ?_
  refine hj_sub (lv' := [(0, vr_ o), (1, vi_ 0)]) [1, 0] rfl ?_
  refine ml_Mo_readProgram_86 hC _ _ (fun  h C S hr => ?_) _ _ _ _ _ hr
  refine hj_aload_n hC 0 d_Mo_readProgram_120 rfl rfl ?_
  refine hj_geti hC cf_Mo (k := 7) (by decide) wq_382 rfl d_Mo_readProgram_121 hr (fun a11 hr => ?_)
  refine hj_if_ne hC 147 d_Mo_readProgram_124 (by decide) hr (fun q124 hr => ?_) (fun q124 hr => ?_)
  · exact hj_vret hC d_Mo_readProgram_147 hr
  · refine hj_aload_n hC 0 d_Mo_readProgram_127 rfl rfl ?_
    refine hj_geti hC cf_Mo (k := 26) (by decide) wq_448 rfl d_Mo_readProgram_128 hr (fun a12 hr => ?_)
    refine hj_aload_n hC 0 d_Mo_readProgram_131 rfl rfl ?_
    refine hj_geti hC cf_Mo (k := 2) (by decide) wq_445 rfl d_Mo_readProgram_132 hr (fun a13 hr => ?_)
    refine hj_icmp_ge hC 147 d_Mo_readProgram_135 (by decide) hr (fun q135 hr => ?_) (fun q135 hr => ?_)
    · exact hj_vret hC d_Mo_readProgram_147 hr
    · refine hj_aload_n hC 0 d_Mo_readProgram_138 rfl rfl ?_
      refine hj_iconst hC (v := 4) d_Mo_readProgram_139 (by decide) ?_
      refine hj_aload_n hC 0 d_Mo_readProgram_140 rfl rfl ?_
      refine hj_geti hC cf_Mo (k := 26) (by decide) wq_448 rfl d_Mo_readProgram_141 hr (fun a14 hr => ?_)
      refine hj_callV hC hG (enc := (fun _ : Unit => none)) (As := [vi_ 4, vi_ a14]) (st := []) (fun h a C S h1 hr => m_Mo_wrong _ _ _ h a C S h1 hr) cf_Mo wq_386 wq_387 wq_388 wq_389 wq_385 yk_Mo_wrong rfl ⟨Nat.le_of_ble_eq_true rfl, Nat.le_of_ble_eq_true rfl⟩ rfl (Nat.le_of_ble_eq_true rfl) d_Mo_readProgram_144 hr (fun _ h C S hr => ?_)
      exact hj_vret hC d_Mo_readProgram_147 hr
