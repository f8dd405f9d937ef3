/-! THE CLASS VERIFIES as the specification says -/
theorem bd_copy {β : Type} {k1 k2 a b n0 n1 s d n : Nat} {f g : Nat → Int32} {h : hc_H} (h1 : h.2.1 k1 a = some (n0, f)) (h2 : h.2.1 k2 b = some (n1, g)) (hs : s + n ≤ n0) (hd : d + n ≤ n1) (hl : n0 < 2 ^ 31) (hl2 : n1 < 2 ^ 31) (kont : Unit → hM β) : hm_bind (hm_copy k1 k2 (some a) (nI s) (some b) (nI d) (nI n)) kont h = kont () (hc_up h b (.inl (k2, n1, va_cpy f g s d n))) := by
  refine bd_0 ?_
  unfold hm_copy hc_iar
  simp only [h1, h2]
  have c1 : (nI s).toNatClampNeg = s := nI_clamp (by omega)
  have c2 : (nI d).toNatClampNeg = d := nI_clamp (by omega)
  have c3 : (nI n).toNatClampNeg = n := nI_clamp (by omega)
  rw [c1, c2, c3, if_neg]
  rintro ((z | z | z) | z | z)
  · exact nI_pos (by omega) z
  · exact nI_pos (by omega) z
  · exact nI_pos (by omega) z
  · omega
  · omega
theorem ve_hup (h : hc_H) (vf lt : Nat) (pg fn : Option Nat) (sc : Nat → Int32) (ft : Int32 × Int32) (ar : Nat → Nat → Int32) (a k n : Nat) (f : Nat → Int32) (hk : k < 4) : hc_up (ve_em h vf lt pg fn sc ft ar) a (.inl (k, n, f)) = ve_em (hc_up h a (.inl (k, n, f))) vf lt pg fn sc ft ar := by
  refine hc_ext rfl (fun k' a' => ?_) (fun _ _ => rfl) (fun _ _ => rfl)
  rw [up_i2]
  simp only [ve_em, up_i2]
  by_cases e : k' = k ∧ a' = a
  · rw [if_pos e, if_pos e, if_neg (by omega)]
  · rw [if_neg e, if_neg e]
theorem vq_hup (h : hc_H) (vf lt : Nat) (ol pg fn : Option Nat) (sc : Nat → Int32) (ft : Int32 × Int32) (ar : Nat → Nat → Int32) (a k n : Nat) (f : Nat → Int32) (hk : k < 4) : hc_up (vq_em h vf lt ol pg fn sc ft ar) a (.inl (k, n, f)) = vq_em (hc_up h a (.inl (k, n, f))) vf lt ol pg fn sc ft ar := by
  refine hc_ext rfl (fun k' a' => ?_) (fun _ _ => rfl) (fun _ _ => rfl)
  rw [up_i2]
  simp only [vq_em, up_i2]
  by_cases e : k' = k ∧ a' = a
  · rw [if_pos e, if_pos e, if_neg (by omega)]
  · rw [if_neg e, if_neg e]
/-- what comes behind the turns: what is known goes into the function, if there is no fault -/
def vtl_ (vf : Nat) : hM Unit := hm_bind (hm_getr 7 6 (some vf)) fun a2 => hm_bind (hm_geti 2 0 a2) fun a3 => if a3 = 0 then (hm_bind (hm_getr 7 0 (some vf)) fun a4 => hm_bind (hm_getr 7 5 (some vf)) fun a5 => hm_bind (hm_getr 3 8 a5) fun a6 => hm_bind (hm_getr 7 5 (some vf)) fun a7 => hm_bind (hm_geti 3 4 a7) fun a8 => hm_bind (hm_copy 4 2 a4 0 a6 0 a8) fun _ => hm_bind (hm_getr 7 1 (some vf)) fun a9 => hm_bind (hm_getr 7 5 (some vf)) fun a10 => hm_bind (hm_getr 3 9 a10) fun a11 => hm_bind (hm_getr 7 5 (some vf)) fun a12 => hm_bind (hm_geti 3 4 a12) fun a13 => hm_bind (hm_copy 5 3 a9 0 a11 0 a13) fun _ => hm_ret ()) else hm_ret ()
theorem s_V_verify {h : hc_H} {vf lt pa : Nat} {np f n hn : Nat} {fqs : Nat → Option Nat} {Q : Nat → Nat} {FF : Nat → fc_} (RP : prF h pa np fqs Q FF) (hf : f < np) (ok : okf_ FF np f n hn) (ol pg fn : Option Nat) (sc : Nat → Int32) (ft : Int32 × Int32) (e0 : ft.1 = 0) (ar : Nat → Nat → Int32) :
    match vf_ (lkc_ FF f n hn) f n with
    | .inl e => ∃ sc' ar', ¬ e.1 = 0 ∧ p_Verifier_verify (some vf) (some pa) (nI f) (some lt) (vq_em h vf lt ol pg fn sc ft ar) = some ((), 0, 0, vq_em h vf lt (some lt) (some pa) (some (Q f)) sc' e ar')
    | .inr s2 => ∃ sc' ar' g2 g3, p_Verifier_verify (some vf) (some pa) (nI f) (some lt) (vq_em h vf lt ol pg fn sc ft ar) = some ((), 0, 0, vq_em (hc_up (hc_up h (Q f + 3) (.inl (2, 400, g2))) (Q f + 4) (.inl (3, 400, g3))) vf lt (some lt) (some pa) (some (Q f)) sc' ft ar') ∧ ∀ i, i < n → g2 i = s2.1 i ∧ g3 i = s2.2.1 i := by
  have R := (RP.2.2 f hf).2
  have hf12 : f < 12 := Nat.lt_of_lt_of_le hf RP.2.1
  have ok' := ok
  obtain ⟨e4, hn1, hn4, -⟩ := ok'
  have hh : ¬ (nI f < 0 ∨ nI np ≤ nI f) := fun z => z.elim (nI_pos (by omega)) (nI_ge hf (by have := RP.2.1; omega))
  have e512 : nI f * 512 = nI (512 * f) := by rw [show (512 : Int32) = nI 512 by decide, pk_mul, Nat.mul_comm]
  have start : p_Verifier_verify (some vf) (some pa) (nI f) (some lt) (vq_em h vf lt ol pg fn sc ft ar) = (hm_bind (p_Verifier_begin (some vf)) fun _ => p_Verifier_verify_45 (some vf) (vtl_ vf) hm_fuel 0) (E3_ h vf lt pa (Q f) (va_up sc 7 (nI (512 * f))) ft (ar 4, ar 5, ar 6)) := by
    rw [p_Verifier_verify, pr_on (prR_vq RP.1 _ _ _ _ _ _ _ _), bd_0 (s_at (prR_vq RP.1 _ _ _ _ _ _ _ _) RP.2.1 _), if_neg hh, nI_clamp (by omega), (RP.2.2 f hf).1, ev_ite, if_neg (by intro z; cases z), vq_putr4, vq_putr5, vq_putr6, vq_ve, ve_put7, ve_on, e512]
    show (hm_bind (p_Verifier_begin (some vf)) fun _ => p_Verifier_verify_45 (some vf) (vtl_ vf) hm_fuel 0) _ = _
    congr 1
    refine ve_ar h vf lt _ _ _ ft (fun k h1 h2 => ?_)
    have : k = 4 ∨ k = 5 ∨ k = 6 := by omega
    rcases this with rfl | rfl | rfl <;> rfl
  rw [start]
  have key := s_lookAtAll h vf lt pa (Q f) RP hf rfl ok (va_up sc 7 (nI (512 * f))) ft e0 (ar 4, ar 5, ar 6) (va_up_self _ _ _) (vtl_ vf)
  cases ev : vf_ (lkc_ FF f n hn) f n with
  | inl e =>
    rw [ev] at key
    obtain ⟨sc', s', ne, ek⟩ := key
    refine ⟨sc', va3_ s', ne, ?_⟩
    rw [ek, vtl_, ve_ref6, ve_fk, ev_ite, if_neg ne, ev_ret]
    rfl
  | inr s2 =>
    rw [ev] at key
    obtain ⟨sc', s', ek, hse⟩ := key
    refine ⟨sc', va3_ s', va_cpy s'.1 ((FF f).2.1 2) 0 0 n, va_cpy s'.2.1 ((FF f).2.1 3) 0 0 n, ?_, fun i hi => ?_⟩
    · have RE := fnR_ve R vf lt (some pa) (some (Q f)) sc' ft (va3_ s')
      have i4 : (E3_ h vf lt pa (Q f) sc' ft s').2.1 4 (vf + 1) = some (400, s'.1) := ve_i h vf lt _ _ sc' ft (va3_ s') 4 (by decide)
      rw [ek, vtl_, ve_ref6, ve_fk, ev_ite, if_pos e0, ve_ref0, ve_ref5, fr_ref8 RE, ve_ref5, fr_get4 RE, e4]
      have cp1 : ∀ kont : Unit → hM Unit, hm_bind (hm_copy 4 2 (some (vf + 1)) 0 (some (Q f + 3)) 0 (nI n)) kont (E3_ h vf lt pa (Q f) sc' ft s') = kont () (ve_em (hc_up h (Q f + 3) (.inl (2, 400, va_cpy s'.1 ((FF f).2.1 2) 0 0 n))) vf lt (some pa) (some (Q f)) sc' ft (va3_ s')) := by
        intro kont
        have := bd_copy (s := 0) (d := 0) (n := n) i4 (RE.2.1 2 (by omega)) (by omega) (by omega) (by omega) (by omega) kont
        rw [ve_hup _ _ _ _ _ _ _ _ _ _ _ _ (by omega)] at this
        exact this
      rw [cp1]
      have R2 : fnR (hc_up h (Q f + 3) (.inl (2, 400, va_cpy s'.1 ((FF f).2.1 2) 0 0 n))) (Q f) ((FF f).1, va_up (FF f).2.1 2 (va_cpy s'.1 ((FF f).2.1 2) 0 0 n), (FF f).2.2) := by
        refine ⟨R.1, fun k hk => ?_, R.2.2.1, R.2.2.2⟩
        rw [up_i2]
        by_cases c : k = 2
        · subst c; rw [if_pos ⟨rfl, rfl⟩]; rfl
        · rw [if_neg (fun z => c z.1)]
          show _ = some (400, va_up (FF f).2.1 2 _ k)
          rw [va_up_ne _ _ c]; exact R.2.1 k hk
      have RE2 := fnR_ve R2 vf lt (some pa) (some (Q f)) sc' ft (va3_ s')
      have i5 : (ve_em (hc_up h (Q f + 3) (.inl (2, 400, va_cpy s'.1 ((FF f).2.1 2) 0 0 n))) vf lt (some pa) (some (Q f)) sc' ft (va3_ s')).2.1 5 (vf + 2) = some (400, s'.2.1) := ve_i _ vf lt _ _ sc' ft (va3_ s') 5 (by decide)
      rw [ve_ref1, ve_ref5, fr_ref9 RE2, ve_ref5, fr_get4 RE2, e4]
      have := bd_copy (s := 0) (d := 0) (n := n) i5 (RE2.2.1 3 (by omega)) (by omega) (by omega) (by omega) (by omega) (fun _ => hm_ret ())
      rw [ve_hup _ _ _ _ _ _ _ _ _ _ _ _ (by omega)] at this
      refine this.trans ?_
      rw [ev_ret]
      rfl
    · obtain ⟨g1, g2, -⟩ := hse i hi
      rw [pk_cpy_in (by omega) (by omega), pk_cpy_in (by omega) (by omega)]
      simp only [Nat.zero_add, Nat.sub_zero]
      exact ⟨g1, g2⟩
