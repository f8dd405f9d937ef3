set_option maxRecDepth 100000 in
theorem wl_nest0 : (.methodLinkNest R_SB 30 y_Verifier_init "StackBytes" : Cond) ∈ lw_tbl := List.mem_append_right _ (List.mem_append_left _ (List.mem_of_getElem? (i := 60) rfl))
set_option maxRecDepth 100000 in
theorem wl_nest1 : (.methodLinkNest R_Function 34 y_Handler_init "StackBytes" : Cond) ∈ lw_tbl := List.mem_append_right _ (List.mem_append_left _ (List.mem_of_getElem? (i := 116) rfl))
set_option maxRecDepth 100000 in
theorem wl_ao0 : (.arrayOver (.object "StackBytes$Function") : Cond) ∈ lw_tbl := List.mem_append_right _ (List.mem_append_left _ (List.mem_of_getElem? (i := 107) rfl))
set_option maxRecDepth 100000 in
theorem wl_ao1 : (.arrayOver (.object "StackBytes$Handler") : Cond) ∈ lw_tbl := List.mem_append_right _ (List.mem_append_left _ (List.mem_of_getElem? (i := 114) rfl))
theorem lw_ar {s : State} {args : Array Value} {ty : FieldType} (hne : ∀ n, ty ≠ .object n) (h : (Cond.arrayClass ty).before args s = true) : ∃ c : ClassId, ArrOfT s c ty ∧ va_RA s c ty := by
  obtain ⟨c, k, comp, h1, h2, h3⟩ := Cond.arrayClass_spec h
  refine ⟨c, fun n z => ⟨fun k h => (by cases h), k, h2, comp, h3⟩, ?_⟩
  cases ty with
  | object n => exact absurd rfl (hne n)
  | _ => exact h1
theorem lw_ao {s : State} {args : Array Value} {n : String} (h : (Cond.arrayOver (.object n)).before args s = true) : ∃ c : ClassId, ArrOfT s c (.object n) ∧ va_RA s c (.object n) := by
  obtain ⟨comp, c, k, h1, h2, h3, h4, h5⟩ := Cond.arrayOver_spec h
  exact ⟨c, fun n z => ⟨fun k h => (by cases h), k, h3, comp, h4⟩, k, comp, h3, h4, h1, h5⟩
/-- what is left: the law's program answers 1 on every script, within the room -/
def law_pure : Prop := ∀ (L : Nat) (xs : Nat → Int32) (z : Nat), L ≤ 2560 → ∃ C S h2, p_La_law L xs (z, fun _ _ => none, fun _ _ => none, fun _ _ => none) = some (1, C, S, h2) ∧ C ≤ 600000 ∧ S ≤ 7302250
set_option maxHeartbeats 4000000 in
set_option maxRecDepth 100000 in
theorem whole_of (hpure : law_pure) {p : Program} {e : Env} {s : State} {m : MethodId} {below : List Frame} {meth : Method} {c : Code} (l : Launch) {b L : Nat} {xs : Nat → Int32} (hL : L ≤ 2560) (C0 : lw_At p s m meth c b L xs) : W p l e room_1 s m #[Value.ref b] below meth c s.heap [] 0 0 (lw_Z below #[Value.ref b] s) (entryFrame m ([Value.ref b] : List Value).toArray 4) := by
  obtain ⟨hx, hb, hr, hml, hown, hts, hX, hbl, hlocks, hgv⟩ := id C0
  have htb : ∀ w ∈ tb, w.before #[Value.ref b] s = true := fun w hw => hts w (tb_good w hw).1
  obtain ⟨c0, i0, hKn0⟩ := u_known (C := R_SB) (T := F_SB) (N := 6) (n := 6) htb cf_SB.2.1 (htb _ wq_508)
  obtain ⟨c1, i1, hKn1⟩ := u_known (C := R_ByteRow) (T := F_ByteRow) (N := 3) (n := 3) htb cf_ByteRow.2.1 (htb _ wq_40)
  obtain ⟨c2, i2, hKn2⟩ := u_known (C := R_Fault) (T := F_Fault) (N := 2) (n := 2) htb cf_Fault.2.1 (htb _ wq_46)
  obtain ⟨c3, i3, hKn3⟩ := u_known (C := R_Function) (T := F_Function) (N := 11) (n := 11) htb cf_Function.2.1 (htb _ wq_32)
  obtain ⟨c4, i4, hKn4⟩ := u_known (C := R_Handler) (T := F_Handler) (N := 5) (n := 5) htb cf_Handler.2.1 (htb _ wq_25)
  obtain ⟨c5, i5, hKn5⟩ := u_known (C := R_Program) (T := F_Program) (N := 2) (n := 2) htb cf_Program.2.1 (htb _ wq_56)
  obtain ⟨c6, i6, hKn6⟩ := u_known (C := R_Reader) (T := F_Reader) (N := 3) (n := 3) htb cf_Reader.2.1 (htb _ wq_288)
  obtain ⟨c7, i7, hKn7⟩ := u_known (C := R_Verifier) (T := F_Verifier) (N := 11) (n := 11) htb cf_Verifier.2.1 (htb _ wq_51)
  obtain ⟨c8, i8, hKn8⟩ := u_known (C := R_Mo) (T := F_Mo) (N := 29) (n := 29) htb cf_Mo.2.1 (htb _ wq_512)
  obtain ⟨aI, hI⟩ := lw_ar (ty := .int) (fun n h => by cases h) (htb _ wq_11)
  obtain ⟨aB, hB⟩ := lw_ar (ty := .byte) (fun n h => by cases h) (htb _ wq_4)
  obtain ⟨aZ, hZ⟩ := lw_ar (ty := .boolean) (fun n h => by cases h) (htb _ wq_14)
  obtain ⟨aO0, hO0⟩ := lw_ao (hts _ wl_ao0)
  obtain ⟨aO1, hO1⟩ := lw_ao (hts _ wl_ao1)
  have hK : hc_K (gg (fun k => ([c0, c1, c2, c3, c4, c5, c6, c7, c8] : List ClassId).getD k c0, fun k => ([i0, i1, i2, i3, i4, i5, i6, i7, i8] : List (Nat → Nat)).getD k i0) (fun k => ([aI, aI, aI, aI, aI, aI, aZ, aB, aO0, aO1, aI, aI, aI, aI, aI, aI, aI, aI, aI, aI, aI, aI, aI, aI, aZ, aI, aI, aI, aZ] : List ClassId).getD k aI)) s := by
    refine ⟨fun k q hq => ?_, fun k ty hk => ?_, List.forall_mem_cons.mpr ⟨va_Nw.of rfl (hts _ wl_nest0), List.forall_mem_cons.mpr ⟨va_Nw.of rfl (hts _ wl_nest1), fun _ h => absurd h List.not_mem_nil⟩⟩, List.forall_mem_cons.mpr ⟨va_AO.of (hts _ wl_ao0), List.forall_mem_cons.mpr ⟨va_AO.of (hts _ wl_ao1), fun _ h => absurd h List.not_mem_nil⟩⟩⟩
    · match k, hq with
      | 0, hq => cases hq; exact hKn0
      | 1, hq => cases hq; exact hKn1
      | 2, hq => cases hq; exact hKn2
      | 3, hq => cases hq; exact hKn3
      | 4, hq => cases hq; exact hKn4
      | 5, hq => cases hq; exact hKn5
      | 6, hq => cases hq; exact hKn6
      | 7, hq => cases hq; exact hKn7
      | 8, hq => cases hq; exact hKn8
      | k + 9, hq => simp [vwcl] at hq
    · match k, hk with
      | 0, hk => cases hk; exact hI
      | 1, hk => cases hk; exact hI
      | 2, hk => cases hk; exact hI
      | 3, hk => cases hk; exact hI
      | 4, hk => cases hk; exact hI
      | 5, hk => cases hk; exact hI
      | 6, hk => cases hk; exact hZ
      | 7, hk => cases hk; exact hB
      | 8, hk => cases hk; exact hO0
      | 9, hk => cases hk; exact hO1
      | 10, hk => cases hk; exact hI
      | 11, hk => cases hk; exact hI
      | 12, hk => cases hk; exact hI
      | 13, hk => cases hk; exact hI
      | 14, hk => cases hk; exact hI
      | 15, hk => cases hk; exact hI
      | 16, hk => cases hk; exact hI
      | 17, hk => cases hk; exact hI
      | 18, hk => cases hk; exact hI
      | 19, hk => cases hk; exact hI
      | 20, hk => cases hk; exact hI
      | 21, hk => cases hk; exact hI
      | 22, hk => cases hk; exact hI
      | 23, hk => cases hk; exact hI
      | 24, hk => cases hk; exact hZ
      | 25, hk => cases hk; exact hI
      | 26, hk => cases hk; exact hI
      | 27, hk => cases hk; exact hI
      | 28, hk => cases hk; exact hZ
      | k + 29, hk => simp [artys] at hk
  obtain ⟨C, S, h2, hrun, hc, hs⟩ := hpure L xs s.heap.size hL
  have hl := lv_entry ([.ref b]) (n := 4) (Nat.le_of_ble_eq_true rfl)
  rw [lg_entry_eq]
  generalize (lg_sl ([.ref b]) ++ List.replicate (4 - (lg_sl ([.ref b])).length) Slot.unset).toArray = ls at hl ⊢
  have none_has : ∀ a e, ¬ hc_has (hz_ s) a e := fun a e h => by rcases e with e | e | e <;> cases h
  have hbA : ¬ hc_A (hz_ s) b := fun h => absurd (hz_A h) (Nat.not_le.mpr hbl)
  exact m_La_law ⟨hx, hb, hml, hr, hlocks, rfl, hown, htb, hK⟩ hX hbl hbA hlocks (hz_ s) C S hrun s.heap [] 0 0 ls ⟨rfl, fun a e h => absurd h (none_has a e), fun a e e' h => absurd h (none_has a e)⟩ (fun a e h => absurd h (none_has a e)) va_S.rf rfl (by have : room_1.cells = 600000 := rfl; omega) (by have : room_1.slots = 7302250 := rfl; omega) hl
