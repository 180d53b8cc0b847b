abbrev rm_L_field : Room := { frames := 0, cells := 0, slots := 0, locals := 0 }
set_option maxHeartbeats 1000000 in
set_option maxRecDepth 100000 in
theorem c_L_field (l : Launch) (k : Nat) (v : Int32) (hk : k < 12) : Met l yL_field (.code yL_field cL_field 2 (some .int) :: wsL_law) rm_L_field (va_Pc [.int (nI k), .int v] (fun _ => True)) (vp_Si (fun r => r = lfd (k / 3) v)) 0 0 (fun _ => False) := by
  refine met_p rfl (Nat.le_of_ble_eq_true rfl) ?_
  intro p e s m below meth c ls hx hb hr hml hown hts hlocks hl
  have hown : s.vm.findClass RL = some m.cls := hown
  have hl : lv_has ls 2 [(0, .int (nI k)), (1, .int v)] := hl
  refine lv_iload_n hx hb dL_field_0 rfl (lv_at hl 1 rfl) ?_
  refine lv_if_lt (tgt := 10) hx hb dL_field_1 (by decide) (fun c_453 => ?_) (fun c_453 => ?_)
  · refine lv_iconst (v := (-1)) hx hb dL_field_10 (by decide) ?_
    refine lv_goto (tgt := 25) hx hb dL_field_11 (by decide) ?_
    exact W.iret (v := (-1)) hx hb hr (fun t ht hW => ⟨(-1), rfl, by simp [lfd, c_453], ht⟩) (fun _ h => absurd h List.not_mem_nil) dL_field_25
  · refine lv_iload_n hx hb dL_field_4 rfl (lv_at hl 1 rfl) ?_
    refine lv_bipush (v := 31) hx hb dL_field_5 (by decide) ?_
    refine lv_icmp_le (tgt := 14) hx hb dL_field_7 (by decide) (fun c_454 => ?_) (fun c_454 => ?_)
    · refine lv_iload_n hx hb dL_field_14 rfl (lv_at hl 0 rfl) ?_
      refine lv_iconst (v := 3) hx hb dL_field_15 (by decide) ?_
      refine zi_div hx hb k 3 dL_field_16 rfl rfl (by omega) (by decide) (by decide) ?_
      refine lv_bipush (v := 8) hx hb dL_field_17 (by decide) ?_
      refine zi_mul hx hb (k / 3) 8 dL_field_19 rfl rfl ?_
      refine lv_iload_n hx hb dL_field_20 rfl (lv_at hl 1 rfl) ?_
      refine lv_iadd hx hb dL_field_21 ?_
      refine lv_bipush (v := 32) hx hb dL_field_22 (by decide) ?_
      refine zi_jr hx hb dL_field_24 (by decide) ?_
      exact W.iret (v := jr ((nI ((k / 3) * 8)) + v) 32) hx hb hr (fun t ht hW => ⟨jr ((nI ((k / 3) * 8)) + v) 32, rfl, by simp [lfd, c_453, c_454], ht⟩) (fun _ h => absurd h List.not_mem_nil) dL_field_25
    · refine lv_iconst (v := (-1)) hx hb dL_field_10 (by decide) ?_
      refine lv_goto (tgt := 25) hx hb dL_field_11 (by decide) ?_
      exact W.iret (v := (-1)) hx hb hr (fun t ht hW => ⟨(-1), rfl, by simp [lfd, c_453, c_454], ht⟩) (fun _ h => absurd h List.not_mem_nil) dL_field_25

abbrev rm_L_low : Room := { frames := 0, cells := 0, slots := 0, locals := 0 }
set_option maxHeartbeats 1000000 in
set_option maxRecDepth 100000 in
theorem c_L_low (l : Launch) (v : Int32) (nn : Nat) (h0 : 0 < nn) (hn : nn < 2 ^ 31) : Met l yL_low (.code yL_low cL_low 2 (some .int) :: wsL_law) rm_L_low (va_Pc [.int v, .int (nI nn)] (fun _ => True)) (vp_Si (fun r => r = nI (lw v % nn))) 0 0 (fun _ => False) := by
  refine met_p rfl (Nat.le_of_ble_eq_true rfl) ?_
  intro p e s m below meth c ls hx hb hr hml hown hts hlocks hl
  have hown : s.vm.findClass RL = some m.cls := hown
  have hl : lv_has ls 2 [(0, .int v), (1, .int (nI nn))] := hl
  refine lv_iload_n hx hb dL_low_0 rfl (lv_at hl 0 rfl) ?_
  refine lv_ldc hx hb hown (hts _ wd199) dL_low_1 ?_
  refine lv_iand hx hb dL_low_3 ?_
  refine lv_iload_n hx hb dL_low_4 rfl (lv_at hl 1 rfl) ?_
  refine zi_rem hx hb (lw v) nn dL_low_5 (lw_eq v) rfl (lw_lt v) h0 hn ?_
  exact W.iret (v := nI ((lw v) % nn)) hx hb hr (fun t ht hW => ⟨nI ((lw v) % nn), rfl, rfl, ht⟩) (fun _ h => absurd h List.not_mem_nil) dL_low_6

abbrev rm_L_on : Room := { frames := 1, cells := 0, slots := 0, locals := 21 }
theorem cf_RL_9 {R : Room} {s : State} {args : Array Value} (ht : ∀ w ∈ wsL_law, w.before args s = true) (hR : rm_L_field.frames + 1 ≤ R.frames ∧ 8 + (2 + 11) + rm_L_field.locals ≤ R.locals) : CallB R s args RL 9 yL_field cL_field 2 (some .int) (.code yL_field cL_field 2 (some .int) :: wsL_law) rm_L_field 0 0 2 ∧ (Cond.static yL_field).before args s = true := ⟨cw_B 2 ht wd74 wd72 wd76 (by decide +kernel) rfl rfl hR, ht _ wd75⟩
set_option maxHeartbeats 1000000 in
set_option maxRecDepth 100000 in
theorem c_L_on (l : Launch) (G : va_G) (cI cC cZ cG : ClassId) (sz : Nat) (yp : Nat) (vp : IA) (pn : Nat) (fld : Int32) (hp : pn < 4) : Met l yL_on (.code yL_on cL_on 5 (some .int) :: wsL_law) rm_L_on (va_Pc [.ref yp, .int (nI pn), .int fld] (bw G cI cC cZ cG false sz [(yp, .inl (cI, 12, .inl vp))])) (vp_Si (fun r => r = nI (mpc vp pn fld))) 0 0 (fun _ => False) := by
  refine met_bw rfl (Nat.le_of_ble_eq_true rfl) ?_
  intro p e s m below meth c ls hx hb hr hml hown hts hlocks hin hsz hP hK hD0 hX0 hl
  have hown : s.vm.findClass RL = some m.cls := hown
  have hl : lv_has ls 5 [(0, .ref yp), (1, .int (nI pn)), (2, .int fld)] := hl
  generalize hQ : MQ below (vp_Si (fun r => r = nI (mpc vp pn fld))) ([.ref yp, .int (nI pn), .int fld] : List Value).toArray s 0 0 (fun _ => False) = Q
  generalize hag : ([.ref yp, .int (nI pn), .int fld] : List Value).toArray = ag at hts hQ ⊢
  refine lv_iconst (v := 0) hx hb dL_on_0 (by decide) ?_
  refine lv_istore_n (lv' := [(3, .int 0), (0, .ref yp), (1, .int (nI pn)), (2, .int fld)]) hx hb dL_on_1 rfl hl (by decide) rfl (fun ls hl => ?_)
  refine lv_iconst (v := 3) hx hb dL_on_2 (by decide) ?_
  refine lv_iload_n hx hb dL_on_3 rfl (lv_at hl 2 rfl) ?_
  refine zi_mul hx hb 3 pn dL_on_4 rfl rfl ?_
  refine lv_istore (lv' := [(4, .int (nI (3 * pn))), (3, .int 0), (0, .ref yp), (1, .int (nI pn)), (2, .int fld)]) hx hb dL_on_5 hl (by decide) rfl (fun ls hl => ?_)
  have L1 : ∀ (n : Nat), ∀ (i : Nat), ∀ (f : Nat), ∀ (h0 : 3 * pn ≤ i), ∀ (hi : i ≤ 3 * pn + 3), ∀ (hf : f = cnt (mpP vp pn fld) (i - 3 * pn)), ∀ (hn : 3 * pn + 4 ≤ i + n), ∀ (ls : Array Slot), lv_has ls 5 [(4, .int (nI i)), (3, .int (nI f)), (0, .ref yp), (1, .int (nI pn)), (2, .int fld)] → W p l e rm_L_on s m ag below meth c s.heap [] 0 0 Q (F0 m 7 ls []) := by
    intro n
    induction n with
    | zero =>
      intro i f h0 hi hf hn ls hl
      omega
    | succ n ih1 =>
      intro i f h0 hi hf hn ls hl
      refine lv_iload hx hb dL_on_7 (lv_at hl 0 rfl) ?_
      refine lv_iconst (v := 3) hx hb dL_on_9 (by decide) ?_
      refine lv_iload_n hx hb dL_on_10 rfl (lv_at hl 3 rfl) ?_
      refine zi_mul hx hb 3 pn dL_on_11 rfl rfl ?_
      refine lv_iconst (v := 3) hx hb dL_on_12 (by decide) ?_
      refine zi_add hx hb (3 * pn) 3 dL_on_13 rfl rfl ?_
      refine zi_ge (tgt := 48) hx hb i ((3 * pn) + 3) dL_on_14 (by decide) rfl rfl (by omega) (by omega) (fun c_456 => ?_) (fun c_456 => ?_)
      · refine lv_iload_n hx hb dL_on_48 rfl (lv_at hl 1 rfl) ?_
        subst hQ
        exact W.iret (v := nI f) hx hb hr (fun t ht hW => ⟨nI f, rfl, by rw [hf, show i - 3 * pn = 3 by omega]; rfl, ht⟩) (fun _ h => absurd h List.not_mem_nil) dL_on_49
      · refine lv_iload_n hx hb dL_on_17 rfl (lv_at hl 1 rfl) ?_
        refine lv_iload_n hx hb dL_on_18 rfl (lv_at hl 4 rfl) ?_
        refine lv_if_lt (tgt := 39) hx hb dL_on_19 (by decide) (fun c_457 => ?_) (fun c_457 => ?_)
        · refine lv_iconst (v := 0) hx hb dL_on_39 (by decide) ?_
          refine zi_add hx hb f 0 dL_on_40 rfl rfl ?_
          refine lv_istore_n (lv' := [(3, .int (nI (f + 0))), (4, .int (nI i)), (0, .ref yp), (1, .int (nI pn)), (2, .int fld)]) hx hb dL_on_41 rfl hl (by decide) rfl (fun ls hl => ?_)
          refine lv_iinc (v := nI (i + 1)) (lv' := [(4, .int (nI (i + 1))), (3, .int (nI (f + 0))), (0, .ref yp), (1, .int (nI pn)), (2, .int fld)]) hx hb dL_on_42 hl (k := 1) rfl (nI_inc i) (by decide) rfl (fun ls hl => ?_)
          refine lv_goto (tgt := 7) hx hb dL_on_45 (by decide) ?_
          exact ih1 (i + 1) (f + 0) (by omega) (by omega) (by rw [show i + 1 - 3 * pn = (i - 3 * pn) + 1 by omega, Nat.add_zero, cnt_f (mp_0 c_457), hf]) (by omega) _ (lv_sub hl [0, 1, 2, 3, 4] rfl)
        · refine lv_iload hx hb dL_on_22 (lv_at hl 0 rfl) ?_
          refine lv_aload_n hx hb dL_on_24 rfl (lv_at hl 2 rfl) ?_
          refine lv_iload hx hb dL_on_25 (lv_at hl 0 rfl) ?_
          refine za_ld hx hb hK.1 hP 0 0 rfl rfl i rfl (by omega) (by decide) dL_on_27 ?_
          refine vp_callSi (va_Run.run (va_runS (As := [.int (nI i), .int (vp i)]) (rest := [.int (nI f)]) ⟨hx, hb, hml, hown, hts⟩ (c_L_field l i (vp i) (by omega)) (cf_RL_9 hts ⟨Nat.le_of_ble_eq_true rfl, Nat.le_of_ble_eq_true rfl⟩) pre_P rfl rfl hl.1 rfl (lv_room (Nat.le_of_ble_eq_true rfl)) dL_on_28 ⟨Nat.le_of_ble_eq_true rfl, Nat.le_of_ble_eq_true rfl⟩)) (fun r458 hr458 => ?_)
          subst hr458
          refine lv_iload_n hx hb dL_on_31 rfl (lv_at hl 4 rfl) ?_
          refine lv_icmp_ne (tgt := 39) hx hb dL_on_32 (by decide) (fun c_459 => ?_) (fun c_459 => ?_)
          · refine lv_iconst (v := 0) hx hb dL_on_39 (by decide) ?_
            refine zi_add hx hb f 0 dL_on_40 rfl rfl ?_
            refine lv_istore_n (lv' := [(3, .int (nI (f + 0))), (4, .int (nI i)), (0, .ref yp), (1, .int (nI pn)), (2, .int fld)]) hx hb dL_on_41 rfl hl (by decide) rfl (fun ls hl => ?_)
            refine lv_iinc (v := nI (i + 1)) (lv' := [(4, .int (nI (i + 1))), (3, .int (nI (f + 0))), (0, .ref yp), (1, .int (nI pn)), (2, .int fld)]) hx hb dL_on_42 hl (k := 1) rfl (nI_inc i) (by decide) rfl (fun ls hl => ?_)
            refine lv_goto (tgt := 7) hx hb dL_on_45 (by decide) ?_
            exact ih1 (i + 1) (f + 0) (by omega) (by omega) (by rw [show i + 1 - 3 * pn = (i - 3 * pn) + 1 by omega, Nat.add_zero, cnt_f (mp_f hp h0 c_456 c_457 c_459), hf]) (by omega) _ (lv_sub hl [0, 1, 2, 3, 4] rfl)
          · refine lv_iconst (v := 1) hx hb dL_on_35 (by decide) ?_
            refine lv_goto (tgt := 40) hx hb dL_on_36 (by decide) ?_
            refine zi_add hx hb f 1 dL_on_40 rfl rfl ?_
            refine lv_istore_n (lv' := [(3, .int (nI (f + 1))), (4, .int (nI i)), (0, .ref yp), (1, .int (nI pn)), (2, .int fld)]) hx hb dL_on_41 rfl hl (by decide) rfl (fun ls hl => ?_)
            refine lv_iinc (v := nI (i + 1)) (lv' := [(4, .int (nI (i + 1))), (3, .int (nI (f + 1))), (0, .ref yp), (1, .int (nI pn)), (2, .int fld)]) hx hb dL_on_42 hl (k := 1) rfl (nI_inc i) (by decide) rfl (fun ls hl => ?_)
            refine lv_goto (tgt := 7) hx hb dL_on_45 (by decide) ?_
            exact ih1 (i + 1) (f + 1) (by omega) (by omega) (by rw [show i + 1 - 3 * pn = (i - 3 * pn) + 1 by omega, cnt_t (mp_t hp h0 c_456 c_457 c_459), hf]) (by omega) _ (lv_sub hl [0, 1, 2, 3, 4] rfl)
  exact L1 4 (3 * pn) 0 (by omega) (by omega) (by rw [Nat.sub_self]; rfl) (by omega) _ (lv_sub hl [0, 1, 2, 3, 4] rfl)

abbrev rm_L_all : Room := { frames := 2, cells := 0, slots := 0, locals := 45 }
theorem cf_RL_15 {R : Room} {s : State} {args : Array Value} (ht : ∀ w ∈ wsL_law, w.before args s = true) (hR : rm_L_on.frames + 1 ≤ R.frames ∧ 8 + (5 + 11) + rm_L_on.locals ≤ R.locals) : CallB R s args RL 15 yL_on cL_on 5 (some .int) (.code yL_on cL_on 5 (some .int) :: wsL_law) rm_L_on 0 0 3 ∧ (Cond.static yL_on).before args s = true := ⟨cw_B 3 ht wd98 wd72 wd100 (by decide +kernel) rfl rfl hR, ht _ wd99⟩
set_option maxHeartbeats 1000000 in
set_option maxRecDepth 100000 in
theorem c_L_all (l : Launch) (G : va_G) (cI cC cZ cG : ClassId) (sz : Nat) (yp : Nat) (vp : IA) (fld : Int32) : Met l yL_all (.code yL_all cL_all 2 (some .int) :: wsL_law) rm_L_all (va_Pc [.ref yp, .int fld] (bw G cI cC cZ cG false sz [(yp, .inl (cI, 12, .inl vp))])) (vp_Si (fun r => r = nI (ao vp fld 4))) 0 0 (fun _ => False) := by
  refine met_bw rfl (Nat.le_of_ble_eq_true rfl) ?_
  intro p e s m below meth c ls hx hb hr hml hown hts hlocks hin hsz hP hK hD0 hX0 hl
  have hown : s.vm.findClass RL = some m.cls := hown
  have hl : lv_has ls 2 [(0, .ref yp), (1, .int fld)] := hl
  refine lv_aload_n hx hb dL_all_0 rfl (lv_at hl 0 rfl) ?_
  refine lv_iconst (v := 0) hx hb dL_all_1 (by decide) ?_
  refine lv_iload_n hx hb dL_all_2 rfl (lv_at hl 1 rfl) ?_
  have hPc : va_P G vwCl [(yp, .inl (cI, 12, .inl vp))] s.heap := hP
  have hDc := hD0
  refine vp_callSi (va_Run.run (va_runS (As := [.ref yp, .int 0, .int fld]) (rest := []) ⟨hx, hb, hml, hown, hts⟩ (c_L_on l G cI cC cZ cG s.heap.size yp vp 0 fld (by omega)) (cf_RL_15 hts ⟨Nat.le_of_ble_eq_true rfl, Nat.le_of_ble_eq_true rfl⟩) (pre_S hK hPc hDc) rfl rfl hl.1 rfl (lv_room (Nat.le_of_ble_eq_true rfl)) dL_all_3 ⟨Nat.le_of_ble_eq_true rfl, Nat.le_of_ble_eq_true rfl⟩)) (fun r460 hr460 => ?_)
  subst hr460
  have hf461 := (@mpc_le vp 0 fld)
  refine lv_aload_n hx hb dL_all_6 rfl (lv_at hl 0 rfl) ?_
  refine lv_iconst (v := 1) hx hb dL_all_7 (by decide) ?_
  refine lv_iload_n hx hb dL_all_8 rfl (lv_at hl 1 rfl) ?_
  have hPc : va_P G vwCl [(yp, .inl (cI, 12, .inl vp))] s.heap := hP
  have hDc := hD0
  refine vp_callSi (va_Run.run (va_runS (As := [.ref yp, .int 1, .int fld]) (rest := [.int (nI (mpc vp 0 fld))]) ⟨hx, hb, hml, hown, hts⟩ (c_L_on l G cI cC cZ cG s.heap.size yp vp 1 fld (by omega)) (cf_RL_15 hts ⟨Nat.le_of_ble_eq_true rfl, Nat.le_of_ble_eq_true rfl⟩) (pre_S hK hPc hDc) rfl rfl hl.1 rfl (lv_room (Nat.le_of_ble_eq_true rfl)) dL_all_9 ⟨Nat.le_of_ble_eq_true rfl, Nat.le_of_ble_eq_true rfl⟩)) (fun r462 hr462 => ?_)
  subst hr462
  have hf463 := (@mpc_le vp 1 fld)
  refine zi_add hx hb (mpc vp 0 fld) (mpc vp 1 fld) dL_all_12 rfl rfl ?_
  refine lv_aload_n hx hb dL_all_13 rfl (lv_at hl 0 rfl) ?_
  refine lv_iconst (v := 2) hx hb dL_all_14 (by decide) ?_
  refine lv_iload_n hx hb dL_all_15 rfl (lv_at hl 1 rfl) ?_
  have hPc : va_P G vwCl [(yp, .inl (cI, 12, .inl vp))] s.heap := hP
  have hDc := hD0
  refine vp_callSi (va_Run.run (va_runS (As := [.ref yp, .int 2, .int fld]) (rest := [.int (nI ((mpc vp 0 fld) + (mpc vp 1 fld)))]) ⟨hx, hb, hml, hown, hts⟩ (c_L_on l G cI cC cZ cG s.heap.size yp vp 2 fld (by omega)) (cf_RL_15 hts ⟨Nat.le_of_ble_eq_true rfl, Nat.le_of_ble_eq_true rfl⟩) (pre_S hK hPc hDc) rfl rfl hl.1 rfl (lv_room (Nat.le_of_ble_eq_true rfl)) dL_all_16 ⟨Nat.le_of_ble_eq_true rfl, Nat.le_of_ble_eq_true rfl⟩)) (fun r464 hr464 => ?_)
  subst hr464
  have hf465 := (@mpc_le vp 2 fld)
  refine zi_add hx hb ((mpc vp 0 fld) + (mpc vp 1 fld)) (mpc vp 2 fld) dL_all_19 rfl rfl ?_
  refine lv_aload_n hx hb dL_all_20 rfl (lv_at hl 0 rfl) ?_
  refine lv_iconst (v := 3) hx hb dL_all_21 (by decide) ?_
  refine lv_iload_n hx hb dL_all_22 rfl (lv_at hl 1 rfl) ?_
  have hPc : va_P G vwCl [(yp, .inl (cI, 12, .inl vp))] s.heap := hP
  have hDc := hD0
  refine vp_callSi (va_Run.run (va_runS (As := [.ref yp, .int 3, .int fld]) (rest := [.int (nI (((mpc vp 0 fld) + (mpc vp 1 fld)) + (mpc vp 2 fld)))]) ⟨hx, hb, hml, hown, hts⟩ (c_L_on l G cI cC cZ cG s.heap.size yp vp 3 fld (by omega)) (cf_RL_15 hts ⟨Nat.le_of_ble_eq_true rfl, Nat.le_of_ble_eq_true rfl⟩) (pre_S hK hPc hDc) rfl rfl hl.1 rfl (lv_room (Nat.le_of_ble_eq_true rfl)) dL_all_23 ⟨Nat.le_of_ble_eq_true rfl, Nat.le_of_ble_eq_true rfl⟩)) (fun r466 hr466 => ?_)
  subst hr466
  have hf467 := (@mpc_le vp 3 fld)
  refine zi_add hx hb (((mpc vp 0 fld) + (mpc vp 1 fld)) + (mpc vp 2 fld)) (mpc vp 3 fld) dL_all_26 rfl rfl ?_
  exact W.iret (v := nI ((((mpc vp 0 fld) + (mpc vp 1 fld)) + (mpc vp 2 fld)) + (mpc vp 3 fld))) hx hb hr (fun t ht hW => ⟨nI ((((mpc vp 0 fld) + (mpc vp 1 fld)) + (mpc vp 2 fld)) + (mpc vp 3 fld)), rfl, ao_sum, ht⟩) (fun _ h => absurd h List.not_mem_nil) dL_all_27

abbrev rm_L_draw : Room := { frames := 0, cells := 0, slots := 0, locals := 0 }
set_option maxHeartbeats 1000000 in
set_option maxRecDepth 100000 in
theorem c_L_draw (l : Launch) (G : va_G) (cI cC cZ cG : ClassId) (sz : Nat) (yg : Nat) (vg : IA) (hx0 : ¬ vg 3 < 0) : Met l yL_draw (.code yL_draw cL_draw 1 (some .int) :: wsL_law) rm_L_draw (va_Pc [.ref yg] (bw G cI cC cZ cG false sz [(yg, .inl (cI, 10, .inl vg))])) (va_Qi (fun (r : Int32) (u : IA) => r = co (nx (vg 3)) ∧ u = upd vg 3 (nx (vg 3))) (fun (u : IA) t => va_P G vwCl [(yg, .inl (cI, 10, .inl u))] t.heap ∧ va_D (va_A [(yg, .inl (cI, 10, .inl vg))] sz) [(yg, .inl (cI, 10, .inl u))]) (va_A [(yg, .inl (cI, 10, .inl vg))] sz)) 0 0 (va_A [(yg, .inl (cI, 10, .inl vg))] sz) := by
  refine met_bw rfl (Nat.le_of_ble_eq_true rfl) ?_
  intro p e s m below meth c ls hx hb hr hml hown hts hlocks hin hsz hP hK hD0 hX0 hl
  have hown : s.vm.findClass RL = some m.cls := hown
  have hl : lv_has ls 1 [(0, .ref yg)] := hl
  subst hsz
  have hD := hD0.self (sz := s.heap.size)
  generalize hAe : va_A [(yg, .inl (cI, 10, .inl vg))] s.heap.size = A at hD ⊢
  have hA : ∀ q : Nat, s.heap.size ≤ q → A q := fun q h => by rw [← hAe]; exact Or.inr h
  have hS : va_S A s.heap s.heap [] := va_S.rf
  refine lv_aload_n hx hb dL_draw_0 rfl (lv_at hl 0 rfl) ?_
  refine lv_iconst (v := 3) hx hb dL_draw_1 (by decide) ?_
  refine lv_aload_n hx hb dL_draw_2 rfl (lv_at hl 0 rfl) ?_
  refine lv_iconst (v := 3) hx hb dL_draw_3 (by decide) ?_
  refine za_ld hx hb hK.1 hP 0 0 rfl rfl 3 rfl (by decide) (by decide) dL_draw_4 ?_
  refine lv_i2l hx hb dL_draw_5 rfl ?_
  refine lv_ldc2 hx hb hown (hts _ wd230) dL_draw_6 ?_
  refine lv_lmul hx hb dL_draw_9 ?_
  refine lv_ldc2 hx hb hown (hts _ wd231) dL_draw_10 ?_
  refine lv_ladd hx hb dL_draw_13 ?_
  refine lv_ldc2 hx hb hown (hts _ wd232) dL_draw_14 ?_
  refine lv_land hx hb dL_draw_17 ?_
  refine lv_l2i hx hb dL_draw_18 rfl ?_
  rw [show (((((vg 3).toInt64) * 1103515245) + 12345) &&& 2147483647).toInt32 = nx (vg 3) from dr_eq hx0]
  refine za_st hx hb hK.1 hP hD hS 0 0 rfl rfl 3 rfl (by decide) (by decide) dL_draw_19 (fun H468 locs468 hP hD hS => ?_)
  have hP : va_P G vwCl [(yg, .inl (cI, 10, .inl (upd vg 3 (nx (vg 3)))))] H468 := hP
  have hD : va_D A [(yg, .inl (cI, 10, .inl (upd vg 3 (nx (vg 3)))))] := hD
  refine lv_aload_n hx hb dL_draw_20 rfl (lv_at hl 0 rfl) ?_
  refine lv_iconst (v := 3) hx hb dL_draw_21 (by decide) ?_
  refine za_ld hx hb hK.1 hP 0 0 rfl rfl 3 rfl (by decide) (by decide) dL_draw_22 ?_
  refine lv_bipush (v := 16) hx hb dL_draw_23 (by decide) ?_
  refine lv_ishr hx hb dL_draw_25 ?_
  refine lv_bipush (v := 6) hx hb dL_draw_26 (by decide) ?_
  refine zi_jr hx hb dL_draw_28 (by decide) ?_
  refine lv_iconst (v := 1) hx hb dL_draw_29 (by decide) ?_
  refine lv_iadd hx hb dL_draw_30 ?_
  exact W.iret (v := (jr ((nx (vg 3)) >>> (16 &&& 31)) 6) + 1) hx hb hr (fun t ht hW => ⟨⟨(jr ((nx (vg 3)) >>> (16 &&& 31)) 6) + 1, upd vg 3 (nx (vg 3)), rfl, ⟨(sh_eq (nx_nn hx0)), rfl⟩, by rw [ht]; exact hP, hD⟩, hS.F ht⟩) hS.2.2 dL_draw_31

abbrev rm_L_leads : Room := { frames := 1, cells := 0, slots := 0, locals := 21 }
set_option maxHeartbeats 1000000 in
set_option maxRecDepth 100000 in
theorem c_L_leads (l : Launch) (G : va_G) (cI cC cZ cG : ClassId) (sz : Nat) (yb : Nat) (vb : IA) (k a cn : Nat) (hk : k < 12) (ha : a ≤ 35) (hc : cn ≤ 6) : Met l yL_leads (.code yL_leads cL_leads 7 (some .int) :: wsL_law) rm_L_leads (va_Pc [.ref yb, .int (nI k), .int (nI a), .int (nI cn)] (bw G cI cC cZ cG false sz [(yb, .inl (cI, 12, .inl vb))])) (vp_Si (fun r => r = ldG (fbN vb (k / 3)) a cn)) 0 0 (fun _ => False) := by
  refine met_bw rfl (Nat.le_of_ble_eq_true rfl) ?_
  intro p e s m below meth c ls hx hb hr hml hown hts hlocks hin hsz hP hK hD0 hX0 hl
  have hown : s.vm.findClass RL = some m.cls := hown
  have hl : lv_has ls 7 [(0, .ref yb), (1, .int (nI k)), (2, .int (nI a)), (3, .int (nI cn))] := hl
  generalize hQ : MQ below (vp_Si (fun r => r = ldG (fbN vb (k / 3)) a cn)) ([.ref yb, .int (nI k), .int (nI a), .int (nI cn)] : List Value).toArray s 0 0 (fun _ => False) = Q
  generalize hag : ([.ref yb, .int (nI k), .int (nI a), .int (nI cn)] : List Value).toArray = ag at hts hQ ⊢
  refine lv_iload_n hx hb dL_leads_0 rfl (lv_at hl 2 rfl) ?_
  refine lv_istore (lv' := [(4, .int (nI a)), (0, .ref yb), (1, .int (nI k)), (2, .int (nI a)), (3, .int (nI cn))]) hx hb dL_leads_1 hl (by decide) rfl (fun ls hl => ?_)
  refine lv_iload_n hx hb dL_leads_3 rfl (lv_at hl 4 rfl) ?_
  refine lv_istore (lv' := [(5, .int (nI cn)), (4, .int (nI a)), (0, .ref yb), (1, .int (nI k)), (2, .int (nI a)), (3, .int (nI cn))]) hx hb dL_leads_4 hl (by decide) rfl (fun ls hl => ?_)
  have L1 : ∀ (n : Nat), ∀ (b : Nat), ∀ (y : Nat), ∀ (hb2 : b + y ≤ 41), ∀ (hf : ldG (fbN vb (k / 3)) a cn = ldG (fbN vb (k / 3)) b y), ∀ (hn : y + 1 ≤ n), ∀ (ls : Array Slot), lv_has ls 7 [(5, .int (nI y)), (4, .int (nI b)), (0, .ref yb), (1, .int (nI k)), (2, .int (nI a)), (3, .int (nI cn))] → W p l e rm_L_leads s m ag below meth c s.heap [] 0 0 Q (F0 m 6 ls []) := by
    intro n
    induction n with
    | zero =>
      intro b y hb2 hf hn ls hl
      omega
    | succ n ih1 =>
      intro b y hb2 hf hn ls hl
      refine lv_iload hx hb dL_leads_6 (lv_at hl 0 rfl) ?_
      refine z0_le (tgt := 63) hx hb y dL_leads_8 (by decide) rfl (by omega) (fun c_470 => ?_) (fun c_470 => ?_)
      · refine lv_iload hx hb dL_leads_63 (lv_at hl 1 rfl) ?_
        refine lv_bipush (v := 35) hx hb dL_leads_65 (by decide) ?_
        refine zi_le (tgt := 74) hx hb b 35 dL_leads_67 (by decide) rfl rfl (by omega) (by decide) (fun c_471 => ?_) (fun c_471 => ?_)
        · refine lv_iload hx hb dL_leads_74 (lv_at hl 1 rfl) ?_
          subst hQ
          exact W.iret (v := nI b) hx hb hr (fun t ht hW => ⟨nI b, rfl, (by rw [hf, c_470, ldG_0, if_pos c_471]), ht⟩) (fun _ h => absurd h List.not_mem_nil) dL_leads_76
        · refine lv_iconst (v := (-1)) hx hb dL_leads_70 (by decide) ?_
          refine lv_goto (tgt := 76) hx hb dL_leads_71 (by decide) ?_
          subst hQ
          exact W.iret (v := (-1)) hx hb hr (fun t ht hW => ⟨(-1), rfl, (by rw [hf, c_470, ldG_0, if_neg (by omega)]), ht⟩) (fun _ h => absurd h List.not_mem_nil) dL_leads_76
      · refine lv_iinc (v := nI (b + 1)) (lv' := [(4, .int (nI (b + 1))), (5, .int (nI y)), (0, .ref yb), (1, .int (nI k)), (2, .int (nI a)), (3, .int (nI cn))]) hx hb dL_leads_11 hl (k := 1) rfl (nI_inc b) (by decide) rfl (fun ls hl => ?_)
        refine lv_iload_n hx hb dL_leads_14 rfl (lv_at hl 3 rfl) ?_
        refine lv_iload hx hb dL_leads_15 (lv_at hl 0 rfl) ?_
        refine vp_callSi (va_Run.run (va_runS (As := [.int (nI k), .int (nI (b + 1))]) (rest := []) ⟨hx, hb, hml, hown, hts⟩ (c_L_field l k (nI (b + 1)) (by omega)) (cf_RL_9 hts ⟨Nat.le_of_ble_eq_true rfl, Nat.le_of_ble_eq_true rfl⟩) pre_P rfl rfl hl.1 rfl (lv_room (Nat.le_of_ble_eq_true rfl)) dL_leads_17 ⟨Nat.le_of_ble_eq_true rfl, Nat.le_of_ble_eq_true rfl⟩)) (fun r472 hr472 => ?_)
        subst hr472
        refine lv_istore (lv' := [(6, .int (lfd (k / 3) (nI (b + 1)))), (4, .int (nI (b + 1))), (5, .int (nI y)), (0, .ref yb), (1, .int (nI k)), (2, .int (nI a)), (3, .int (nI cn))]) hx hb dL_leads_20 hl (by decide) rfl (fun ls hl => ?_)
        refine lv_iload hx hb dL_leads_22 (lv_at hl 0 rfl) ?_
        refine lv_bipush (v := 8) hx hb dL_leads_24 (by decide) ?_
        refine zi_jr hx hb dL_leads_26 (by decide) ?_
        refine lv_iconst (v := 4) hx hb dL_leads_27 (by decide) ?_
        refine lv_icmp_ne (tgt := 57) hx hb dL_leads_28 (by decide) (fun c_473 => ?_) (fun c_473 => ?_)
        · refine lv_iinc (v := nI (y - 1)) (lv' := [(5, .int (nI (y - 1))), (6, .int (lfd (k / 3) (nI (b + 1)))), (4, .int (nI (b + 1))), (0, .ref yb), (1, .int (nI k)), (2, .int (nI a)), (3, .int (nI cn))]) hx hb dL_leads_57 hl (k := 2) rfl (nI_decp (by omega)) (by decide) rfl (fun ls hl => ?_)
          refine lv_goto (tgt := 6) hx hb dL_leads_60 (by decide) ?_
          exact ih1 (b + 1) (y - 1) (by omega) (by rw [hf, ld_n c_470 (fb_1 c_473)]) (by omega) _ (lv_sub hl [0, 2, 3, 4, 5, 6] rfl)
        · obtain ⟨fa, hfa, efa⟩ := lf_4 (show k / 3 < 4 by omega) c_473
          rw [efa] at hl
          refine lv_aload_n hx hb dL_leads_31 rfl (lv_at hl 3 rfl) ?_
          refine lv_iconst (v := 3) hx hb dL_leads_32 (by decide) ?_
          refine lv_iload hx hb dL_leads_33 (lv_at hl 0 rfl) ?_
          refine lv_bipush (v := 8) hx hb dL_leads_35 (by decide) ?_
          refine zi_div hx hb fa 8 dL_leads_37 rfl rfl (by omega) (by decide) (by decide) ?_
          refine zi_mul hx hb 3 (fa / 8) dL_leads_38 rfl rfl ?_
          refine za_ld hx hb hK.1 hP 0 0 rfl rfl (3 * (fa / 8)) rfl (by omega) (by decide) dL_leads_39 ?_
          refine lv_if_ne (tgt := 46) hx hb dL_leads_40 (by decide) (fun c_474 => ?_) (fun c_474 => ?_)
          · refine lv_iload hx hb dL_leads_46 (lv_at hl 2 rfl) ?_
            refine lv_iconst (v := 3) hx hb dL_leads_48 (by decide) ?_
            refine zi_ge (tgt := 54) hx hb y 3 dL_leads_49 (by decide) rfl rfl (by omega) (by decide) (fun c_475 => ?_) (fun c_475 => ?_)
            · refine lv_iinc (v := nI (y - 1)) (lv' := [(5, .int (nI (y - 1))), (6, .int (nI fa)), (4, .int (nI (b + 1))), (0, .ref yb), (1, .int (nI k)), (2, .int (nI a)), (3, .int (nI cn))]) hx hb dL_leads_54 hl (k := 2) rfl (nI_decp (by omega)) (by decide) rfl (fun ls hl => ?_)
              refine lv_iinc (v := nI ((y - 1) - 1)) (lv' := [(5, .int (nI ((y - 1) - 1))), (6, .int (nI fa)), (4, .int (nI (b + 1))), (0, .ref yb), (1, .int (nI k)), (2, .int (nI a)), (3, .int (nI cn))]) hx hb dL_leads_57 hl (k := 0) rfl (nI_decp (by omega)) (by decide) rfl (fun ls hl => ?_)
              refine lv_goto (tgt := 6) hx hb dL_leads_60 (by decide) ?_
              exact ih1 (b + 1) ((y - 1) - 1) (by omega) (by rw [hf, ld_f (by omega) (fb_3 c_473 efa hfa c_474)]) (by omega) _ (lv_sub hl [0, 2, 3, 4, 5, 6] rfl)
            · refine lv_iconst (v := (-1)) hx hb dL_leads_52 (by decide) ?_
              subst hQ
              exact W.iret (v := (-1)) hx hb hr (fun t ht hW => ⟨(-1), rfl, (by rw [hf, ld_x c_470 c_475 (fb_3 c_473 efa hfa c_474)]), ht⟩) (fun _ h => absurd h List.not_mem_nil) dL_leads_53
          · refine lv_goto (tgt := 57) hx hb dL_leads_43 (by decide) ?_
            refine lv_iinc (v := nI (y - 1)) (lv' := [(5, .int (nI (y - 1))), (6, .int (nI fa)), (4, .int (nI (b + 1))), (0, .ref yb), (1, .int (nI k)), (2, .int (nI a)), (3, .int (nI cn))]) hx hb dL_leads_57 hl (k := 2) rfl (nI_decp (by omega)) (by decide) rfl (fun ls hl => ?_)
            refine lv_goto (tgt := 6) hx hb dL_leads_60 (by decide) ?_
            exact ih1 (b + 1) (y - 1) (by omega) (by rw [hf, ld_n c_470 (fb_2 efa hfa c_474)]) (by omega) _ (lv_sub hl [0, 2, 3, 4, 5, 6] rfl)
  exact L1 (cn + 1) a cn (by omega) rfl (by omega) _ (lv_sub hl [0, 1, 2, 3, 4, 5] rfl)

abbrev rm_L_why : Room := { frames := 3, cells := 0, slots := 0, locals := 66 }
theorem cf_RL_29 {R : Room} {s : State} {args : Array Value} (ht : ∀ w ∈ wsL_law, w.before args s = true) (hR : rm_L_all.frames + 1 ≤ R.frames ∧ 8 + (2 + 11) + rm_L_all.locals ≤ R.locals) : CallB R s args RL 29 yL_all cL_all 2 (some .int) (.code yL_all cL_all 2 (some .int) :: wsL_law) rm_L_all 0 0 2 ∧ (Cond.static yL_all).before args s = true := ⟨cw_B 2 ht wd126 wd72 wd128 (by decide +kernel) rfl rfl hR, ht _ wd127⟩
theorem cf_RL_25 {R : Room} {s : State} {args : Array Value} (ht : ∀ w ∈ wsL_law, w.before args s = true) (hR : rm_L_leads.frames + 1 ≤ R.frames ∧ 8 + (7 + 11) + rm_L_leads.locals ≤ R.locals) : CallB R s args RL 25 yL_leads cL_leads 7 (some .int) (.code yL_leads cL_leads 7 (some .int) :: wsL_law) rm_L_leads 0 0 4 ∧ (Cond.static yL_leads).before args s = true := ⟨cw_B 4 ht wd190 wd72 wd192 (by decide +kernel) rfl rfl hR, ht _ wd191⟩
set_option maxHeartbeats 1000000 in
set_option maxRecDepth 100000 in
theorem c_L_why (l : Launch) (G : va_G) (cI cC cZ cG : ClassId) (sz : Nat) (yp yb yg : Nat) (vp vb vg : IA) (k cn : Nat) (hpr : ∀ k, k < 12 → okv (vp k)) (hk : k < 12) (hc1 : 1 ≤ cn) (hc : cn ≤ 6) : Met l yL_why (.code yL_why cL_why 10 (some .int) :: wsL_law) rm_L_why (va_Pc [.ref yp, .ref yb, .ref yg, .int (nI k), .int (nI cn)] (bw G cI cC cZ cG false sz [(yp, .inl (cI, 12, .inl vp)), (yb, .inl (cI, 12, .inl vb)), (yg, .inl (cI, 10, .inl vg))])) (vp_Si (fun r => r = lwy vp vb vg k cn)) 0 0 (fun _ => False) := by
  refine met_bw rfl (Nat.le_of_ble_eq_true rfl) ?_
  intro p e s m below meth c ls hx hb hr hml hown hts hlocks hin hsz hP hK hD0 hX0 hl
  have hown : s.vm.findClass RL = some m.cls := hown
  have hl : lv_has ls 10 [(0, .ref yp), (1, .ref yb), (2, .ref yg), (3, .int (nI k)), (4, .int (nI cn))] := hl
  generalize hQ : MQ below (vp_Si (fun r => r = lwy vp vb vg k cn)) ([.ref yp, .ref yb, .ref yg, .int (nI k), .int (nI cn)] : List Value).toArray s 0 0 (fun _ => False) = Q
  generalize hag : ([.ref yp, .ref yb, .ref yg, .int (nI k), .int (nI cn)] : List Value).toArray = ag at hts hQ ⊢
  refine lv_iload_n hx hb dL_why_0 rfl (lv_at hl 3 rfl) ?_
  refine lv_iconst (v := 3) hx hb dL_why_1 (by decide) ?_
  refine zi_div hx hb k 3 dL_why_2 rfl rfl (by omega) (by decide) (by decide) ?_
  refine lv_istore (lv' := [(5, .int (nI (k / 3))), (0, .ref yp), (1, .ref yb), (2, .ref yg), (3, .int (nI k)), (4, .int (nI cn))]) hx hb dL_why_3 hl (by decide) rfl (fun ls hl => ?_)
  refine lv_aload_n hx hb dL_why_5 rfl (lv_at hl 1 rfl) ?_
  refine lv_iload_n hx hb dL_why_6 rfl (lv_at hl 4 rfl) ?_
  refine za_ld hx hb hK.1 hP 0 0 rfl rfl k rfl (by omega) (by decide) dL_why_7 ?_
  refine lv_bipush (v := 35) hx hb dL_why_8 (by decide) ?_
  refine lv_icmp_ne (tgt := 15) hx hb dL_why_10 (by decide) (fun c_476 => ?_) (fun c_476 => ?_)
  · rcases hpr k hk with ea | ⟨a, ha, ea⟩
    · have e0 : (vp k).toNatClampNeg = 0 := by rw [ea]; rfl
      refine lv_aload_n hx hb dL_why_15 rfl (lv_at hl 1 rfl) ?_
      refine lv_iload_n hx hb dL_why_16 rfl (lv_at hl 4 rfl) ?_
      refine za_ld hx hb hK.1 hP 0 0 rfl rfl k rfl (by omega) (by decide) dL_why_17 ?_
      refine lv_if_ge (tgt := 25) hx hb dL_why_18 (by decide) (fun c_477 => ?_) (fun c_477 => ?_)
      · exact absurd c_477 (by rw [ea]; decide)
      · refine lv_iconst (v := 1) hx hb dL_why_21 (by decide) ?_
        refine lv_goto (tgt := 26) hx hb dL_why_22 (by decide) ?_
        refine lv_istore (lv' := [(6, .int 1), (5, .int (nI (k / 3))), (0, .ref yp), (1, .ref yb), (2, .ref yg), (3, .int (nI k)), (4, .int (nI cn))]) hx hb dL_why_26 hl (by decide) rfl (fun ls hl => ?_)
        refine lv_iload hx hb dL_why_28 (lv_at hl 0 rfl) ?_
        refine lv_if_eq (tgt := 43) hx hb dL_why_30 (by decide) (fun c_478 => ?_) (fun c_478 => ?_)
        · exact absurd c_478 (by decide)
        · refine lv_iload hx hb dL_why_33 (lv_at hl 6 rfl) ?_
          refine lv_aload_n hx hb dL_why_35 rfl (lv_at hl 4 rfl) ?_
          refine lv_iconst (v := 0) hx hb dL_why_36 (by decide) ?_
          refine za_ld hx hb hK.1 hP 2 0 rfl rfl 0 rfl (by decide) (by decide) dL_why_37 ?_
          refine lv_icmp_ge (tgt := 43) hx hb dL_why_38 (by decide) (fun c_479 => ?_) (fun c_479 => ?_)
          · refine lv_iload hx hb dL_why_43 (lv_at hl 0 rfl) ?_
            refine lv_if_eq (tgt := 52) hx hb dL_why_45 (by decide) (fun c_480 => ?_) (fun c_480 => ?_)
            · exact absurd c_480 (by decide)
            · refine lv_iconst (v := 0) hx hb dL_why_48 (by decide) ?_
              refine lv_goto (tgt := 62) hx hb dL_why_49 (by decide) ?_
              refine lv_istore (lv' := [(7, .int 0), (6, .int 1), (5, .int (nI (k / 3))), (0, .ref yp), (1, .ref yb), (2, .ref yg), (3, .int (nI k)), (4, .int (nI cn))]) hx hb dL_why_62 hl (by decide) rfl (fun ls hl => ?_)
              refine lv_iload hx hb dL_why_64 (lv_at hl 0 rfl) ?_
              refine lv_if_ge (tgt := 71) hx hb dL_why_66 (by decide) (fun c_481 => ?_) (fun c_481 => ?_)
              · have eto : lto vp vb k cn = 0 := by rw [lto, if_pos ea]
                have ef : fst0 (vp k) = 0 := by rw [ea]; rfl
                refine lv_iload hx hb dL_why_71 (lv_at hl 0 rfl) ?_
                refine lv_istore (lv' := [(8, .int 0), (7, .int 0), (6, .int 1), (5, .int (nI (k / 3))), (0, .ref yp), (1, .ref yb), (2, .ref yg), (3, .int (nI k)), (4, .int (nI cn))]) hx hb dL_why_73 hl (by decide) rfl (fun ls hl => ?_)
                have L1 : ∀ (n : Nat), ∀ (Ac : Nat), ∀ (xa : Int32), ∀ (hAc : Ac ≤ 0 + 1), ∀ (hxa : xa = nI Ac - 1), ∀ (hbl : ∀ c, Ac ≤ c → c ≤ 0 → lbP vp (k / 3) c = false), ∀ (hn : Ac + 1 ≤ n), ∀ (ls : Array Slot), lv_has ls 10 [(8, .int xa), (7, .int 0), (6, .int 1), (5, .int (nI (k / 3))), (0, .ref yp), (1, .ref yb), (2, .ref yg), (3, .int (nI k)), (4, .int (nI cn))] → W p l e rm_L_why s m ag below meth c s.heap [] 0 0 Q (F0 m 75 ls []) := by
                  intro n
                  induction n with
                  | zero =>
                    intro Ac xa hAc hxa hbl hn ls hl
                    omega
                  | succ n ih1 =>
                    intro Ac xa hAc hxa hbl hn ls hl
                    rcases Ac with _ | b2
                    · obtain rfl : xa = -1 := by rw [hxa]; decide
                      refine lv_iload hx hb dL_why_75 (lv_at hl 0 rfl) ?_
                      refine lv_if_lt (tgt := 134) hx hb dL_why_77 (by decide) (fun c_483 => ?_) (fun c_483 => ?_)
                      · have hq4 : ¬ lbQ vp k (lto vp vb k cn) = true := by rw [lbQ, eto, ef]; exact fun w => by rw [anyp_no _ 0 (fun c h1 h2 => hbl c h1 (by have e : (0 : Int32).toNatClampNeg = 0 := rfl; omega))] at w; cases w
                        refine lv_iconst (v := 0) hx hb dL_why_134 (by decide) ?_
                        refine lv_istore (lv' := [(8, .int 0), (7, .int 0), (6, .int 1), (5, .int (nI (k / 3))), (0, .ref yp), (1, .ref yb), (2, .ref yg), (3, .int (nI k)), (4, .int (nI cn))]) hx hb dL_why_135 hl (by decide) rfl (fun ls hl => ?_)
                        refine lv_iconst (v := 3) hx hb dL_why_137 (by decide) ?_
                        refine lv_iload hx hb dL_why_138 (lv_at hl 3 rfl) ?_
                        refine zi_mul hx hb 3 (k / 3) dL_why_140 rfl rfl ?_
                        refine lv_istore (lv' := [(9, .int (nI (3 * (k / 3)))), (8, .int 0), (7, .int 0), (6, .int 1), (5, .int (nI (k / 3))), (0, .ref yp), (1, .ref yb), (2, .ref yg), (3, .int (nI k)), (4, .int (nI cn))]) hx hb dL_why_141 hl (by decide) rfl (fun ls hl => ?_)
                        have L2 : ∀ (n : Nat), ∀ (i : Nat), ∀ (f : Nat), ∀ (h0 : 3 * (k / 3) ≤ i), ∀ (hi : i ≤ 3 * (k / 3) + 3), ∀ (hf : f = cnt (thP vp (k / 3) 0) (i - 3 * (k / 3))), ∀ (hn3 : 3 * (k / 3) + 4 ≤ i + n), ∀ (ls : Array Slot), lv_has ls 10 [(9, .int (nI i)), (8, .int (nI f)), (7, .int 0), (6, .int 1), (5, .int (nI (k / 3))), (0, .ref yp), (1, .ref yb), (2, .ref yg), (3, .int (nI k)), (4, .int (nI cn))] → W p l e rm_L_why s m ag below meth c s.heap [] 0 0 Q (F0 m 143 ls []) := by
                          intro n
                          induction n with
                          | zero =>
                            intro i f h0 hi hf hn3 ls hl
                            omega
                          | succ n ih2 =>
                            intro i f h0 hi hf hn3 ls hl
                            have hb3 : i + 1 - 3 * (k / 3) = (i - 3 * (k / 3)) + 1 := by omega
                            have hb4 : 3 * (k / 3) + (i - 3 * (k / 3)) = i := by omega
                            refine lv_iload hx hb dL_why_143 (lv_at hl 0 rfl) ?_
                            refine lv_iconst (v := 3) hx hb dL_why_145 (by decide) ?_
                            refine lv_iload hx hb dL_why_146 (lv_at hl 4 rfl) ?_
                            refine zi_mul hx hb 3 (k / 3) dL_why_148 rfl rfl ?_
                            refine lv_iconst (v := 3) hx hb dL_why_149 (by decide) ?_
                            refine zi_add hx hb (3 * (k / 3)) 3 dL_why_150 rfl rfl ?_
                            refine zi_ge (tgt := 179) hx hb i ((3 * (k / 3)) + 3) dL_why_151 (by decide) rfl rfl (by omega) (by omega) (fun c_485 => ?_) (fun c_485 => ?_)
                            · have hf3 : f ≤ 3 := by rw [hf]; exact Nat.le_trans (cnt_le _ _) (by omega)
                              refine lv_iload hx hb dL_why_179 (lv_at hl 1 rfl) ?_
                              refine lv_iconst (v := 2) hx hb dL_why_181 (by decide) ?_
                              refine zi_ne (tgt := 194) hx hb f 2 dL_why_182 (by decide) rfl rfl (by omega) (by decide) (fun c_486 => ?_) (fun c_486 => ?_)
                              · refine lv_iload_n hx hb dL_why_194 rfl (lv_at hl 8 rfl) ?_
                                refine lv_iload hx hb dL_why_195 (lv_at hl 2 rfl) ?_
                                refine vp_callSi (va_Run.run (va_runS (As := [.int (nI k), .int 0]) (rest := []) ⟨hx, hb, hml, hown, hts⟩ (c_L_field l k 0 (by omega)) (cf_RL_9 hts ⟨Nat.le_of_ble_eq_true rfl, Nat.le_of_ble_eq_true rfl⟩) pre_P rfl rfl hl.1 rfl (lv_room (Nat.le_of_ble_eq_true rfl)) dL_why_197 ⟨Nat.le_of_ble_eq_true rfl, Nat.le_of_ble_eq_true rfl⟩)) (fun r487 hr487 => ?_)
                                subst hr487
                                refine lv_istore (lv' := [(9, .int (lfd (k / 3) 0)), (8, .int (nI f)), (7, .int 0), (6, .int 1), (5, .int (nI (k / 3))), (0, .ref yp), (1, .ref yb), (2, .ref yg), (3, .int (nI k)), (4, .int (nI cn))]) hx hb dL_why_200 hl (by decide) rfl (fun ls hl => ?_)
                                refine lv_iload hx hb dL_why_202 (lv_at hl 0 rfl) ?_
                                refine lv_if_lt (tgt := 237) hx hb dL_why_204 (by decide) (fun c_488 => ?_) (fun c_488 => ?_)
                                · refine lv_bipush (v := 10) hx hb dL_why_237 (by decide) ?_
                                  refine lv_iload hx hb dL_why_239 (lv_at hl 2 rfl) ?_
                                  refine zi_add hx hb 10 0 dL_why_241 rfl rfl ?_
                                  subst hQ
                                  exact W.iret (v := 10) hx hb hr (fun t ht hW => ⟨10, rfl, (by rw [lwy, if_neg c_476, if_neg (fun w => w.2 c_479), if_neg (by rw [eto]; decide), if_neg hq4, if_neg (fun w => by have h1 := (show lth vp (k / 3) (lto vp vb k cn) = f by rw [lth, eto, hf, show i - 3 * (k / 3) = 3 by omega]).symm.trans w.1; have h2 := w.2; rw [eto] at h2; omega), if_neg (by rw [lw6, eto, decide_eq_true_eq]; exact fun w => w.1 c_488), eto]; rfl), ht⟩) (fun _ h => absurd h List.not_mem_nil) dL_why_242
                                · refine lv_iload hx hb dL_why_207 (lv_at hl 0 rfl) ?_
                                  refine lv_bipush (v := 8) hx hb dL_why_209 (by decide) ?_
                                  refine zi_jr hx hb dL_why_211 (by decide) ?_
                                  refine lv_if_ne (tgt := 237) hx hb dL_why_212 (by decide) (fun c_489 => ?_) (fun c_489 => ?_)
                                  · refine lv_bipush (v := 10) hx hb dL_why_237 (by decide) ?_
                                    refine lv_iload hx hb dL_why_239 (lv_at hl 2 rfl) ?_
                                    refine zi_add hx hb 10 0 dL_why_241 rfl rfl ?_
                                    subst hQ
                                    exact W.iret (v := 10) hx hb hr (fun t ht hW => ⟨10, rfl, (by rw [lwy, if_neg c_476, if_neg (fun w => w.2 c_479), if_neg (by rw [eto]; decide), if_neg hq4, if_neg (fun w => by have h1 := (show lth vp (k / 3) (lto vp vb k cn) = f by rw [lth, eto, hf, show i - 3 * (k / 3) = 3 by omega]).symm.trans w.1; have h2 := w.2; rw [eto] at h2; omega), if_neg (by rw [lw6, eto, decide_eq_true_eq]; exact fun w => c_489 w.2.1), eto]; rfl), ht⟩) (fun _ h => absurd h List.not_mem_nil) dL_why_242
                                  · refine lv_aload_n hx hb dL_why_215 rfl (lv_at hl 5 rfl) ?_
                                    refine lv_iload hx hb dL_why_216 (lv_at hl 0 rfl) ?_
                                    have hPc := hP.sub (ws' := [(yp, .inl (cI, 12, .inl vp))]) [0] rfl
                                    have hDc := (hD0.sub (ws' := [(yp, .inl (cI, 12, .inl vp))]) [0] (by decide) rfl).tt
                                    refine vp_callSi (va_Run.run (va_runS (As := [.ref yp, .int (lfd (k / 3) 0)]) (rest := []) ⟨hx, hb, hml, hown, hts⟩ (c_L_all l G cI cC cZ cG s.heap.size yp vp (lfd (k / 3) 0)) (cf_RL_29 hts ⟨Nat.le_of_ble_eq_true rfl, Nat.le_of_ble_eq_true rfl⟩) (pre_S hK hPc hDc) rfl rfl hl.1 rfl (lv_room (Nat.le_of_ble_eq_true rfl)) dL_why_218 ⟨Nat.le_of_ble_eq_true rfl, Nat.le_of_ble_eq_true rfl⟩)) (fun r490 hr490 => ?_)
                                    subst hr490
                                    have hf491 := (@ao_le vp (lfd (k / 3) 0) 4)
                                    refine lv_aload_n hx hb dL_why_221 rfl (lv_at hl 5 rfl) ?_
                                    refine lv_iload hx hb dL_why_222 (lv_at hl 4 rfl) ?_
                                    refine lv_iload hx hb dL_why_224 (lv_at hl 0 rfl) ?_
                                    have hPc := hP.sub (ws' := [(yp, .inl (cI, 12, .inl vp))]) [0] rfl
                                    have hDc := (hD0.sub (ws' := [(yp, .inl (cI, 12, .inl vp))]) [0] (by decide) rfl).tt
                                    refine vp_callSi (va_Run.run (va_runS (As := [.ref yp, .int (nI (k / 3)), .int (lfd (k / 3) 0)]) (rest := [.int (nI (ao vp (lfd (k / 3) 0) 4))]) ⟨hx, hb, hml, hown, hts⟩ (c_L_on l G cI cC cZ cG s.heap.size yp vp (k / 3) (lfd (k / 3) 0) (by omega)) (cf_RL_15 hts ⟨Nat.le_of_ble_eq_true rfl, Nat.le_of_ble_eq_true rfl⟩) (pre_S hK hPc hDc) rfl rfl hl.1 rfl (lv_room (Nat.le_of_ble_eq_true rfl)) dL_why_226 ⟨Nat.le_of_ble_eq_true rfl, Nat.le_of_ble_eq_true rfl⟩)) (fun r492 hr492 => ?_)
                                    subst hr492
                                    have hf493 := (@mpc_le vp (k / 3) (lfd (k / 3) 0))
                                    refine zi_le (tgt := 237) hx hb (ao vp (lfd (k / 3) 0) 4) (mpc vp (k / 3) (lfd (k / 3) 0)) dL_why_229 (by decide) rfl rfl (by omega) (by omega) (fun c_494 => ?_) (fun c_494 => ?_)
                                    · refine lv_bipush (v := 10) hx hb dL_why_237 (by decide) ?_
                                      refine lv_iload hx hb dL_why_239 (lv_at hl 2 rfl) ?_
                                      refine zi_add hx hb 10 0 dL_why_241 rfl rfl ?_
                                      subst hQ
                                      exact W.iret (v := 10) hx hb hr (fun t ht hW => ⟨10, rfl, (by rw [lwy, if_neg c_476, if_neg (fun w => w.2 c_479), if_neg (by rw [eto]; decide), if_neg hq4, if_neg (fun w => by have h1 := (show lth vp (k / 3) (lto vp vb k cn) = f by rw [lth, eto, hf, show i - 3 * (k / 3) = 3 by omega]).symm.trans w.1; have h2 := w.2; rw [eto] at h2; omega), if_neg (by rw [lw6, eto, decide_eq_true_eq]; exact fun w => absurd w.2.2 (by omega)), eto]; rfl), ht⟩) (fun _ h => absurd h List.not_mem_nil) dL_why_242
                                    · refine lv_bipush (v := 6) hx hb dL_why_232 (by decide) ?_
                                      refine lv_goto (tgt := 242) hx hb dL_why_234 (by decide) ?_
                                      subst hQ
                                      exact W.iret (v := 6) hx hb hr (fun t ht hW => ⟨6, rfl, (by rw [lwy, if_neg c_476, if_neg (fun w => w.2 c_479), if_neg (by rw [eto]; decide), if_neg hq4, if_neg (fun w => by have h1 := (show lth vp (k / 3) (lto vp vb k cn) = f by rw [lth, eto, hf, show i - 3 * (k / 3) = 3 by omega]).symm.trans w.1; have h2 := w.2; rw [eto] at h2; omega), if_pos (by rw [lw6, eto, decide_eq_true_eq]; exact ⟨c_488, c_489, c_494⟩)]), ht⟩) (fun _ h => absurd h List.not_mem_nil) dL_why_242
                              · refine lv_iload hx hb dL_why_185 (lv_at hl 2 rfl) ?_
                                refine lv_bipush (v := 35) hx hb dL_why_187 (by decide) ?_
                                refine lv_icmp_ge (tgt := 194) hx hb dL_why_189 (by decide) (fun c_495 => ?_) (fun c_495 => ?_)
                                · exact absurd c_495 (by decide)
                                · refine lv_iconst (v := 5) hx hb dL_why_192 (by decide) ?_
                                  subst hQ
                                  exact W.iret (v := 5) hx hb hr (fun t ht hW => ⟨5, rfl, (by rw [lwy, if_neg c_476, if_neg (fun w => w.2 c_479), if_neg (by rw [eto]; decide), if_neg hq4, if_pos ⟨(show lth vp (k / 3) (lto vp vb k cn) = f by rw [lth, eto, hf, show i - 3 * (k / 3) = 3 by omega]).trans (by omega), by rw [eto]; decide⟩]), ht⟩) (fun _ h => absurd h List.not_mem_nil) dL_why_193
                            · refine lv_iload hx hb dL_why_154 (lv_at hl 1 rfl) ?_
                              refine lv_aload_n hx hb dL_why_156 rfl (lv_at hl 5 rfl) ?_
                              refine lv_iload hx hb dL_why_157 (lv_at hl 0 rfl) ?_
                              refine za_ld hx hb hK.1 hP 0 0 rfl rfl i rfl (by omega) (by decide) dL_why_159 ?_
                              refine lv_iload hx hb dL_why_160 (lv_at hl 2 rfl) ?_
                              refine lv_icmp_ne (tgt := 169) hx hb dL_why_162 (by decide) (fun c_496 => ?_) (fun c_496 => ?_)
                              · refine lv_iconst (v := 0) hx hb dL_why_169 (by decide) ?_
                                refine zi_add hx hb f 0 dL_why_170 rfl rfl ?_
                                refine lv_istore (lv' := [(8, .int (nI (f + 0))), (9, .int (nI i)), (7, .int 0), (6, .int 1), (5, .int (nI (k / 3))), (0, .ref yp), (1, .ref yb), (2, .ref yg), (3, .int (nI k)), (4, .int (nI cn))]) hx hb dL_why_171 hl (by decide) rfl (fun ls hl => ?_)
                                refine lv_iinc (v := nI (i + 1)) (lv' := [(9, .int (nI (i + 1))), (8, .int (nI (f + 0))), (7, .int 0), (6, .int 1), (5, .int (nI (k / 3))), (0, .ref yp), (1, .ref yb), (2, .ref yg), (3, .int (nI k)), (4, .int (nI cn))]) hx hb dL_why_173 hl (k := 1) rfl (nI_inc i) (by decide) rfl (fun ls hl => ?_)
                                refine lv_goto (tgt := 143) hx hb dL_why_176 (by decide) ?_
                                exact ih2 (i + 1) (f + 0) (by omega) (by omega) (by rw [hb3, Nat.add_zero, cnt_f (by rw [thP, hb4, decide_eq_true_eq]; exact c_496), hf]) (by omega) _ (lv_sub hl [0, 1, 2, 3, 4, 5, 6, 7, 8, 9] rfl)
                              · refine lv_iconst (v := 1) hx hb dL_why_165 (by decide) ?_
                                refine lv_goto (tgt := 170) hx hb dL_why_166 (by decide) ?_
                                refine zi_add hx hb f 1 dL_why_170 rfl rfl ?_
                                refine lv_istore (lv' := [(8, .int (nI (f + 1))), (9, .int (nI i)), (7, .int 0), (6, .int 1), (5, .int (nI (k / 3))), (0, .ref yp), (1, .ref yb), (2, .ref yg), (3, .int (nI k)), (4, .int (nI cn))]) hx hb dL_why_171 hl (by decide) rfl (fun ls hl => ?_)
                                refine lv_iinc (v := nI (i + 1)) (lv' := [(9, .int (nI (i + 1))), (8, .int (nI (f + 1))), (7, .int 0), (6, .int 1), (5, .int (nI (k / 3))), (0, .ref yp), (1, .ref yb), (2, .ref yg), (3, .int (nI k)), (4, .int (nI cn))]) hx hb dL_why_173 hl (k := 1) rfl (nI_inc i) (by decide) rfl (fun ls hl => ?_)
                                refine lv_goto (tgt := 143) hx hb dL_why_176 (by decide) ?_
                                exact ih2 (i + 1) (f + 1) (by omega) (by omega) (by rw [hb3, cnt_t (by rw [thP, hb4, decide_eq_true_eq]; exact c_496), hf]) (by omega) _ (lv_sub hl [0, 1, 2, 3, 4, 5, 6, 7, 8, 9] rfl)
                        exact L2 4 (3 * (k / 3)) 0 (by omega) (by omega) (by rw [Nat.sub_self]; rfl) (by omega) _ (lv_sub hl [0, 1, 2, 3, 4, 5, 6, 7, 8, 9] rfl)
                      · exact absurd c_483 (by decide)
                    · obtain rfl : xa = nI b2 := by rw [hxa]; exact nI_pred b2
                      refine lv_iload hx hb dL_why_75 (lv_at hl 0 rfl) ?_
                      refine z0_lt (tgt := 134) hx hb b2 dL_why_77 (by decide) rfl (by omega) ?_
                      refine lv_iload hx hb dL_why_80 (lv_at hl 0 rfl) ?_
                      refine lv_aload_n hx hb dL_why_82 rfl (lv_at hl 4 rfl) ?_
                      refine lv_iload_n hx hb dL_why_83 rfl (lv_at hl 7 rfl) ?_
                      refine za_ld hx hb hK.1 hP 0 0 rfl rfl k rfl (by omega) (by decide) dL_why_84 ?_
                      refine lv_icmp_le (tgt := 134) hx hb dL_why_85 (by decide) (fun c_498 => ?_) (fun c_498 => ?_)
                      · exact absurd c_498 (by rw [ea]; exact n6_le (by omega))
                      · refine lv_iconst (v := 0) hx hb dL_why_88 (by decide) ?_
                        refine lv_istore (lv' := [(9, .int 0), (8, .int (nI b2)), (7, .int 0), (6, .int 1), (5, .int (nI (k / 3))), (0, .ref yp), (1, .ref yb), (2, .ref yg), (3, .int (nI k)), (4, .int (nI cn))]) hx hb dL_why_89 hl (by decide) rfl (fun ls hl => ?_)
                        have L3 : ∀ (n : Nat), ∀ (i : Nat), ∀ (hi : i ≤ 4), ∀ (hf2 : blO vp (k / 3) (lfd (k / 3) (nI b2)) i = false), ∀ (hn2 : 5 ≤ i + n), ∀ (ls : Array Slot), lv_has ls 10 [(9, .int (nI i)), (8, .int (nI b2)), (7, .int 0), (6, .int 1), (5, .int (nI (k / 3))), (0, .ref yp), (1, .ref yb), (2, .ref yg), (3, .int (nI k)), (4, .int (nI cn))] → W p l e rm_L_why s m ag below meth c s.heap [] 0 0 Q (F0 m 91 ls []) := by
                          intro n
                          induction n with
                          | zero =>
                            intro i hi hf2 hn2 ls hl
                            omega
                          | succ n ih3 =>
                            intro i hi hf2 hn2 ls hl
                            refine lv_iload hx hb dL_why_91 (lv_at hl 0 rfl) ?_
                            refine lv_iconst (v := 4) hx hb dL_why_93 (by decide) ?_
                            refine zi_ge (tgt := 128) hx hb i 4 dL_why_94 (by decide) rfl rfl (by omega) (by decide) (fun c_500 => ?_) (fun c_500 => ?_)
                            · refine lv_iinc (v := (nI b2) + Int32.ofInt (-1)) (lv' := [(8, .int ((nI b2) + Int32.ofInt (-1))), (9, .int (nI i)), (7, .int 0), (6, .int 1), (5, .int (nI (k / 3))), (0, .ref yp), (1, .ref yb), (2, .ref yg), (3, .int (nI k)), (4, .int (nI cn))]) hx hb dL_why_128 hl (k := 1) rfl rfl (by decide) rfl (fun ls hl => ?_)
                              refine lv_goto (tgt := 75) hx hb dL_why_131 (by decide) ?_
                              exact ih1 b2 ((nI b2) + Int32.ofInt (-1)) (by omega) (dec_sub b2) (fun c h1 h2 => (Nat.eq_or_lt_of_le h1).elim (fun e => by have h := hf2; rw [show i = 4 by omega] at h; rw [← e, lbP]; exact h) (fun e => hbl c e h2)) (by omega) _ (lv_sub hl [0, 2, 3, 4, 5, 6, 7, 8, 9] rfl)
                            · refine lv_iload hx hb dL_why_97 (lv_at hl 0 rfl) ?_
                              refine lv_iload hx hb dL_why_99 (lv_at hl 4 rfl) ?_
                              refine zi_eq (tgt := 122) hx hb i (k / 3) dL_why_101 (by decide) rfl rfl (by omega) (by omega) (fun c_501 => ?_) (fun c_501 => ?_)
                              · refine lv_iinc (v := nI (i + 1)) (lv' := [(9, .int (nI (i + 1))), (8, .int (nI b2)), (7, .int 0), (6, .int 1), (5, .int (nI (k / 3))), (0, .ref yp), (1, .ref yb), (2, .ref yg), (3, .int (nI k)), (4, .int (nI cn))]) hx hb dL_why_122 hl (k := 0) rfl (nI_inc i) (by decide) rfl (fun ls hl => ?_)
                                refine lv_goto (tgt := 91) hx hb dL_why_125 (by decide) ?_
                                exact ih3 (i + 1) (by omega) (bl_st hf2 (fun w => absurd c_501 w.1)) (by omega) _ (lv_sub hl [0, 1, 2, 3, 4, 5, 6, 7, 8, 9] rfl)
                              · refine lv_aload_n hx hb dL_why_104 rfl (lv_at hl 5 rfl) ?_
                                refine lv_iload hx hb dL_why_105 (lv_at hl 0 rfl) ?_
                                refine lv_iload_n hx hb dL_why_107 rfl (lv_at hl 8 rfl) ?_
                                refine lv_iload hx hb dL_why_108 (lv_at hl 1 rfl) ?_
                                refine vp_callSi (va_Run.run (va_runS (As := [.int (nI k), .int (nI b2)]) (rest := [.int (nI i), .ref yp]) ⟨hx, hb, hml, hown, hts⟩ (c_L_field l k (nI b2) (by omega)) (cf_RL_9 hts ⟨Nat.le_of_ble_eq_true rfl, Nat.le_of_ble_eq_true rfl⟩) pre_P rfl rfl hl.1 rfl (lv_room (Nat.le_of_ble_eq_true rfl)) dL_why_110 ⟨Nat.le_of_ble_eq_true rfl, Nat.le_of_ble_eq_true rfl⟩)) (fun r502 hr502 => ?_)
                                subst hr502
                                have hPc := hP.sub (ws' := [(yp, .inl (cI, 12, .inl vp))]) [0] rfl
                                have hDc := (hD0.sub (ws' := [(yp, .inl (cI, 12, .inl vp))]) [0] (by decide) rfl).tt
                                refine vp_callSi (va_Run.run (va_runS (As := [.ref yp, .int (nI i), .int (lfd (k / 3) (nI b2))]) (rest := []) ⟨hx, hb, hml, hown, hts⟩ (c_L_on l G cI cC cZ cG s.heap.size yp vp i (lfd (k / 3) (nI b2)) (by omega)) (cf_RL_15 hts ⟨Nat.le_of_ble_eq_true rfl, Nat.le_of_ble_eq_true rfl⟩) (pre_S hK hPc hDc) rfl rfl hl.1 rfl (lv_room (Nat.le_of_ble_eq_true rfl)) dL_why_113 ⟨Nat.le_of_ble_eq_true rfl, Nat.le_of_ble_eq_true rfl⟩)) (fun r503 hr503 => ?_)
                                subst hr503
                                have hf504 := (@mpc_le vp i (lfd (k / 3) (nI b2)))
                                refine lv_iconst (v := 1) hx hb dL_why_116 (by decide) ?_
                                refine zi_le (tgt := 122) hx hb (mpc vp i (lfd (k / 3) (nI b2))) 1 dL_why_117 (by decide) rfl rfl (by omega) (by decide) (fun c_505 => ?_) (fun c_505 => ?_)
                                · refine lv_iinc (v := nI (i + 1)) (lv' := [(9, .int (nI (i + 1))), (8, .int (nI b2)), (7, .int 0), (6, .int 1), (5, .int (nI (k / 3))), (0, .ref yp), (1, .ref yb), (2, .ref yg), (3, .int (nI k)), (4, .int (nI cn))]) hx hb dL_why_122 hl (k := 0) rfl (nI_inc i) (by decide) rfl (fun ls hl => ?_)
                                  refine lv_goto (tgt := 91) hx hb dL_why_125 (by decide) ?_
                                  exact ih3 (i + 1) (by omega) (bl_st hf2 (fun w => absurd w.2 (by omega))) (by omega) _ (lv_sub hl [0, 1, 2, 3, 4, 5, 6, 7, 8, 9] rfl)
                                · refine lv_iconst (v := 4) hx hb dL_why_120 (by decide) ?_
                                  subst hQ
                                  exact W.iret (v := 4) hx hb hr (fun t ht hW => ⟨4, rfl, (by rw [lwy, if_neg c_476, if_neg (fun w => w.2 c_479), if_neg (by rw [eto]; decide), if_pos (by rw [lbQ, eto, ef]; exact any_of _ _ b2 (by omega) (by have e : (0 : Int32).toNatClampNeg = 0 := rfl; omega) (bl_hit c_500 c_501 c_505))]), ht⟩) (fun _ h => absurd h List.not_mem_nil) dL_why_121
                        exact L3 5 0 (by decide) rfl (by decide) _ (lv_sub hl [0, 1, 2, 3, 4, 5, 6, 7, 8, 9] rfl)
                exact L1 (0 + 2) (0 + 1) 0 (Nat.le_refl _) ((nI_pred 0).symm) (fun c h1 h2 => absurd h1 (by omega)) (by omega) _ (lv_sub hl [0, 1, 2, 3, 4, 5, 6, 7, 8] rfl)
              · exact absurd c_481 (by decide)
          · refine lv_iconst (v := 2) hx hb dL_why_41 (by decide) ?_
            subst hQ
            exact W.iret (v := 2) hx hb hr (fun t ht hW => ⟨2, rfl, (by rw [lwy, if_neg c_476, if_pos ⟨ea, c_479⟩]), ht⟩) (fun _ h => absurd h List.not_mem_nil) dL_why_42
    · have eca : (vp k).toNatClampNeg = a := by rw [ea, nI_clamp (by omega)]
      refine lv_aload_n hx hb dL_why_15 rfl (lv_at hl 1 rfl) ?_
      refine lv_iload_n hx hb dL_why_16 rfl (lv_at hl 4 rfl) ?_
      refine za_ld hx hb hK.1 hP 0 0 rfl rfl k rfl (by omega) (by decide) dL_why_17 ?_
      refine z0_ge (tgt := 25) hx hb a dL_why_18 (by decide) ea (by omega) ?_
      refine lv_iconst (v := 0) hx hb dL_why_25 (by decide) ?_
      refine lv_istore (lv' := [(6, .int 0), (5, .int (nI (k / 3))), (0, .ref yp), (1, .ref yb), (2, .ref yg), (3, .int (nI k)), (4, .int (nI cn))]) hx hb dL_why_26 hl (by decide) rfl (fun ls hl => ?_)
      refine lv_iload hx hb dL_why_28 (lv_at hl 0 rfl) ?_
      refine lv_if_eq (tgt := 43) hx hb dL_why_30 (by decide) (fun c_507 => ?_) (fun c_507 => ?_)
      · refine lv_iload hx hb dL_why_43 (lv_at hl 0 rfl) ?_
        refine lv_if_eq (tgt := 52) hx hb dL_why_45 (by decide) (fun c_508 => ?_) (fun c_508 => ?_)
        · refine lv_aload_n hx hb dL_why_52 rfl (lv_at hl 3 rfl) ?_
          refine lv_iload_n hx hb dL_why_53 rfl (lv_at hl 5 rfl) ?_
          refine lv_aload_n hx hb dL_why_54 rfl (lv_at hl 2 rfl) ?_
          refine lv_iload_n hx hb dL_why_55 rfl (lv_at hl 5 rfl) ?_
          refine za_ld hx hb hK.1 hP 0 0 rfl rfl k rfl (by omega) (by decide) dL_why_56 ?_
          refine lv_iload hx hb dL_why_57 (lv_at hl 6 rfl) ?_
          rw [ea]
          have hPc := hP.sub (ws' := [(yb, .inl (cI, 12, .inl vb))]) [1] rfl
          have hDc := (hD0.sub (ws' := [(yb, .inl (cI, 12, .inl vb))]) [1] (by decide) rfl).tt
          refine vp_callSi (va_Run.run (va_runS (As := [.ref yb, .int (nI k), .int (nI a), .int (nI cn)]) (rest := []) ⟨hx, hb, hml, hown, hts⟩ (c_L_leads l G cI cC cZ cG s.heap.size yb vb k a cn (by omega) (by omega) (by omega)) (cf_RL_25 hts ⟨Nat.le_of_ble_eq_true rfl, Nat.le_of_ble_eq_true rfl⟩) (pre_S hK hPc hDc) rfl rfl hl.1 rfl (lv_room (Nat.le_of_ble_eq_true rfl)) dL_why_59 ⟨Nat.le_of_ble_eq_true rfl, Nat.le_of_ble_eq_true rfl⟩)) (fun r509 hr509 => ?_)
          subst hr509
          refine lv_istore (lv' := [(7, .int (ldG (fbN vb (k / 3)) a cn)), (6, .int 0), (5, .int (nI (k / 3))), (0, .ref yp), (1, .ref yb), (2, .ref yg), (3, .int (nI k)), (4, .int (nI cn))]) hx hb dL_why_62 hl (by decide) rfl (fun ls hl => ?_)
          refine lv_iload hx hb dL_why_64 (lv_at hl 0 rfl) ?_
          refine lv_if_ge (tgt := 71) hx hb dL_why_66 (by decide) (fun c_510 => ?_) (fun c_510 => ?_)
          · obtain ⟨tv, htv, et, etg⟩ := ld_ok hc1 (Int32.not_lt.mpr c_510)
            have eto : lto vp vb k cn = nI tv := by rw [lto, if_neg (by rw [ea]; exact nI_neg (by omega) (by decide)), eca, et]
            have ef : fst0 (vp k) = a + 1 := by rw [ea]; exact fst_n (by omega)
            have hat : a < tv := tgI_gt etg hc1 htv
            rw [et] at hl
            refine lv_iload hx hb dL_why_71 (lv_at hl 0 rfl) ?_
            refine lv_istore (lv' := [(8, .int (nI tv)), (7, .int (nI tv)), (6, .int 0), (5, .int (nI (k / 3))), (0, .ref yp), (1, .ref yb), (2, .ref yg), (3, .int (nI k)), (4, .int (nI cn))]) hx hb dL_why_73 hl (by decide) rfl (fun ls hl => ?_)
            have L4 : ∀ (n : Nat), ∀ (Ac : Nat), ∀ (xa : Int32), ∀ (hAc : Ac ≤ tv + 1), ∀ (hxa : xa = nI Ac - 1), ∀ (hbl : ∀ c, Ac ≤ c → c ≤ tv → lbP vp (k / 3) c = false), ∀ (hn : Ac + 1 ≤ n), ∀ (ls : Array Slot), lv_has ls 10 [(8, .int xa), (7, .int (nI tv)), (6, .int 0), (5, .int (nI (k / 3))), (0, .ref yp), (1, .ref yb), (2, .ref yg), (3, .int (nI k)), (4, .int (nI cn))] → W p l e rm_L_why s m ag below meth c s.heap [] 0 0 Q (F0 m 75 ls []) := by
              intro n
              induction n with
              | zero =>
                intro Ac xa hAc hxa hbl hn ls hl
                omega
              | succ n ih4 =>
                intro Ac xa hAc hxa hbl hn ls hl
                rcases Ac with _ | b2
                · obtain rfl : xa = -1 := by rw [hxa]; decide
                  refine lv_iload hx hb dL_why_75 (lv_at hl 0 rfl) ?_
                  refine lv_if_lt (tgt := 134) hx hb dL_why_77 (by decide) (fun c_512 => ?_) (fun c_512 => ?_)
                  · have hq4 : ¬ lbQ vp k (lto vp vb k cn) = true := by rw [lbQ, eto, ef, nI_clamp (show tv < 2 ^ 31 by omega)]; exact fun w => by rw [anyp_no _ (a + 1) (fun c h1 h2 => hbl c (by omega) (by omega))] at w; cases w
                    refine lv_iconst (v := 0) hx hb dL_why_134 (by decide) ?_
                    refine lv_istore (lv' := [(8, .int 0), (7, .int (nI tv)), (6, .int 0), (5, .int (nI (k / 3))), (0, .ref yp), (1, .ref yb), (2, .ref yg), (3, .int (nI k)), (4, .int (nI cn))]) hx hb dL_why_135 hl (by decide) rfl (fun ls hl => ?_)
                    refine lv_iconst (v := 3) hx hb dL_why_137 (by decide) ?_
                    refine lv_iload hx hb dL_why_138 (lv_at hl 3 rfl) ?_
                    refine zi_mul hx hb 3 (k / 3) dL_why_140 rfl rfl ?_
                    refine lv_istore (lv' := [(9, .int (nI (3 * (k / 3)))), (8, .int 0), (7, .int (nI tv)), (6, .int 0), (5, .int (nI (k / 3))), (0, .ref yp), (1, .ref yb), (2, .ref yg), (3, .int (nI k)), (4, .int (nI cn))]) hx hb dL_why_141 hl (by decide) rfl (fun ls hl => ?_)
                    have L5 : ∀ (n : Nat), ∀ (i : Nat), ∀ (f : Nat), ∀ (h0 : 3 * (k / 3) ≤ i), ∀ (hi : i ≤ 3 * (k / 3) + 3), ∀ (hf : f = cnt (thP vp (k / 3) (nI tv)) (i - 3 * (k / 3))), ∀ (hn3 : 3 * (k / 3) + 4 ≤ i + n), ∀ (ls : Array Slot), lv_has ls 10 [(9, .int (nI i)), (8, .int (nI f)), (7, .int (nI tv)), (6, .int 0), (5, .int (nI (k / 3))), (0, .ref yp), (1, .ref yb), (2, .ref yg), (3, .int (nI k)), (4, .int (nI cn))] → W p l e rm_L_why s m ag below meth c s.heap [] 0 0 Q (F0 m 143 ls []) := by
                      intro n
                      induction n with
                      | zero =>
                        intro i f h0 hi hf hn3 ls hl
                        omega
                      | succ n ih5 =>
                        intro i f h0 hi hf hn3 ls hl
                        have hb3 : i + 1 - 3 * (k / 3) = (i - 3 * (k / 3)) + 1 := by omega
                        have hb4 : 3 * (k / 3) + (i - 3 * (k / 3)) = i := by omega
                        refine lv_iload hx hb dL_why_143 (lv_at hl 0 rfl) ?_
                        refine lv_iconst (v := 3) hx hb dL_why_145 (by decide) ?_
                        refine lv_iload hx hb dL_why_146 (lv_at hl 4 rfl) ?_
                        refine zi_mul hx hb 3 (k / 3) dL_why_148 rfl rfl ?_
                        refine lv_iconst (v := 3) hx hb dL_why_149 (by decide) ?_
                        refine zi_add hx hb (3 * (k / 3)) 3 dL_why_150 rfl rfl ?_
                        refine zi_ge (tgt := 179) hx hb i ((3 * (k / 3)) + 3) dL_why_151 (by decide) rfl rfl (by omega) (by omega) (fun c_514 => ?_) (fun c_514 => ?_)
                        · have hf3 : f ≤ 3 := by rw [hf]; exact Nat.le_trans (cnt_le _ _) (by omega)
                          refine lv_iload hx hb dL_why_179 (lv_at hl 1 rfl) ?_
                          refine lv_iconst (v := 2) hx hb dL_why_181 (by decide) ?_
                          refine zi_ne (tgt := 194) hx hb f 2 dL_why_182 (by decide) rfl rfl (by omega) (by decide) (fun c_515 => ?_) (fun c_515 => ?_)
                          · refine lv_iload_n hx hb dL_why_194 rfl (lv_at hl 8 rfl) ?_
                            refine lv_iload hx hb dL_why_195 (lv_at hl 2 rfl) ?_
                            refine vp_callSi (va_Run.run (va_runS (As := [.int (nI k), .int (nI tv)]) (rest := []) ⟨hx, hb, hml, hown, hts⟩ (c_L_field l k (nI tv) (by omega)) (cf_RL_9 hts ⟨Nat.le_of_ble_eq_true rfl, Nat.le_of_ble_eq_true rfl⟩) pre_P rfl rfl hl.1 rfl (lv_room (Nat.le_of_ble_eq_true rfl)) dL_why_197 ⟨Nat.le_of_ble_eq_true rfl, Nat.le_of_ble_eq_true rfl⟩)) (fun r516 hr516 => ?_)
                            subst hr516
                            refine lv_istore (lv' := [(9, .int (lfd (k / 3) (nI tv))), (8, .int (nI f)), (7, .int (nI tv)), (6, .int 0), (5, .int (nI (k / 3))), (0, .ref yp), (1, .ref yb), (2, .ref yg), (3, .int (nI k)), (4, .int (nI cn))]) hx hb dL_why_200 hl (by decide) rfl (fun ls hl => ?_)
                            refine lv_iload hx hb dL_why_202 (lv_at hl 0 rfl) ?_
                            refine lv_if_lt (tgt := 237) hx hb dL_why_204 (by decide) (fun c_517 => ?_) (fun c_517 => ?_)
                            · refine lv_bipush (v := 10) hx hb dL_why_237 (by decide) ?_
                              refine lv_iload hx hb dL_why_239 (lv_at hl 2 rfl) ?_
                              refine zi_add hx hb 10 tv dL_why_241 rfl rfl ?_
                              subst hQ
                              exact W.iret (v := nI (10 + tv)) hx hb hr (fun t ht hW => ⟨nI (10 + tv), rfl, (by rw [lwy, if_neg c_476, if_neg (fun w => by have := ea.symm.trans w.1; exact nI_neg (by omega) (by decide) this), if_neg (by rw [eto]; exact nI_pos (by omega)), if_neg hq4, if_neg (fun w => by have h1 := (show lth vp (k / 3) (lto vp vb k cn) = f by rw [lth, eto, hf, show i - 3 * (k / 3) = 3 by omega]).symm.trans w.1; have h2 := w.2; rw [eto] at h2; first | omega | exact absurd ((nI_ltI (a := tv) (b := 35) (by omega) (by decide)).mp h2) (by omega)), if_neg (by rw [lw6, eto, decide_eq_true_eq]; exact fun w => w.1 c_517), eto]; exact (nI_add 10 tv).symm), ht⟩) (fun _ h => absurd h List.not_mem_nil) dL_why_242
                            · refine lv_iload hx hb dL_why_207 (lv_at hl 0 rfl) ?_
                              refine lv_bipush (v := 8) hx hb dL_why_209 (by decide) ?_
                              refine zi_jr hx hb dL_why_211 (by decide) ?_
                              refine lv_if_ne (tgt := 237) hx hb dL_why_212 (by decide) (fun c_518 => ?_) (fun c_518 => ?_)
                              · refine lv_bipush (v := 10) hx hb dL_why_237 (by decide) ?_
                                refine lv_iload hx hb dL_why_239 (lv_at hl 2 rfl) ?_
                                refine zi_add hx hb 10 tv dL_why_241 rfl rfl ?_
                                subst hQ
                                exact W.iret (v := nI (10 + tv)) hx hb hr (fun t ht hW => ⟨nI (10 + tv), rfl, (by rw [lwy, if_neg c_476, if_neg (fun w => by have := ea.symm.trans w.1; exact nI_neg (by omega) (by decide) this), if_neg (by rw [eto]; exact nI_pos (by omega)), if_neg hq4, if_neg (fun w => by have h1 := (show lth vp (k / 3) (lto vp vb k cn) = f by rw [lth, eto, hf, show i - 3 * (k / 3) = 3 by omega]).symm.trans w.1; have h2 := w.2; rw [eto] at h2; first | omega | exact absurd ((nI_ltI (a := tv) (b := 35) (by omega) (by decide)).mp h2) (by omega)), if_neg (by rw [lw6, eto, decide_eq_true_eq]; exact fun w => c_518 w.2.1), eto]; exact (nI_add 10 tv).symm), ht⟩) (fun _ h => absurd h List.not_mem_nil) dL_why_242
                              · refine lv_aload_n hx hb dL_why_215 rfl (lv_at hl 5 rfl) ?_
                                refine lv_iload hx hb dL_why_216 (lv_at hl 0 rfl) ?_
                                have hPc := hP.sub (ws' := [(yp, .inl (cI, 12, .inl vp))]) [0] rfl
                                have hDc := (hD0.sub (ws' := [(yp, .inl (cI, 12, .inl vp))]) [0] (by decide) rfl).tt
                                refine vp_callSi (va_Run.run (va_runS (As := [.ref yp, .int (lfd (k / 3) (nI tv))]) (rest := []) ⟨hx, hb, hml, hown, hts⟩ (c_L_all l G cI cC cZ cG s.heap.size yp vp (lfd (k / 3) (nI tv))) (cf_RL_29 hts ⟨Nat.le_of_ble_eq_true rfl, Nat.le_of_ble_eq_true rfl⟩) (pre_S hK hPc hDc) rfl rfl hl.1 rfl (lv_room (Nat.le_of_ble_eq_true rfl)) dL_why_218 ⟨Nat.le_of_ble_eq_true rfl, Nat.le_of_ble_eq_true rfl⟩)) (fun r519 hr519 => ?_)
                                subst hr519
                                have hf520 := (@ao_le vp (lfd (k / 3) (nI tv)) 4)
                                refine lv_aload_n hx hb dL_why_221 rfl (lv_at hl 5 rfl) ?_
                                refine lv_iload hx hb dL_why_222 (lv_at hl 4 rfl) ?_
                                refine lv_iload hx hb dL_why_224 (lv_at hl 0 rfl) ?_
                                have hPc := hP.sub (ws' := [(yp, .inl (cI, 12, .inl vp))]) [0] rfl
                                have hDc := (hD0.sub (ws' := [(yp, .inl (cI, 12, .inl vp))]) [0] (by decide) rfl).tt
                                refine vp_callSi (va_Run.run (va_runS (As := [.ref yp, .int (nI (k / 3)), .int (lfd (k / 3) (nI tv))]) (rest := [.int (nI (ao vp (lfd (k / 3) (nI tv)) 4))]) ⟨hx, hb, hml, hown, hts⟩ (c_L_on l G cI cC cZ cG s.heap.size yp vp (k / 3) (lfd (k / 3) (nI tv)) (by omega)) (cf_RL_15 hts ⟨Nat.le_of_ble_eq_true rfl, Nat.le_of_ble_eq_true rfl⟩) (pre_S hK hPc hDc) rfl rfl hl.1 rfl (lv_room (Nat.le_of_ble_eq_true rfl)) dL_why_226 ⟨Nat.le_of_ble_eq_true rfl, Nat.le_of_ble_eq_true rfl⟩)) (fun r521 hr521 => ?_)
                                subst hr521
                                have hf522 := (@mpc_le vp (k / 3) (lfd (k / 3) (nI tv)))
                                refine zi_le (tgt := 237) hx hb (ao vp (lfd (k / 3) (nI tv)) 4) (mpc vp (k / 3) (lfd (k / 3) (nI tv))) dL_why_229 (by decide) rfl rfl (by omega) (by omega) (fun c_523 => ?_) (fun c_523 => ?_)
                                · refine lv_bipush (v := 10) hx hb dL_why_237 (by decide) ?_
                                  refine lv_iload hx hb dL_why_239 (lv_at hl 2 rfl) ?_
                                  refine zi_add hx hb 10 tv dL_why_241 rfl rfl ?_
                                  subst hQ
                                  exact W.iret (v := nI (10 + tv)) hx hb hr (fun t ht hW => ⟨nI (10 + tv), rfl, (by rw [lwy, if_neg c_476, if_neg (fun w => by have := ea.symm.trans w.1; exact nI_neg (by omega) (by decide) this), if_neg (by rw [eto]; exact nI_pos (by omega)), if_neg hq4, if_neg (fun w => by have h1 := (show lth vp (k / 3) (lto vp vb k cn) = f by rw [lth, eto, hf, show i - 3 * (k / 3) = 3 by omega]).symm.trans w.1; have h2 := w.2; rw [eto] at h2; first | omega | exact absurd ((nI_ltI (a := tv) (b := 35) (by omega) (by decide)).mp h2) (by omega)), if_neg (by rw [lw6, eto, decide_eq_true_eq]; exact fun w => absurd w.2.2 (by omega)), eto]; exact (nI_add 10 tv).symm), ht⟩) (fun _ h => absurd h List.not_mem_nil) dL_why_242
                                · refine lv_bipush (v := 6) hx hb dL_why_232 (by decide) ?_
                                  refine lv_goto (tgt := 242) hx hb dL_why_234 (by decide) ?_
                                  subst hQ
                                  exact W.iret (v := 6) hx hb hr (fun t ht hW => ⟨6, rfl, (by rw [lwy, if_neg c_476, if_neg (fun w => by have := ea.symm.trans w.1; exact nI_neg (by omega) (by decide) this), if_neg (by rw [eto]; exact nI_pos (by omega)), if_neg hq4, if_neg (fun w => by have h1 := (show lth vp (k / 3) (lto vp vb k cn) = f by rw [lth, eto, hf, show i - 3 * (k / 3) = 3 by omega]).symm.trans w.1; have h2 := w.2; rw [eto] at h2; first | omega | exact absurd ((nI_ltI (a := tv) (b := 35) (by omega) (by decide)).mp h2) (by omega)), if_pos (by rw [lw6, eto, decide_eq_true_eq]; exact ⟨c_517, c_518, c_523⟩)]), ht⟩) (fun _ h => absurd h List.not_mem_nil) dL_why_242
                          · refine lv_iload hx hb dL_why_185 (lv_at hl 2 rfl) ?_
                            refine lv_bipush (v := 35) hx hb dL_why_187 (by decide) ?_
                            refine zi_ge (tgt := 194) hx hb tv 35 dL_why_189 (by decide) rfl rfl (by omega) (by decide) (fun c_524 => ?_) (fun c_524 => ?_)
                            · refine lv_iload_n hx hb dL_why_194 rfl (lv_at hl 8 rfl) ?_
                              refine lv_iload hx hb dL_why_195 (lv_at hl 2 rfl) ?_
                              refine vp_callSi (va_Run.run (va_runS (As := [.int (nI k), .int (nI tv)]) (rest := []) ⟨hx, hb, hml, hown, hts⟩ (c_L_field l k (nI tv) (by omega)) (cf_RL_9 hts ⟨Nat.le_of_ble_eq_true rfl, Nat.le_of_ble_eq_true rfl⟩) pre_P rfl rfl hl.1 rfl (lv_room (Nat.le_of_ble_eq_true rfl)) dL_why_197 ⟨Nat.le_of_ble_eq_true rfl, Nat.le_of_ble_eq_true rfl⟩)) (fun r525 hr525 => ?_)
                              subst hr525
                              refine lv_istore (lv' := [(9, .int (lfd (k / 3) (nI tv))), (8, .int (nI f)), (7, .int (nI tv)), (6, .int 0), (5, .int (nI (k / 3))), (0, .ref yp), (1, .ref yb), (2, .ref yg), (3, .int (nI k)), (4, .int (nI cn))]) hx hb dL_why_200 hl (by decide) rfl (fun ls hl => ?_)
                              refine lv_iload hx hb dL_why_202 (lv_at hl 0 rfl) ?_
                              refine lv_if_lt (tgt := 237) hx hb dL_why_204 (by decide) (fun c_526 => ?_) (fun c_526 => ?_)
                              · refine lv_bipush (v := 10) hx hb dL_why_237 (by decide) ?_
                                refine lv_iload hx hb dL_why_239 (lv_at hl 2 rfl) ?_
                                refine zi_add hx hb 10 tv dL_why_241 rfl rfl ?_
                                subst hQ
                                exact W.iret (v := nI (10 + tv)) hx hb hr (fun t ht hW => ⟨nI (10 + tv), rfl, (by rw [lwy, if_neg c_476, if_neg (fun w => by have := ea.symm.trans w.1; exact nI_neg (by omega) (by decide) this), if_neg (by rw [eto]; exact nI_pos (by omega)), if_neg hq4, if_neg (fun w => by have h1 := (show lth vp (k / 3) (lto vp vb k cn) = f by rw [lth, eto, hf, show i - 3 * (k / 3) = 3 by omega]).symm.trans w.1; have h2 := w.2; rw [eto] at h2; first | omega | exact absurd ((nI_ltI (a := tv) (b := 35) (by omega) (by decide)).mp h2) (by omega)), if_neg (by rw [lw6, eto, decide_eq_true_eq]; exact fun w => w.1 c_526), eto]; exact (nI_add 10 tv).symm), ht⟩) (fun _ h => absurd h List.not_mem_nil) dL_why_242
                              · refine lv_iload hx hb dL_why_207 (lv_at hl 0 rfl) ?_
                                refine lv_bipush (v := 8) hx hb dL_why_209 (by decide) ?_
                                refine zi_jr hx hb dL_why_211 (by decide) ?_
                                refine lv_if_ne (tgt := 237) hx hb dL_why_212 (by decide) (fun c_527 => ?_) (fun c_527 => ?_)
                                · refine lv_bipush (v := 10) hx hb dL_why_237 (by decide) ?_
                                  refine lv_iload hx hb dL_why_239 (lv_at hl 2 rfl) ?_
                                  refine zi_add hx hb 10 tv dL_why_241 rfl rfl ?_
                                  subst hQ
                                  exact W.iret (v := nI (10 + tv)) hx hb hr (fun t ht hW => ⟨nI (10 + tv), rfl, (by rw [lwy, if_neg c_476, if_neg (fun w => by have := ea.symm.trans w.1; exact nI_neg (by omega) (by decide) this), if_neg (by rw [eto]; exact nI_pos (by omega)), if_neg hq4, if_neg (fun w => by have h1 := (show lth vp (k / 3) (lto vp vb k cn) = f by rw [lth, eto, hf, show i - 3 * (k / 3) = 3 by omega]).symm.trans w.1; have h2 := w.2; rw [eto] at h2; first | omega | exact absurd ((nI_ltI (a := tv) (b := 35) (by omega) (by decide)).mp h2) (by omega)), if_neg (by rw [lw6, eto, decide_eq_true_eq]; exact fun w => c_527 w.2.1), eto]; exact (nI_add 10 tv).symm), ht⟩) (fun _ h => absurd h List.not_mem_nil) dL_why_242
                                · refine lv_aload_n hx hb dL_why_215 rfl (lv_at hl 5 rfl) ?_
                                  refine lv_iload hx hb dL_why_216 (lv_at hl 0 rfl) ?_
                                  have hPc := hP.sub (ws' := [(yp, .inl (cI, 12, .inl vp))]) [0] rfl
                                  have hDc := (hD0.sub (ws' := [(yp, .inl (cI, 12, .inl vp))]) [0] (by decide) rfl).tt
                                  refine vp_callSi (va_Run.run (va_runS (As := [.ref yp, .int (lfd (k / 3) (nI tv))]) (rest := []) ⟨hx, hb, hml, hown, hts⟩ (c_L_all l G cI cC cZ cG s.heap.size yp vp (lfd (k / 3) (nI tv))) (cf_RL_29 hts ⟨Nat.le_of_ble_eq_true rfl, Nat.le_of_ble_eq_true rfl⟩) (pre_S hK hPc hDc) rfl rfl hl.1 rfl (lv_room (Nat.le_of_ble_eq_true rfl)) dL_why_218 ⟨Nat.le_of_ble_eq_true rfl, Nat.le_of_ble_eq_true rfl⟩)) (fun r528 hr528 => ?_)
                                  subst hr528
                                  have hf529 := (@ao_le vp (lfd (k / 3) (nI tv)) 4)
                                  refine lv_aload_n hx hb dL_why_221 rfl (lv_at hl 5 rfl) ?_
                                  refine lv_iload hx hb dL_why_222 (lv_at hl 4 rfl) ?_
                                  refine lv_iload hx hb dL_why_224 (lv_at hl 0 rfl) ?_
                                  have hPc := hP.sub (ws' := [(yp, .inl (cI, 12, .inl vp))]) [0] rfl
                                  have hDc := (hD0.sub (ws' := [(yp, .inl (cI, 12, .inl vp))]) [0] (by decide) rfl).tt
                                  refine vp_callSi (va_Run.run (va_runS (As := [.ref yp, .int (nI (k / 3)), .int (lfd (k / 3) (nI tv))]) (rest := [.int (nI (ao vp (lfd (k / 3) (nI tv)) 4))]) ⟨hx, hb, hml, hown, hts⟩ (c_L_on l G cI cC cZ cG s.heap.size yp vp (k / 3) (lfd (k / 3) (nI tv)) (by omega)) (cf_RL_15 hts ⟨Nat.le_of_ble_eq_true rfl, Nat.le_of_ble_eq_true rfl⟩) (pre_S hK hPc hDc) rfl rfl hl.1 rfl (lv_room (Nat.le_of_ble_eq_true rfl)) dL_why_226 ⟨Nat.le_of_ble_eq_true rfl, Nat.le_of_ble_eq_true rfl⟩)) (fun r530 hr530 => ?_)
                                  subst hr530
                                  have hf531 := (@mpc_le vp (k / 3) (lfd (k / 3) (nI tv)))
                                  refine zi_le (tgt := 237) hx hb (ao vp (lfd (k / 3) (nI tv)) 4) (mpc vp (k / 3) (lfd (k / 3) (nI tv))) dL_why_229 (by decide) rfl rfl (by omega) (by omega) (fun c_532 => ?_) (fun c_532 => ?_)
                                  · refine lv_bipush (v := 10) hx hb dL_why_237 (by decide) ?_
                                    refine lv_iload hx hb dL_why_239 (lv_at hl 2 rfl) ?_
                                    refine zi_add hx hb 10 tv dL_why_241 rfl rfl ?_
                                    subst hQ
                                    exact W.iret (v := nI (10 + tv)) hx hb hr (fun t ht hW => ⟨nI (10 + tv), rfl, (by rw [lwy, if_neg c_476, if_neg (fun w => by have := ea.symm.trans w.1; exact nI_neg (by omega) (by decide) this), if_neg (by rw [eto]; exact nI_pos (by omega)), if_neg hq4, if_neg (fun w => by have h1 := (show lth vp (k / 3) (lto vp vb k cn) = f by rw [lth, eto, hf, show i - 3 * (k / 3) = 3 by omega]).symm.trans w.1; have h2 := w.2; rw [eto] at h2; first | omega | exact absurd ((nI_ltI (a := tv) (b := 35) (by omega) (by decide)).mp h2) (by omega)), if_neg (by rw [lw6, eto, decide_eq_true_eq]; exact fun w => absurd w.2.2 (by omega)), eto]; exact (nI_add 10 tv).symm), ht⟩) (fun _ h => absurd h List.not_mem_nil) dL_why_242
                                  · refine lv_bipush (v := 6) hx hb dL_why_232 (by decide) ?_
                                    refine lv_goto (tgt := 242) hx hb dL_why_234 (by decide) ?_
                                    subst hQ
                                    exact W.iret (v := 6) hx hb hr (fun t ht hW => ⟨6, rfl, (by rw [lwy, if_neg c_476, if_neg (fun w => by have := ea.symm.trans w.1; exact nI_neg (by omega) (by decide) this), if_neg (by rw [eto]; exact nI_pos (by omega)), if_neg hq4, if_neg (fun w => by have h1 := (show lth vp (k / 3) (lto vp vb k cn) = f by rw [lth, eto, hf, show i - 3 * (k / 3) = 3 by omega]).symm.trans w.1; have h2 := w.2; rw [eto] at h2; first | omega | exact absurd ((nI_ltI (a := tv) (b := 35) (by omega) (by decide)).mp h2) (by omega)), if_pos (by rw [lw6, eto, decide_eq_true_eq]; exact ⟨c_526, c_527, c_532⟩)]), ht⟩) (fun _ h => absurd h List.not_mem_nil) dL_why_242
                            · refine lv_iconst (v := 5) hx hb dL_why_192 (by decide) ?_
                              subst hQ
                              exact W.iret (v := 5) hx hb hr (fun t ht hW => ⟨5, rfl, (by rw [lwy, if_neg c_476, if_neg (fun w => by have := ea.symm.trans w.1; exact nI_neg (by omega) (by decide) this), if_neg (by rw [eto]; exact nI_pos (by omega)), if_neg hq4, if_pos ⟨(show lth vp (k / 3) (lto vp vb k cn) = f by rw [lth, eto, hf, show i - 3 * (k / 3) = 3 by omega]).trans (by omega), by rw [eto]; exact (nI_ltI (b := 35) (by omega) (by decide)).mpr (by omega)⟩]), ht⟩) (fun _ h => absurd h List.not_mem_nil) dL_why_193
                        · refine lv_iload hx hb dL_why_154 (lv_at hl 1 rfl) ?_
                          refine lv_aload_n hx hb dL_why_156 rfl (lv_at hl 5 rfl) ?_
                          refine lv_iload hx hb dL_why_157 (lv_at hl 0 rfl) ?_
                          refine za_ld hx hb hK.1 hP 0 0 rfl rfl i rfl (by omega) (by decide) dL_why_159 ?_
                          refine lv_iload hx hb dL_why_160 (lv_at hl 2 rfl) ?_
                          refine lv_icmp_ne (tgt := 169) hx hb dL_why_162 (by decide) (fun c_533 => ?_) (fun c_533 => ?_)
                          · refine lv_iconst (v := 0) hx hb dL_why_169 (by decide) ?_
                            refine zi_add hx hb f 0 dL_why_170 rfl rfl ?_
                            refine lv_istore (lv' := [(8, .int (nI (f + 0))), (9, .int (nI i)), (7, .int (nI tv)), (6, .int 0), (5, .int (nI (k / 3))), (0, .ref yp), (1, .ref yb), (2, .ref yg), (3, .int (nI k)), (4, .int (nI cn))]) hx hb dL_why_171 hl (by decide) rfl (fun ls hl => ?_)
                            refine lv_iinc (v := nI (i + 1)) (lv' := [(9, .int (nI (i + 1))), (8, .int (nI (f + 0))), (7, .int (nI tv)), (6, .int 0), (5, .int (nI (k / 3))), (0, .ref yp), (1, .ref yb), (2, .ref yg), (3, .int (nI k)), (4, .int (nI cn))]) hx hb dL_why_173 hl (k := 1) rfl (nI_inc i) (by decide) rfl (fun ls hl => ?_)
                            refine lv_goto (tgt := 143) hx hb dL_why_176 (by decide) ?_
                            exact ih5 (i + 1) (f + 0) (by omega) (by omega) (by rw [hb3, Nat.add_zero, cnt_f (by rw [thP, hb4, decide_eq_true_eq]; exact c_533), hf]) (by omega) _ (lv_sub hl [0, 1, 2, 3, 4, 5, 6, 7, 8, 9] rfl)
                          · refine lv_iconst (v := 1) hx hb dL_why_165 (by decide) ?_
                            refine lv_goto (tgt := 170) hx hb dL_why_166 (by decide) ?_
                            refine zi_add hx hb f 1 dL_why_170 rfl rfl ?_
                            refine lv_istore (lv' := [(8, .int (nI (f + 1))), (9, .int (nI i)), (7, .int (nI tv)), (6, .int 0), (5, .int (nI (k / 3))), (0, .ref yp), (1, .ref yb), (2, .ref yg), (3, .int (nI k)), (4, .int (nI cn))]) hx hb dL_why_171 hl (by decide) rfl (fun ls hl => ?_)
                            refine lv_iinc (v := nI (i + 1)) (lv' := [(9, .int (nI (i + 1))), (8, .int (nI (f + 1))), (7, .int (nI tv)), (6, .int 0), (5, .int (nI (k / 3))), (0, .ref yp), (1, .ref yb), (2, .ref yg), (3, .int (nI k)), (4, .int (nI cn))]) hx hb dL_why_173 hl (k := 1) rfl (nI_inc i) (by decide) rfl (fun ls hl => ?_)
                            refine lv_goto (tgt := 143) hx hb dL_why_176 (by decide) ?_
                            exact ih5 (i + 1) (f + 1) (by omega) (by omega) (by rw [hb3, cnt_t (by rw [thP, hb4, decide_eq_true_eq]; exact c_533), hf]) (by omega) _ (lv_sub hl [0, 1, 2, 3, 4, 5, 6, 7, 8, 9] rfl)
                    exact L5 4 (3 * (k / 3)) 0 (by omega) (by omega) (by rw [Nat.sub_self]; rfl) (by omega) _ (lv_sub hl [0, 1, 2, 3, 4, 5, 6, 7, 8, 9] rfl)
                  · exact absurd c_512 (by decide)
                · obtain rfl : xa = nI b2 := by rw [hxa]; exact nI_pred b2
                  refine lv_iload hx hb dL_why_75 (lv_at hl 0 rfl) ?_
                  refine z0_lt (tgt := 134) hx hb b2 dL_why_77 (by decide) rfl (by omega) ?_
                  refine lv_iload hx hb dL_why_80 (lv_at hl 0 rfl) ?_
                  refine lv_aload_n hx hb dL_why_82 rfl (lv_at hl 4 rfl) ?_
                  refine lv_iload_n hx hb dL_why_83 rfl (lv_at hl 7 rfl) ?_
                  refine za_ld hx hb hK.1 hP 0 0 rfl rfl k rfl (by omega) (by decide) dL_why_84 ?_
                  refine zi_le (tgt := 134) hx hb b2 a dL_why_85 (by decide) rfl ea (by omega) (by omega) (fun c_535 => ?_) (fun c_535 => ?_)
                  · have hq4 : ¬ lbQ vp k (lto vp vb k cn) = true := by rw [lbQ, eto, ef, nI_clamp (show tv < 2 ^ 31 by omega)]; exact fun w => by rw [anyp_no _ (a + 1) (fun c h1 h2 => hbl c (by omega) (by omega))] at w; cases w
                    refine lv_iconst (v := 0) hx hb dL_why_134 (by decide) ?_
                    refine lv_istore (lv' := [(8, .int 0), (7, .int (nI tv)), (6, .int 0), (5, .int (nI (k / 3))), (0, .ref yp), (1, .ref yb), (2, .ref yg), (3, .int (nI k)), (4, .int (nI cn))]) hx hb dL_why_135 hl (by decide) rfl (fun ls hl => ?_)
                    refine lv_iconst (v := 3) hx hb dL_why_137 (by decide) ?_
                    refine lv_iload hx hb dL_why_138 (lv_at hl 3 rfl) ?_
                    refine zi_mul hx hb 3 (k / 3) dL_why_140 rfl rfl ?_
                    refine lv_istore (lv' := [(9, .int (nI (3 * (k / 3)))), (8, .int 0), (7, .int (nI tv)), (6, .int 0), (5, .int (nI (k / 3))), (0, .ref yp), (1, .ref yb), (2, .ref yg), (3, .int (nI k)), (4, .int (nI cn))]) hx hb dL_why_141 hl (by decide) rfl (fun ls hl => ?_)
                    have L6 : ∀ (n : Nat), ∀ (i : Nat), ∀ (f : Nat), ∀ (h0 : 3 * (k / 3) ≤ i), ∀ (hi : i ≤ 3 * (k / 3) + 3), ∀ (hf : f = cnt (thP vp (k / 3) (nI tv)) (i - 3 * (k / 3))), ∀ (hn3 : 3 * (k / 3) + 4 ≤ i + n), ∀ (ls : Array Slot), lv_has ls 10 [(9, .int (nI i)), (8, .int (nI f)), (7, .int (nI tv)), (6, .int 0), (5, .int (nI (k / 3))), (0, .ref yp), (1, .ref yb), (2, .ref yg), (3, .int (nI k)), (4, .int (nI cn))] → W p l e rm_L_why s m ag below meth c s.heap [] 0 0 Q (F0 m 143 ls []) := by
                      intro n
                      induction n with
                      | zero =>
                        intro i f h0 hi hf hn3 ls hl
                        omega
                      | succ n ih6 =>
                        intro i f h0 hi hf hn3 ls hl
                        have hb3 : i + 1 - 3 * (k / 3) = (i - 3 * (k / 3)) + 1 := by omega
                        have hb4 : 3 * (k / 3) + (i - 3 * (k / 3)) = i := by omega
                        refine lv_iload hx hb dL_why_143 (lv_at hl 0 rfl) ?_
                        refine lv_iconst (v := 3) hx hb dL_why_145 (by decide) ?_
                        refine lv_iload hx hb dL_why_146 (lv_at hl 4 rfl) ?_
                        refine zi_mul hx hb 3 (k / 3) dL_why_148 rfl rfl ?_
                        refine lv_iconst (v := 3) hx hb dL_why_149 (by decide) ?_
                        refine zi_add hx hb (3 * (k / 3)) 3 dL_why_150 rfl rfl ?_
                        refine zi_ge (tgt := 179) hx hb i ((3 * (k / 3)) + 3) dL_why_151 (by decide) rfl rfl (by omega) (by omega) (fun c_537 => ?_) (fun c_537 => ?_)
                        · have hf3 : f ≤ 3 := by rw [hf]; exact Nat.le_trans (cnt_le _ _) (by omega)
                          refine lv_iload hx hb dL_why_179 (lv_at hl 1 rfl) ?_
                          refine lv_iconst (v := 2) hx hb dL_why_181 (by decide) ?_
                          refine zi_ne (tgt := 194) hx hb f 2 dL_why_182 (by decide) rfl rfl (by omega) (by decide) (fun c_538 => ?_) (fun c_538 => ?_)
                          · refine lv_iload_n hx hb dL_why_194 rfl (lv_at hl 8 rfl) ?_
                            refine lv_iload hx hb dL_why_195 (lv_at hl 2 rfl) ?_
                            refine vp_callSi (va_Run.run (va_runS (As := [.int (nI k), .int (nI tv)]) (rest := []) ⟨hx, hb, hml, hown, hts⟩ (c_L_field l k (nI tv) (by omega)) (cf_RL_9 hts ⟨Nat.le_of_ble_eq_true rfl, Nat.le_of_ble_eq_true rfl⟩) pre_P rfl rfl hl.1 rfl (lv_room (Nat.le_of_ble_eq_true rfl)) dL_why_197 ⟨Nat.le_of_ble_eq_true rfl, Nat.le_of_ble_eq_true rfl⟩)) (fun r539 hr539 => ?_)
                            subst hr539
                            refine lv_istore (lv' := [(9, .int (lfd (k / 3) (nI tv))), (8, .int (nI f)), (7, .int (nI tv)), (6, .int 0), (5, .int (nI (k / 3))), (0, .ref yp), (1, .ref yb), (2, .ref yg), (3, .int (nI k)), (4, .int (nI cn))]) hx hb dL_why_200 hl (by decide) rfl (fun ls hl => ?_)
                            refine lv_iload hx hb dL_why_202 (lv_at hl 0 rfl) ?_
                            refine lv_if_lt (tgt := 237) hx hb dL_why_204 (by decide) (fun c_540 => ?_) (fun c_540 => ?_)
                            · refine lv_bipush (v := 10) hx hb dL_why_237 (by decide) ?_
                              refine lv_iload hx hb dL_why_239 (lv_at hl 2 rfl) ?_
                              refine zi_add hx hb 10 tv dL_why_241 rfl rfl ?_
                              subst hQ
                              exact W.iret (v := nI (10 + tv)) hx hb hr (fun t ht hW => ⟨nI (10 + tv), rfl, (by rw [lwy, if_neg c_476, if_neg (fun w => by have := ea.symm.trans w.1; exact nI_neg (by omega) (by decide) this), if_neg (by rw [eto]; exact nI_pos (by omega)), if_neg hq4, if_neg (fun w => by have h1 := (show lth vp (k / 3) (lto vp vb k cn) = f by rw [lth, eto, hf, show i - 3 * (k / 3) = 3 by omega]).symm.trans w.1; have h2 := w.2; rw [eto] at h2; first | omega | exact absurd ((nI_ltI (a := tv) (b := 35) (by omega) (by decide)).mp h2) (by omega)), if_neg (by rw [lw6, eto, decide_eq_true_eq]; exact fun w => w.1 c_540), eto]; exact (nI_add 10 tv).symm), ht⟩) (fun _ h => absurd h List.not_mem_nil) dL_why_242
                            · refine lv_iload hx hb dL_why_207 (lv_at hl 0 rfl) ?_
                              refine lv_bipush (v := 8) hx hb dL_why_209 (by decide) ?_
                              refine zi_jr hx hb dL_why_211 (by decide) ?_
                              refine lv_if_ne (tgt := 237) hx hb dL_why_212 (by decide) (fun c_541 => ?_) (fun c_541 => ?_)
                              · refine lv_bipush (v := 10) hx hb dL_why_237 (by decide) ?_
                                refine lv_iload hx hb dL_why_239 (lv_at hl 2 rfl) ?_
                                refine zi_add hx hb 10 tv dL_why_241 rfl rfl ?_
                                subst hQ
                                exact W.iret (v := nI (10 + tv)) hx hb hr (fun t ht hW => ⟨nI (10 + tv), rfl, (by rw [lwy, if_neg c_476, if_neg (fun w => by have := ea.symm.trans w.1; exact nI_neg (by omega) (by decide) this), if_neg (by rw [eto]; exact nI_pos (by omega)), if_neg hq4, if_neg (fun w => by have h1 := (show lth vp (k / 3) (lto vp vb k cn) = f by rw [lth, eto, hf, show i - 3 * (k / 3) = 3 by omega]).symm.trans w.1; have h2 := w.2; rw [eto] at h2; first | omega | exact absurd ((nI_ltI (a := tv) (b := 35) (by omega) (by decide)).mp h2) (by omega)), if_neg (by rw [lw6, eto, decide_eq_true_eq]; exact fun w => c_541 w.2.1), eto]; exact (nI_add 10 tv).symm), ht⟩) (fun _ h => absurd h List.not_mem_nil) dL_why_242
                              · refine lv_aload_n hx hb dL_why_215 rfl (lv_at hl 5 rfl) ?_
                                refine lv_iload hx hb dL_why_216 (lv_at hl 0 rfl) ?_
                                have hPc := hP.sub (ws' := [(yp, .inl (cI, 12, .inl vp))]) [0] rfl
                                have hDc := (hD0.sub (ws' := [(yp, .inl (cI, 12, .inl vp))]) [0] (by decide) rfl).tt
                                refine vp_callSi (va_Run.run (va_runS (As := [.ref yp, .int (lfd (k / 3) (nI tv))]) (rest := []) ⟨hx, hb, hml, hown, hts⟩ (c_L_all l G cI cC cZ cG s.heap.size yp vp (lfd (k / 3) (nI tv))) (cf_RL_29 hts ⟨Nat.le_of_ble_eq_true rfl, Nat.le_of_ble_eq_true rfl⟩) (pre_S hK hPc hDc) rfl rfl hl.1 rfl (lv_room (Nat.le_of_ble_eq_true rfl)) dL_why_218 ⟨Nat.le_of_ble_eq_true rfl, Nat.le_of_ble_eq_true rfl⟩)) (fun r542 hr542 => ?_)
                                subst hr542
                                have hf543 := (@ao_le vp (lfd (k / 3) (nI tv)) 4)
                                refine lv_aload_n hx hb dL_why_221 rfl (lv_at hl 5 rfl) ?_
                                refine lv_iload hx hb dL_why_222 (lv_at hl 4 rfl) ?_
                                refine lv_iload hx hb dL_why_224 (lv_at hl 0 rfl) ?_
                                have hPc := hP.sub (ws' := [(yp, .inl (cI, 12, .inl vp))]) [0] rfl
                                have hDc := (hD0.sub (ws' := [(yp, .inl (cI, 12, .inl vp))]) [0] (by decide) rfl).tt
                                refine vp_callSi (va_Run.run (va_runS (As := [.ref yp, .int (nI (k / 3)), .int (lfd (k / 3) (nI tv))]) (rest := [.int (nI (ao vp (lfd (k / 3) (nI tv)) 4))]) ⟨hx, hb, hml, hown, hts⟩ (c_L_on l G cI cC cZ cG s.heap.size yp vp (k / 3) (lfd (k / 3) (nI tv)) (by omega)) (cf_RL_15 hts ⟨Nat.le_of_ble_eq_true rfl, Nat.le_of_ble_eq_true rfl⟩) (pre_S hK hPc hDc) rfl rfl hl.1 rfl (lv_room (Nat.le_of_ble_eq_true rfl)) dL_why_226 ⟨Nat.le_of_ble_eq_true rfl, Nat.le_of_ble_eq_true rfl⟩)) (fun r544 hr544 => ?_)
                                subst hr544
                                have hf545 := (@mpc_le vp (k / 3) (lfd (k / 3) (nI tv)))
                                refine zi_le (tgt := 237) hx hb (ao vp (lfd (k / 3) (nI tv)) 4) (mpc vp (k / 3) (lfd (k / 3) (nI tv))) dL_why_229 (by decide) rfl rfl (by omega) (by omega) (fun c_546 => ?_) (fun c_546 => ?_)
                                · refine lv_bipush (v := 10) hx hb dL_why_237 (by decide) ?_
                                  refine lv_iload hx hb dL_why_239 (lv_at hl 2 rfl) ?_
                                  refine zi_add hx hb 10 tv dL_why_241 rfl rfl ?_
                                  subst hQ
                                  exact W.iret (v := nI (10 + tv)) hx hb hr (fun t ht hW => ⟨nI (10 + tv), rfl, (by rw [lwy, if_neg c_476, if_neg (fun w => by have := ea.symm.trans w.1; exact nI_neg (by omega) (by decide) this), if_neg (by rw [eto]; exact nI_pos (by omega)), if_neg hq4, if_neg (fun w => by have h1 := (show lth vp (k / 3) (lto vp vb k cn) = f by rw [lth, eto, hf, show i - 3 * (k / 3) = 3 by omega]).symm.trans w.1; have h2 := w.2; rw [eto] at h2; first | omega | exact absurd ((nI_ltI (a := tv) (b := 35) (by omega) (by decide)).mp h2) (by omega)), if_neg (by rw [lw6, eto, decide_eq_true_eq]; exact fun w => absurd w.2.2 (by omega)), eto]; exact (nI_add 10 tv).symm), ht⟩) (fun _ h => absurd h List.not_mem_nil) dL_why_242
                                · refine lv_bipush (v := 6) hx hb dL_why_232 (by decide) ?_
                                  refine lv_goto (tgt := 242) hx hb dL_why_234 (by decide) ?_
                                  subst hQ
                                  exact W.iret (v := 6) hx hb hr (fun t ht hW => ⟨6, rfl, (by rw [lwy, if_neg c_476, if_neg (fun w => by have := ea.symm.trans w.1; exact nI_neg (by omega) (by decide) this), if_neg (by rw [eto]; exact nI_pos (by omega)), if_neg hq4, if_neg (fun w => by have h1 := (show lth vp (k / 3) (lto vp vb k cn) = f by rw [lth, eto, hf, show i - 3 * (k / 3) = 3 by omega]).symm.trans w.1; have h2 := w.2; rw [eto] at h2; first | omega | exact absurd ((nI_ltI (a := tv) (b := 35) (by omega) (by decide)).mp h2) (by omega)), if_pos (by rw [lw6, eto, decide_eq_true_eq]; exact ⟨c_540, c_541, c_546⟩)]), ht⟩) (fun _ h => absurd h List.not_mem_nil) dL_why_242
                          · refine lv_iload hx hb dL_why_185 (lv_at hl 2 rfl) ?_
                            refine lv_bipush (v := 35) hx hb dL_why_187 (by decide) ?_
                            refine zi_ge (tgt := 194) hx hb tv 35 dL_why_189 (by decide) rfl rfl (by omega) (by decide) (fun c_547 => ?_) (fun c_547 => ?_)
                            · refine lv_iload_n hx hb dL_why_194 rfl (lv_at hl 8 rfl) ?_
                              refine lv_iload hx hb dL_why_195 (lv_at hl 2 rfl) ?_
                              refine vp_callSi (va_Run.run (va_runS (As := [.int (nI k), .int (nI tv)]) (rest := []) ⟨hx, hb, hml, hown, hts⟩ (c_L_field l k (nI tv) (by omega)) (cf_RL_9 hts ⟨Nat.le_of_ble_eq_true rfl, Nat.le_of_ble_eq_true rfl⟩) pre_P rfl rfl hl.1 rfl (lv_room (Nat.le_of_ble_eq_true rfl)) dL_why_197 ⟨Nat.le_of_ble_eq_true rfl, Nat.le_of_ble_eq_true rfl⟩)) (fun r548 hr548 => ?_)
                              subst hr548
                              refine lv_istore (lv' := [(9, .int (lfd (k / 3) (nI tv))), (8, .int (nI f)), (7, .int (nI tv)), (6, .int 0), (5, .int (nI (k / 3))), (0, .ref yp), (1, .ref yb), (2, .ref yg), (3, .int (nI k)), (4, .int (nI cn))]) hx hb dL_why_200 hl (by decide) rfl (fun ls hl => ?_)
                              refine lv_iload hx hb dL_why_202 (lv_at hl 0 rfl) ?_
                              refine lv_if_lt (tgt := 237) hx hb dL_why_204 (by decide) (fun c_549 => ?_) (fun c_549 => ?_)
                              · refine lv_bipush (v := 10) hx hb dL_why_237 (by decide) ?_
                                refine lv_iload hx hb dL_why_239 (lv_at hl 2 rfl) ?_
                                refine zi_add hx hb 10 tv dL_why_241 rfl rfl ?_
                                subst hQ
                                exact W.iret (v := nI (10 + tv)) hx hb hr (fun t ht hW => ⟨nI (10 + tv), rfl, (by rw [lwy, if_neg c_476, if_neg (fun w => by have := ea.symm.trans w.1; exact nI_neg (by omega) (by decide) this), if_neg (by rw [eto]; exact nI_pos (by omega)), if_neg hq4, if_neg (fun w => by have h1 := (show lth vp (k / 3) (lto vp vb k cn) = f by rw [lth, eto, hf, show i - 3 * (k / 3) = 3 by omega]).symm.trans w.1; have h2 := w.2; rw [eto] at h2; first | omega | exact absurd ((nI_ltI (a := tv) (b := 35) (by omega) (by decide)).mp h2) (by omega)), if_neg (by rw [lw6, eto, decide_eq_true_eq]; exact fun w => w.1 c_549), eto]; exact (nI_add 10 tv).symm), ht⟩) (fun _ h => absurd h List.not_mem_nil) dL_why_242
                              · refine lv_iload hx hb dL_why_207 (lv_at hl 0 rfl) ?_
                                refine lv_bipush (v := 8) hx hb dL_why_209 (by decide) ?_
                                refine zi_jr hx hb dL_why_211 (by decide) ?_
                                refine lv_if_ne (tgt := 237) hx hb dL_why_212 (by decide) (fun c_550 => ?_) (fun c_550 => ?_)
                                · refine lv_bipush (v := 10) hx hb dL_why_237 (by decide) ?_
                                  refine lv_iload hx hb dL_why_239 (lv_at hl 2 rfl) ?_
                                  refine zi_add hx hb 10 tv dL_why_241 rfl rfl ?_
                                  subst hQ
                                  exact W.iret (v := nI (10 + tv)) hx hb hr (fun t ht hW => ⟨nI (10 + tv), rfl, (by rw [lwy, if_neg c_476, if_neg (fun w => by have := ea.symm.trans w.1; exact nI_neg (by omega) (by decide) this), if_neg (by rw [eto]; exact nI_pos (by omega)), if_neg hq4, if_neg (fun w => by have h1 := (show lth vp (k / 3) (lto vp vb k cn) = f by rw [lth, eto, hf, show i - 3 * (k / 3) = 3 by omega]).symm.trans w.1; have h2 := w.2; rw [eto] at h2; first | omega | exact absurd ((nI_ltI (a := tv) (b := 35) (by omega) (by decide)).mp h2) (by omega)), if_neg (by rw [lw6, eto, decide_eq_true_eq]; exact fun w => c_550 w.2.1), eto]; exact (nI_add 10 tv).symm), ht⟩) (fun _ h => absurd h List.not_mem_nil) dL_why_242
                                · refine lv_aload_n hx hb dL_why_215 rfl (lv_at hl 5 rfl) ?_
                                  refine lv_iload hx hb dL_why_216 (lv_at hl 0 rfl) ?_
                                  have hPc := hP.sub (ws' := [(yp, .inl (cI, 12, .inl vp))]) [0] rfl
                                  have hDc := (hD0.sub (ws' := [(yp, .inl (cI, 12, .inl vp))]) [0] (by decide) rfl).tt
                                  refine vp_callSi (va_Run.run (va_runS (As := [.ref yp, .int (lfd (k / 3) (nI tv))]) (rest := []) ⟨hx, hb, hml, hown, hts⟩ (c_L_all l G cI cC cZ cG s.heap.size yp vp (lfd (k / 3) (nI tv))) (cf_RL_29 hts ⟨Nat.le_of_ble_eq_true rfl, Nat.le_of_ble_eq_true rfl⟩) (pre_S hK hPc hDc) rfl rfl hl.1 rfl (lv_room (Nat.le_of_ble_eq_true rfl)) dL_why_218 ⟨Nat.le_of_ble_eq_true rfl, Nat.le_of_ble_eq_true rfl⟩)) (fun r551 hr551 => ?_)
                                  subst hr551
                                  have hf552 := (@ao_le vp (lfd (k / 3) (nI tv)) 4)
                                  refine lv_aload_n hx hb dL_why_221 rfl (lv_at hl 5 rfl) ?_
                                  refine lv_iload hx hb dL_why_222 (lv_at hl 4 rfl) ?_
                                  refine lv_iload hx hb dL_why_224 (lv_at hl 0 rfl) ?_
                                  have hPc := hP.sub (ws' := [(yp, .inl (cI, 12, .inl vp))]) [0] rfl
                                  have hDc := (hD0.sub (ws' := [(yp, .inl (cI, 12, .inl vp))]) [0] (by decide) rfl).tt
                                  refine vp_callSi (va_Run.run (va_runS (As := [.ref yp, .int (nI (k / 3)), .int (lfd (k / 3) (nI tv))]) (rest := [.int (nI (ao vp (lfd (k / 3) (nI tv)) 4))]) ⟨hx, hb, hml, hown, hts⟩ (c_L_on l G cI cC cZ cG s.heap.size yp vp (k / 3) (lfd (k / 3) (nI tv)) (by omega)) (cf_RL_15 hts ⟨Nat.le_of_ble_eq_true rfl, Nat.le_of_ble_eq_true rfl⟩) (pre_S hK hPc hDc) rfl rfl hl.1 rfl (lv_room (Nat.le_of_ble_eq_true rfl)) dL_why_226 ⟨Nat.le_of_ble_eq_true rfl, Nat.le_of_ble_eq_true rfl⟩)) (fun r553 hr553 => ?_)
                                  subst hr553
                                  have hf554 := (@mpc_le vp (k / 3) (lfd (k / 3) (nI tv)))
                                  refine zi_le (tgt := 237) hx hb (ao vp (lfd (k / 3) (nI tv)) 4) (mpc vp (k / 3) (lfd (k / 3) (nI tv))) dL_why_229 (by decide) rfl rfl (by omega) (by omega) (fun c_555 => ?_) (fun c_555 => ?_)
                                  · refine lv_bipush (v := 10) hx hb dL_why_237 (by decide) ?_
                                    refine lv_iload hx hb dL_why_239 (lv_at hl 2 rfl) ?_
                                    refine zi_add hx hb 10 tv dL_why_241 rfl rfl ?_
                                    subst hQ
                                    exact W.iret (v := nI (10 + tv)) hx hb hr (fun t ht hW => ⟨nI (10 + tv), rfl, (by rw [lwy, if_neg c_476, if_neg (fun w => by have := ea.symm.trans w.1; exact nI_neg (by omega) (by decide) this), if_neg (by rw [eto]; exact nI_pos (by omega)), if_neg hq4, if_neg (fun w => by have h1 := (show lth vp (k / 3) (lto vp vb k cn) = f by rw [lth, eto, hf, show i - 3 * (k / 3) = 3 by omega]).symm.trans w.1; have h2 := w.2; rw [eto] at h2; first | omega | exact absurd ((nI_ltI (a := tv) (b := 35) (by omega) (by decide)).mp h2) (by omega)), if_neg (by rw [lw6, eto, decide_eq_true_eq]; exact fun w => absurd w.2.2 (by omega)), eto]; exact (nI_add 10 tv).symm), ht⟩) (fun _ h => absurd h List.not_mem_nil) dL_why_242
                                  · refine lv_bipush (v := 6) hx hb dL_why_232 (by decide) ?_
                                    refine lv_goto (tgt := 242) hx hb dL_why_234 (by decide) ?_
                                    subst hQ
                                    exact W.iret (v := 6) hx hb hr (fun t ht hW => ⟨6, rfl, (by rw [lwy, if_neg c_476, if_neg (fun w => by have := ea.symm.trans w.1; exact nI_neg (by omega) (by decide) this), if_neg (by rw [eto]; exact nI_pos (by omega)), if_neg hq4, if_neg (fun w => by have h1 := (show lth vp (k / 3) (lto vp vb k cn) = f by rw [lth, eto, hf, show i - 3 * (k / 3) = 3 by omega]).symm.trans w.1; have h2 := w.2; rw [eto] at h2; first | omega | exact absurd ((nI_ltI (a := tv) (b := 35) (by omega) (by decide)).mp h2) (by omega)), if_pos (by rw [lw6, eto, decide_eq_true_eq]; exact ⟨c_549, c_550, c_555⟩)]), ht⟩) (fun _ h => absurd h List.not_mem_nil) dL_why_242
                            · refine lv_iconst (v := 5) hx hb dL_why_192 (by decide) ?_
                              subst hQ
                              exact W.iret (v := 5) hx hb hr (fun t ht hW => ⟨5, rfl, (by rw [lwy, if_neg c_476, if_neg (fun w => by have := ea.symm.trans w.1; exact nI_neg (by omega) (by decide) this), if_neg (by rw [eto]; exact nI_pos (by omega)), if_neg hq4, if_pos ⟨(show lth vp (k / 3) (lto vp vb k cn) = f by rw [lth, eto, hf, show i - 3 * (k / 3) = 3 by omega]).trans (by omega), by rw [eto]; exact (nI_ltI (b := 35) (by omega) (by decide)).mpr (by omega)⟩]), ht⟩) (fun _ h => absurd h List.not_mem_nil) dL_why_193
                        · refine lv_iload hx hb dL_why_154 (lv_at hl 1 rfl) ?_
                          refine lv_aload_n hx hb dL_why_156 rfl (lv_at hl 5 rfl) ?_
                          refine lv_iload hx hb dL_why_157 (lv_at hl 0 rfl) ?_
                          refine za_ld hx hb hK.1 hP 0 0 rfl rfl i rfl (by omega) (by decide) dL_why_159 ?_
                          refine lv_iload hx hb dL_why_160 (lv_at hl 2 rfl) ?_
                          refine lv_icmp_ne (tgt := 169) hx hb dL_why_162 (by decide) (fun c_556 => ?_) (fun c_556 => ?_)
                          · refine lv_iconst (v := 0) hx hb dL_why_169 (by decide) ?_
                            refine zi_add hx hb f 0 dL_why_170 rfl rfl ?_
                            refine lv_istore (lv' := [(8, .int (nI (f + 0))), (9, .int (nI i)), (7, .int (nI tv)), (6, .int 0), (5, .int (nI (k / 3))), (0, .ref yp), (1, .ref yb), (2, .ref yg), (3, .int (nI k)), (4, .int (nI cn))]) hx hb dL_why_171 hl (by decide) rfl (fun ls hl => ?_)
                            refine lv_iinc (v := nI (i + 1)) (lv' := [(9, .int (nI (i + 1))), (8, .int (nI (f + 0))), (7, .int (nI tv)), (6, .int 0), (5, .int (nI (k / 3))), (0, .ref yp), (1, .ref yb), (2, .ref yg), (3, .int (nI k)), (4, .int (nI cn))]) hx hb dL_why_173 hl (k := 1) rfl (nI_inc i) (by decide) rfl (fun ls hl => ?_)
                            refine lv_goto (tgt := 143) hx hb dL_why_176 (by decide) ?_
                            exact ih6 (i + 1) (f + 0) (by omega) (by omega) (by rw [hb3, Nat.add_zero, cnt_f (by rw [thP, hb4, decide_eq_true_eq]; exact c_556), hf]) (by omega) _ (lv_sub hl [0, 1, 2, 3, 4, 5, 6, 7, 8, 9] rfl)
                          · refine lv_iconst (v := 1) hx hb dL_why_165 (by decide) ?_
                            refine lv_goto (tgt := 170) hx hb dL_why_166 (by decide) ?_
                            refine zi_add hx hb f 1 dL_why_170 rfl rfl ?_
                            refine lv_istore (lv' := [(8, .int (nI (f + 1))), (9, .int (nI i)), (7, .int (nI tv)), (6, .int 0), (5, .int (nI (k / 3))), (0, .ref yp), (1, .ref yb), (2, .ref yg), (3, .int (nI k)), (4, .int (nI cn))]) hx hb dL_why_171 hl (by decide) rfl (fun ls hl => ?_)
                            refine lv_iinc (v := nI (i + 1)) (lv' := [(9, .int (nI (i + 1))), (8, .int (nI (f + 1))), (7, .int (nI tv)), (6, .int 0), (5, .int (nI (k / 3))), (0, .ref yp), (1, .ref yb), (2, .ref yg), (3, .int (nI k)), (4, .int (nI cn))]) hx hb dL_why_173 hl (k := 1) rfl (nI_inc i) (by decide) rfl (fun ls hl => ?_)
                            refine lv_goto (tgt := 143) hx hb dL_why_176 (by decide) ?_
                            exact ih6 (i + 1) (f + 1) (by omega) (by omega) (by rw [hb3, cnt_t (by rw [thP, hb4, decide_eq_true_eq]; exact c_556), hf]) (by omega) _ (lv_sub hl [0, 1, 2, 3, 4, 5, 6, 7, 8, 9] rfl)
                    exact L6 4 (3 * (k / 3)) 0 (by omega) (by omega) (by rw [Nat.sub_self]; rfl) (by omega) _ (lv_sub hl [0, 1, 2, 3, 4, 5, 6, 7, 8, 9] rfl)
                  · refine lv_iconst (v := 0) hx hb dL_why_88 (by decide) ?_
                    refine lv_istore (lv' := [(9, .int 0), (8, .int (nI b2)), (7, .int (nI tv)), (6, .int 0), (5, .int (nI (k / 3))), (0, .ref yp), (1, .ref yb), (2, .ref yg), (3, .int (nI k)), (4, .int (nI cn))]) hx hb dL_why_89 hl (by decide) rfl (fun ls hl => ?_)
                    have L7 : ∀ (n : Nat), ∀ (i : Nat), ∀ (hi : i ≤ 4), ∀ (hf2 : blO vp (k / 3) (lfd (k / 3) (nI b2)) i = false), ∀ (hn2 : 5 ≤ i + n), ∀ (ls : Array Slot), lv_has ls 10 [(9, .int (nI i)), (8, .int (nI b2)), (7, .int (nI tv)), (6, .int 0), (5, .int (nI (k / 3))), (0, .ref yp), (1, .ref yb), (2, .ref yg), (3, .int (nI k)), (4, .int (nI cn))] → W p l e rm_L_why s m ag below meth c s.heap [] 0 0 Q (F0 m 91 ls []) := by
                      intro n
                      induction n with
                      | zero =>
                        intro i hi hf2 hn2 ls hl
                        omega
                      | succ n ih7 =>
                        intro i hi hf2 hn2 ls hl
                        refine lv_iload hx hb dL_why_91 (lv_at hl 0 rfl) ?_
                        refine lv_iconst (v := 4) hx hb dL_why_93 (by decide) ?_
                        refine zi_ge (tgt := 128) hx hb i 4 dL_why_94 (by decide) rfl rfl (by omega) (by decide) (fun c_558 => ?_) (fun c_558 => ?_)
                        · refine lv_iinc (v := (nI b2) + Int32.ofInt (-1)) (lv' := [(8, .int ((nI b2) + Int32.ofInt (-1))), (9, .int (nI i)), (7, .int (nI tv)), (6, .int 0), (5, .int (nI (k / 3))), (0, .ref yp), (1, .ref yb), (2, .ref yg), (3, .int (nI k)), (4, .int (nI cn))]) hx hb dL_why_128 hl (k := 1) rfl rfl (by decide) rfl (fun ls hl => ?_)
                          refine lv_goto (tgt := 75) hx hb dL_why_131 (by decide) ?_
                          exact ih4 b2 ((nI b2) + Int32.ofInt (-1)) (by omega) (dec_sub b2) (fun c h1 h2 => (Nat.eq_or_lt_of_le h1).elim (fun e => by have h := hf2; rw [show i = 4 by omega] at h; rw [← e, lbP]; exact h) (fun e => hbl c e h2)) (by omega) _ (lv_sub hl [0, 2, 3, 4, 5, 6, 7, 8, 9] rfl)
                        · refine lv_iload hx hb dL_why_97 (lv_at hl 0 rfl) ?_
                          refine lv_iload hx hb dL_why_99 (lv_at hl 4 rfl) ?_
                          refine zi_eq (tgt := 122) hx hb i (k / 3) dL_why_101 (by decide) rfl rfl (by omega) (by omega) (fun c_559 => ?_) (fun c_559 => ?_)
                          · refine lv_iinc (v := nI (i + 1)) (lv' := [(9, .int (nI (i + 1))), (8, .int (nI b2)), (7, .int (nI tv)), (6, .int 0), (5, .int (nI (k / 3))), (0, .ref yp), (1, .ref yb), (2, .ref yg), (3, .int (nI k)), (4, .int (nI cn))]) hx hb dL_why_122 hl (k := 0) rfl (nI_inc i) (by decide) rfl (fun ls hl => ?_)
                            refine lv_goto (tgt := 91) hx hb dL_why_125 (by decide) ?_
                            exact ih7 (i + 1) (by omega) (bl_st hf2 (fun w => absurd c_559 w.1)) (by omega) _ (lv_sub hl [0, 1, 2, 3, 4, 5, 6, 7, 8, 9] rfl)
                          · refine lv_aload_n hx hb dL_why_104 rfl (lv_at hl 5 rfl) ?_
                            refine lv_iload hx hb dL_why_105 (lv_at hl 0 rfl) ?_
                            refine lv_iload_n hx hb dL_why_107 rfl (lv_at hl 8 rfl) ?_
                            refine lv_iload hx hb dL_why_108 (lv_at hl 1 rfl) ?_
                            refine vp_callSi (va_Run.run (va_runS (As := [.int (nI k), .int (nI b2)]) (rest := [.int (nI i), .ref yp]) ⟨hx, hb, hml, hown, hts⟩ (c_L_field l k (nI b2) (by omega)) (cf_RL_9 hts ⟨Nat.le_of_ble_eq_true rfl, Nat.le_of_ble_eq_true rfl⟩) pre_P rfl rfl hl.1 rfl (lv_room (Nat.le_of_ble_eq_true rfl)) dL_why_110 ⟨Nat.le_of_ble_eq_true rfl, Nat.le_of_ble_eq_true rfl⟩)) (fun r560 hr560 => ?_)
                            subst hr560
                            have hPc := hP.sub (ws' := [(yp, .inl (cI, 12, .inl vp))]) [0] rfl
                            have hDc := (hD0.sub (ws' := [(yp, .inl (cI, 12, .inl vp))]) [0] (by decide) rfl).tt
                            refine vp_callSi (va_Run.run (va_runS (As := [.ref yp, .int (nI i), .int (lfd (k / 3) (nI b2))]) (rest := []) ⟨hx, hb, hml, hown, hts⟩ (c_L_on l G cI cC cZ cG s.heap.size yp vp i (lfd (k / 3) (nI b2)) (by omega)) (cf_RL_15 hts ⟨Nat.le_of_ble_eq_true rfl, Nat.le_of_ble_eq_true rfl⟩) (pre_S hK hPc hDc) rfl rfl hl.1 rfl (lv_room (Nat.le_of_ble_eq_true rfl)) dL_why_113 ⟨Nat.le_of_ble_eq_true rfl, Nat.le_of_ble_eq_true rfl⟩)) (fun r561 hr561 => ?_)
                            subst hr561
                            have hf562 := (@mpc_le vp i (lfd (k / 3) (nI b2)))
                            refine lv_iconst (v := 1) hx hb dL_why_116 (by decide) ?_
                            refine zi_le (tgt := 122) hx hb (mpc vp i (lfd (k / 3) (nI b2))) 1 dL_why_117 (by decide) rfl rfl (by omega) (by decide) (fun c_563 => ?_) (fun c_563 => ?_)
                            · refine lv_iinc (v := nI (i + 1)) (lv' := [(9, .int (nI (i + 1))), (8, .int (nI b2)), (7, .int (nI tv)), (6, .int 0), (5, .int (nI (k / 3))), (0, .ref yp), (1, .ref yb), (2, .ref yg), (3, .int (nI k)), (4, .int (nI cn))]) hx hb dL_why_122 hl (k := 0) rfl (nI_inc i) (by decide) rfl (fun ls hl => ?_)
                              refine lv_goto (tgt := 91) hx hb dL_why_125 (by decide) ?_
                              exact ih7 (i + 1) (by omega) (bl_st hf2 (fun w => absurd w.2 (by omega))) (by omega) _ (lv_sub hl [0, 1, 2, 3, 4, 5, 6, 7, 8, 9] rfl)
                            · refine lv_iconst (v := 4) hx hb dL_why_120 (by decide) ?_
                              subst hQ
                              exact W.iret (v := 4) hx hb hr (fun t ht hW => ⟨4, rfl, (by rw [lwy, if_neg c_476, if_neg (fun w => by have := ea.symm.trans w.1; exact nI_neg (by omega) (by decide) this), if_neg (by rw [eto]; exact nI_pos (by omega)), if_pos (by rw [lbQ, eto, ef, nI_clamp (show tv < 2 ^ 31 by omega)]; exact any_of _ _ b2 (by omega) (by omega) (bl_hit c_558 c_559 c_563))]), ht⟩) (fun _ h => absurd h List.not_mem_nil) dL_why_121
                    exact L7 5 0 (by decide) rfl (by decide) _ (lv_sub hl [0, 1, 2, 3, 4, 5, 6, 7, 8, 9] rfl)
            exact L4 (tv + 2) (tv + 1) (nI tv) (Nat.le_refl _) ((nI_pred tv).symm) (fun c h1 h2 => absurd h1 (by omega)) (by omega) _ (lv_sub hl [0, 1, 2, 3, 4, 5, 6, 7, 8] rfl)
          · refine lv_iconst (v := 3) hx hb dL_why_69 (by decide) ?_
            subst hQ
            exact W.iret (v := 3) hx hb hr (fun t ht hW => ⟨3, rfl, (by rw [lwy, if_neg c_476, if_neg (fun w => by have := ea.symm.trans w.1; exact nI_neg (by omega) (by decide) this), if_pos (by rw [lto, if_neg (by rw [ea]; exact nI_neg (by omega) (by decide)), eca]; exact Int32.not_le.mp c_510)]), ht⟩) (fun _ h => absurd h List.not_mem_nil) dL_why_70
        · exact absurd c_508 (by decide)
      · exact absurd c_507 (by decide)
  · refine lv_iconst (v := 1) hx hb dL_why_13 (by decide) ?_
    subst hQ
    exact W.iret (v := 1) hx hb hr (fun t ht hW => ⟨1, rfl, (by rw [lwy, if_pos c_476]), ht⟩) (fun _ h => absurd h List.not_mem_nil) dL_why_14

abbrev rm_L_bridges : Room := { frames := 3, cells := 0, slots := 0, locals := 66 }
set_option maxHeartbeats 1000000 in
set_option maxRecDepth 100000 in
theorem c_L_bridges (l : Launch) (G : va_G) (cI cC cZ cG : ClassId) (sz : Nat) (yp yb yg : Nat) (vp vb vg : IA) : Met l yL_bridges (.code yL_bridges cL_bridges 6 none :: wsL_law) rm_L_bridges (va_Pc [.ref yp, .ref yb, .ref yg] (bw G cI cC cZ cG false sz [(yp, .inl (cI, 12, .inl vp)), (yb, .inl (cI, 12, .inl vb)), (yg, .inl (cI, 10, .inl vg))])) (va_Qv (fun (u : IA × IA) => u.1 = (lbr vp vb vg 4).1 ∧ u.2 = (lbr vp vb vg 4).2) (fun (u : IA × IA) t => va_P G vwCl [(yp, .inl (cI, 12, .inl vp)), (yb, .inl (cI, 12, .inl u.1)), (yg, .inl (cI, 10, .inl u.2))] t.heap ∧ va_D (va_A [(yp, .inl (cI, 12, .inl vp)), (yb, .inl (cI, 12, .inl vb)), (yg, .inl (cI, 10, .inl vg))] sz) [(yp, .inl (cI, 12, .inl vp)), (yb, .inl (cI, 12, .inl u.1)), (yg, .inl (cI, 10, .inl u.2))]) (va_A [(yp, .inl (cI, 12, .inl vp)), (yb, .inl (cI, 12, .inl vb)), (yg, .inl (cI, 10, .inl vg))] sz)) 0 0 (va_A [(yp, .inl (cI, 12, .inl vp)), (yb, .inl (cI, 12, .inl vb)), (yg, .inl (cI, 10, .inl vg))] sz) := by
  refine met_bw rfl (Nat.le_of_ble_eq_true rfl) ?_
  intro p e s m below meth c ls hx hb hr hml hown hts hlocks hin hsz hP hK hD0 hX0 hl
  have hown : s.vm.findClass RL = some m.cls := hown
  have hl : lv_has ls 6 [(0, .ref yp), (1, .ref yb), (2, .ref yg)] := hl
  subst hsz
  have hD := hD0.self (sz := s.heap.size)
  generalize hAe : va_A [(yp, .inl (cI, 12, .inl vp)), (yb, .inl (cI, 12, .inl vb)), (yg, .inl (cI, 10, .inl vg))] s.heap.size = A at hD ⊢
  have hA : ∀ q : Nat, s.heap.size ≤ q → A q := fun q h => by rw [← hAe]; exact Or.inr h
  have hS : va_S A s.heap s.heap [] := va_S.rf
  generalize hQ : MQ below (va_Qv (fun (u : IA × IA) => u.1 = (lbr vp vb vg 4).1 ∧ u.2 = (lbr vp vb vg 4).2) (fun (u : IA × IA) t => va_P G vwCl [(yp, .inl (cI, 12, .inl vp)), (yb, .inl (cI, 12, .inl u.1)), (yg, .inl (cI, 10, .inl u.2))] t.heap ∧ va_D A [(yp, .inl (cI, 12, .inl vp)), (yb, .inl (cI, 12, .inl u.1)), (yg, .inl (cI, 10, .inl u.2))]) A) ([.ref yp, .ref yb, .ref yg] : List Value).toArray s 0 0 A = Q
  generalize hag : ([.ref yp, .ref yb, .ref yg] : List Value).toArray = ag at hts hQ ⊢
  refine lv_iconst (v := 0) hx hb dL_bridges_0 (by decide) ?_
  refine lv_istore_n (lv' := [(3, .int 0), (0, .ref yp), (1, .ref yb), (2, .ref yg)]) hx hb dL_bridges_1 rfl hl (by decide) rfl (fun ls hl => ?_)
  have L1 : ∀ (n : Nat), ∀ (i : Nat), ∀ (bc : IA), ∀ (gc : IA), ∀ (hi : i ≤ 4), ∀ (hf : (bc, gc) = lbr vp vb vg i), ∀ (hn : 5 ≤ i + n), ∀ (H564 : Heap) (locs564 : List Loc), va_P G vwCl [(yp, .inl (cI, 12, .inl vp)), (yb, .inl (cI, 12, .inl bc)), (yg, .inl (cI, 10, .inl gc))] H564 → va_D A [(yp, .inl (cI, 12, .inl vp)), (yb, .inl (cI, 12, .inl bc)), (yg, .inl (cI, 10, .inl gc))] → va_S A s.heap H564 locs564 → ∀ (ls : Array Slot), lv_has ls 6 [(3, .int (nI i)), (0, .ref yp), (1, .ref yb), (2, .ref yg)] → W p l e rm_L_bridges s m ag below meth c H564 locs564 0 0 Q (F0 m 2 ls []) := by
    intro n
    induction n with
    | zero =>
      intro i bc gc hi hf hn H564 locs564 hP hD hS ls hl
      omega
    | succ n ih1 =>
      intro i bc gc hi hf hn H564 locs564 hP hD hS ls hl
      refine lv_iload_n hx hb dL_bridges_2 rfl (lv_at hl 0 rfl) ?_
      refine lv_iconst (v := 4) hx hb dL_bridges_3 (by decide) ?_
      refine zi_ge (tgt := 126) hx hb i 4 dL_bridges_4 (by decide) rfl rfl (by omega) (by decide) (fun c_565 => ?_) (fun c_565 => ?_)
      · subst hQ
        exact W.vret hx hb hr (fun t ht hW => ⟨⟨(bc, gc), rfl, ⟨by rw [← show i = 4 by omega, ← hf], by rw [← show i = 4 by omega, ← hf]⟩, by rw [ht]; exact hP, hD⟩, hS.F ht⟩) hS.2.2 dL_bridges_126
      · refine lv_bipush (v := 8) hx hb dL_bridges_7 (by decide) ?_
        refine lv_iload_n hx hb dL_bridges_9 rfl (lv_at hl 0 rfl) ?_
        refine zi_mul hx hb 8 i dL_bridges_10 rfl rfl ?_
        refine lv_iconst (v := 4) hx hb dL_bridges_11 (by decide) ?_
        refine zi_add hx hb (8 * i) 4 dL_bridges_12 rfl rfl ?_
        refine lv_istore (lv' := [(4, .int (nI ((8 * i) + 4))), (3, .int (nI i)), (0, .ref yp), (1, .ref yb), (2, .ref yg)]) hx hb dL_bridges_13 hl (by decide) rfl (fun ls hl => ?_)
        refine lv_iconst (v := 0) hx hb dL_bridges_15 (by decide) ?_
        refine lv_istore (lv' := [(5, .int 0), (4, .int (nI ((8 * i) + 4))), (3, .int (nI i)), (0, .ref yp), (1, .ref yb), (2, .ref yg)]) hx hb dL_bridges_16 hl (by decide) rfl (fun ls hl => ?_)
        have L2 : ∀ (n : Nat), ∀ (j : Nat), ∀ (bd : IA), ∀ (hj : j ≤ 4), ∀ (hf2 : bd = lb1 vp i bc j), ∀ (hn2 : 5 ≤ j + n), ∀ (H566 : Heap) (locs566 : List Loc), va_P G vwCl [(yp, .inl (cI, 12, .inl vp)), (yb, .inl (cI, 12, .inl bd)), (yg, .inl (cI, 10, .inl gc))] H566 → va_D A [(yp, .inl (cI, 12, .inl vp)), (yb, .inl (cI, 12, .inl bd)), (yg, .inl (cI, 10, .inl gc))] → va_S A s.heap H566 locs566 → ∀ (ls : Array Slot), lv_has ls 6 [(5, .int (nI j)), (4, .int (nI ((8 * i) + 4))), (3, .int (nI i)), (0, .ref yp), (1, .ref yb), (2, .ref yg)] → W p l e rm_L_bridges s m ag below meth c H566 locs566 0 0 Q (F0 m 18 ls []) := by
          intro n
          induction n with
          | zero =>
            intro j bd hj hf2 hn2 H566 locs566 hP hD hS ls hl
            omega
          | succ n ih2 =>
            intro j bd hj hf2 hn2 H566 locs566 hP hD hS ls hl
            refine lv_iload hx hb dL_bridges_18 (lv_at hl 0 rfl) ?_
            refine lv_iconst (v := 4) hx hb dL_bridges_20 (by decide) ?_
            refine zi_ge (tgt := 65) hx hb j 4 dL_bridges_21 (by decide) rfl rfl (by omega) (by decide) (fun c_567 => ?_) (fun c_567 => ?_)
            · refine lv_aload_n hx hb dL_bridges_65 rfl (lv_at hl 4 rfl) ?_
              refine lv_iconst (v := 3) hx hb dL_bridges_66 (by decide) ?_
              refine lv_iload_n hx hb dL_bridges_67 rfl (lv_at hl 2 rfl) ?_
              refine zi_mul hx hb 3 i dL_bridges_68 rfl rfl ?_
              refine lv_iconst (v := 1) hx hb dL_bridges_69 (by decide) ?_
              refine zi_add hx hb (3 * i) 1 dL_bridges_70 rfl rfl ?_
              refine za_ld hx hb hK.1 hP 1 0 rfl rfl ((3 * i) + 1) rfl (by omega) (by decide) dL_bridges_71 ?_
              refine lv_if_eq (tgt := 120) hx hb dL_bridges_72 (by decide) (fun c_568 => ?_) (fun c_568 => ?_)
              · refine lv_iinc (v := nI (i + 1)) (lv' := [(3, .int (nI (i + 1))), (5, .int (nI j)), (4, .int (nI ((8 * i) + 4))), (0, .ref yp), (1, .ref yb), (2, .ref yg)]) hx hb dL_bridges_120 hl (k := 2) rfl (nI_inc i) (by decide) rfl (fun ls hl => ?_)
                refine lv_goto (tgt := 2) hx hb dL_bridges_123 (by decide) ?_
                exact ih1 (i + 1) bd gc (by omega) (by rw [lbr, show lb1 vp i (lbr vp vb vg i).1 4 = bd by rw [← hf, hf2, show j = 4 by omega], lb2, if_pos (Or.inl c_568), ← hf]) (by omega) H566 locs566 hP hD hS _ (lv_sub hl [0, 3, 4, 5] rfl)
              · refine lv_aload_n hx hb dL_bridges_75 rfl (lv_at hl 3 rfl) ?_
                refine lv_iload hx hb dL_bridges_76 (lv_at hl 1 rfl) ?_
                have hPc := hP.sub (ws' := [(yp, .inl (cI, 12, .inl vp))]) [0] rfl
                have hDc := (hD.sub (ws' := [(yp, .inl (cI, 12, .inl vp))]) [0] (by decide) rfl).tt
                refine vp_callSi (va_Run.run (va_runS (As := [.ref yp, .int (nI ((8 * i) + 4))]) (rest := []) ⟨hx, hb, hml, hown, hts⟩ (c_L_all l G cI cC cZ cG H566.size yp vp (nI ((8 * i) + 4))) (cf_RL_29 hts ⟨Nat.le_of_ble_eq_true rfl, Nat.le_of_ble_eq_true rfl⟩) (pre_S hK hPc hDc) rfl rfl hl.1 rfl (lv_room (Nat.le_of_ble_eq_true rfl)) dL_bridges_78 ⟨Nat.le_of_ble_eq_true rfl, Nat.le_of_ble_eq_true rfl⟩)) (fun r569 hr569 => ?_)
                subst hr569
                have hf570 := (@ao_le vp (nI ((8 * i) + 4)) 4)
                refine z0_le (tgt := 87) hx hb (ao vp (nI ((8 * i) + 4)) 4) dL_bridges_81 (by decide) rfl (by omega) (fun c_571 => ?_) (fun c_571 => ?_)
                · refine lv_aload_n hx hb dL_bridges_87 rfl (lv_at hl 4 rfl) ?_
                  refine lv_iconst (v := 3) hx hb dL_bridges_88 (by decide) ?_
                  refine lv_iload_n hx hb dL_bridges_89 rfl (lv_at hl 2 rfl) ?_
                  refine zi_mul hx hb 3 i dL_bridges_90 rfl rfl ?_
                  refine lv_iconst (v := 1) hx hb dL_bridges_91 (by decide) ?_
                  refine za_st hx hb hK.1 hP hD hS 1 0 rfl rfl (3 * i) rfl (by omega) (by decide) dL_bridges_92 (fun H572 locs572 hP hD hS => ?_)
                  have hP : va_P G vwCl [(yp, .inl (cI, 12, .inl vp)), (yb, .inl (cI, 12, .inl (upd bd (3 * i) 1))), (yg, .inl (cI, 10, .inl gc))] H572 := hP
                  have hD : va_D A [(yp, .inl (cI, 12, .inl vp)), (yb, .inl (cI, 12, .inl (upd bd (3 * i) 1))), (yg, .inl (cI, 10, .inl gc))] := hD
                  refine lv_aload_n hx hb dL_bridges_93 rfl (lv_at hl 4 rfl) ?_
                  refine lv_iconst (v := 3) hx hb dL_bridges_94 (by decide) ?_
                  refine lv_iload_n hx hb dL_bridges_95 rfl (lv_at hl 2 rfl) ?_
                  refine zi_mul hx hb 3 i dL_bridges_96 rfl rfl ?_
                  refine lv_iconst (v := 1) hx hb dL_bridges_97 (by decide) ?_
                  refine zi_add hx hb (3 * i) 1 dL_bridges_98 rfl rfl ?_
                  refine lv_iconst (v := 0) hx hb dL_bridges_99 (by decide) ?_
                  refine za_st hx hb hK.1 hP hD hS 1 0 rfl rfl ((3 * i) + 1) rfl (by omega) (by decide) dL_bridges_100 (fun H573 locs573 hP hD hS => ?_)
                  have hP : va_P G vwCl [(yp, .inl (cI, 12, .inl vp)), (yb, .inl (cI, 12, .inl (upd (upd bd (3 * i) 1) ((3 * i) + 1) 0))), (yg, .inl (cI, 10, .inl gc))] H573 := hP
                  have hD : va_D A [(yp, .inl (cI, 12, .inl vp)), (yb, .inl (cI, 12, .inl (upd (upd bd (3 * i) 1) ((3 * i) + 1) 0))), (yg, .inl (cI, 10, .inl gc))] := hD
                  refine lv_aload_n hx hb dL_bridges_101 rfl (lv_at hl 4 rfl) ?_
                  refine lv_iconst (v := 3) hx hb dL_bridges_102 (by decide) ?_
                  refine lv_iload_n hx hb dL_bridges_103 rfl (lv_at hl 2 rfl) ?_
                  refine zi_mul hx hb 3 i dL_bridges_104 rfl rfl ?_
                  refine lv_iconst (v := 2) hx hb dL_bridges_105 (by decide) ?_
                  refine zi_add hx hb (3 * i) 2 dL_bridges_106 rfl rfl ?_
                  refine lv_aload_n hx hb dL_bridges_107 rfl (lv_at hl 5 rfl) ?_
                  refine lv_bipush (v := 6) hx hb dL_bridges_108 (by decide) ?_
                  refine za_ld hx hb hK.1 hP 2 0 rfl rfl 6 rfl (by decide) (by decide) dL_bridges_110 ?_
                  refine za_st hx hb hK.1 hP hD hS 1 0 rfl rfl ((3 * i) + 2) rfl (by omega) (by decide) dL_bridges_111 (fun H574 locs574 hP hD hS => ?_)
                  have hP : va_P G vwCl [(yp, .inl (cI, 12, .inl vp)), (yb, .inl (cI, 12, .inl (upd (upd (upd bd (3 * i) 1) ((3 * i) + 1) 0) ((3 * i) + 2) (gc 6)))), (yg, .inl (cI, 10, .inl gc))] H574 := hP
                  have hD : va_D A [(yp, .inl (cI, 12, .inl vp)), (yb, .inl (cI, 12, .inl (upd (upd (upd bd (3 * i) 1) ((3 * i) + 1) 0) ((3 * i) + 2) (gc 6)))), (yg, .inl (cI, 10, .inl gc))] := hD
                  refine lv_aload_n hx hb dL_bridges_112 rfl (lv_at hl 5 rfl) ?_
                  refine lv_bipush (v := 9) hx hb dL_bridges_113 (by decide) ?_
                  refine lv_dup2_11 hx hb dL_bridges_115 rfl rfl ?_
                  refine za_ld hx hb hK.1 hP 2 0 rfl rfl 9 rfl (by decide) (by decide) dL_bridges_116 ?_
                  refine lv_iconst (v := 1) hx hb dL_bridges_117 (by decide) ?_
                  refine lv_iadd hx hb dL_bridges_118 ?_
                  refine za_st hx hb hK.1 hP hD hS 2 0 rfl rfl 9 rfl (by decide) (by decide) dL_bridges_119 (fun H575 locs575 hP hD hS => ?_)
                  have hP : va_P G vwCl [(yp, .inl (cI, 12, .inl vp)), (yb, .inl (cI, 12, .inl (upd (upd (upd bd (3 * i) 1) ((3 * i) + 1) 0) ((3 * i) + 2) (gc 6)))), (yg, .inl (cI, 10, .inl (upd gc 9 ((gc 9) + 1))))] H575 := hP
                  have hD : va_D A [(yp, .inl (cI, 12, .inl vp)), (yb, .inl (cI, 12, .inl (upd (upd (upd bd (3 * i) 1) ((3 * i) + 1) 0) ((3 * i) + 2) (gc 6)))), (yg, .inl (cI, 10, .inl (upd gc 9 ((gc 9) + 1))))] := hD
                  refine lv_iinc (v := nI (i + 1)) (lv' := [(3, .int (nI (i + 1))), (5, .int (nI j)), (4, .int (nI ((8 * i) + 4))), (0, .ref yp), (1, .ref yb), (2, .ref yg)]) hx hb dL_bridges_120 hl (k := 2) rfl (nI_inc i) (by decide) rfl (fun ls hl => ?_)
                  refine lv_goto (tgt := 2) hx hb dL_bridges_123 (by decide) ?_
                  exact ih1 (i + 1) (upd (upd (upd bd (3 * i) 1) ((3 * i) + 1) 0) ((3 * i) + 2) (gc 6)) (upd gc 9 ((gc 9) + 1)) (by omega) (by rw [lbr, show lb1 vp i (lbr vp vb vg i).1 4 = bd by rw [← hf, hf2, show j = 4 by omega], lb2, if_neg (fun w => w.elim c_568 (fun z => absurd z (by omega))), ← hf]) (by omega) H575 locs575 hP hD hS _ (lv_sub hl [0, 3, 4, 5] rfl)
                · refine lv_goto (tgt := 120) hx hb dL_bridges_84 (by decide) ?_
                  refine lv_iinc (v := nI (i + 1)) (lv' := [(3, .int (nI (i + 1))), (5, .int (nI j)), (4, .int (nI ((8 * i) + 4))), (0, .ref yp), (1, .ref yb), (2, .ref yg)]) hx hb dL_bridges_120 hl (k := 2) rfl (nI_inc i) (by decide) rfl (fun ls hl => ?_)
                  refine lv_goto (tgt := 2) hx hb dL_bridges_123 (by decide) ?_
                  exact ih1 (i + 1) bd gc (by omega) (by rw [lbr, show lb1 vp i (lbr vp vb vg i).1 4 = bd by rw [← hf, hf2, show j = 4 by omega], lb2, if_pos (Or.inr c_571), ← hf]) (by omega) H566 locs566 hP hD hS _ (lv_sub hl [0, 3, 4, 5] rfl)
            · refine lv_aload_n hx hb dL_bridges_24 rfl (lv_at hl 4 rfl) ?_
              refine lv_iconst (v := 3) hx hb dL_bridges_25 (by decide) ?_
              refine lv_iload_n hx hb dL_bridges_26 rfl (lv_at hl 2 rfl) ?_
              refine zi_mul hx hb 3 i dL_bridges_27 rfl rfl ?_
              refine lv_iconst (v := 1) hx hb dL_bridges_28 (by decide) ?_
              refine zi_add hx hb (3 * i) 1 dL_bridges_29 rfl rfl ?_
              refine lv_dup2_11 hx hb dL_bridges_30 rfl rfl ?_
              refine za_ld hx hb hK.1 hP 1 0 rfl rfl ((3 * i) + 1) rfl (by omega) (by decide) dL_bridges_31 ?_
              refine lv_aload_n hx hb dL_bridges_32 rfl (lv_at hl 4 rfl) ?_
              refine lv_iconst (v := 3) hx hb dL_bridges_33 (by decide) ?_
              refine lv_iload_n hx hb dL_bridges_34 rfl (lv_at hl 2 rfl) ?_
              refine zi_mul hx hb 3 i dL_bridges_35 rfl rfl ?_
              refine za_ld hx hb hK.1 hP 1 0 rfl rfl (3 * i) rfl (by omega) (by decide) dL_bridges_36 ?_
              refine lv_if_ne (tgt := 56) hx hb dL_bridges_37 (by decide) (fun c_576 => ?_) (fun c_576 => ?_)
              · refine lv_iconst (v := 0) hx hb dL_bridges_56 (by decide) ?_
                refine lv_ior hx hb dL_bridges_57 ?_
                refine za_st hx hb hK.1 hP hD hS 1 0 rfl rfl ((3 * i) + 1) rfl (by omega) (by decide) dL_bridges_58 (fun H577 locs577 hP hD hS => ?_)
                have hP : va_P G vwCl [(yp, .inl (cI, 12, .inl vp)), (yb, .inl (cI, 12, .inl (upd bd ((3 * i) + 1) ((bd ((3 * i) + 1)) ||| 0)))), (yg, .inl (cI, 10, .inl gc))] H577 := hP
                have hD : va_D A [(yp, .inl (cI, 12, .inl vp)), (yb, .inl (cI, 12, .inl (upd bd ((3 * i) + 1) ((bd ((3 * i) + 1)) ||| 0)))), (yg, .inl (cI, 10, .inl gc))] := hD
                refine lv_iinc (v := nI (j + 1)) (lv' := [(5, .int (nI (j + 1))), (4, .int (nI ((8 * i) + 4))), (3, .int (nI i)), (0, .ref yp), (1, .ref yb), (2, .ref yg)]) hx hb dL_bridges_59 hl (k := 0) rfl (nI_inc j) (by decide) rfl (fun ls hl => ?_)
                refine lv_goto (tgt := 18) hx hb dL_bridges_62 (by decide) ?_
                exact ih2 (j + 1) (upd bd ((3 * i) + 1) ((bd ((3 * i) + 1)) ||| 0)) (by omega) (by rw [lb1, ← hf2, if_neg (fun w => c_576 w.1)]) (by omega) H577 locs577 hP hD hS _ (lv_sub hl [0, 1, 2, 3, 4, 5] rfl)
              · refine lv_aload_n hx hb dL_bridges_40 rfl (lv_at hl 3 rfl) ?_
                refine lv_iload hx hb dL_bridges_41 (lv_at hl 0 rfl) ?_
                refine lv_iload hx hb dL_bridges_43 (lv_at hl 1 rfl) ?_
                have hPc := hP.sub (ws' := [(yp, .inl (cI, 12, .inl vp))]) [0] rfl
                have hDc := (hD.sub (ws' := [(yp, .inl (cI, 12, .inl vp))]) [0] (by decide) rfl).tt
                refine vp_callSi (va_Run.run (va_runS (As := [.ref yp, .int (nI j), .int (nI ((8 * i) + 4))]) (rest := [.int (bd ((3 * i) + 1)), .int (nI ((3 * i) + 1)), .ref yb]) ⟨hx, hb, hml, hown, hts⟩ (c_L_on l G cI cC cZ cG H566.size yp vp j (nI ((8 * i) + 4)) (by omega)) (cf_RL_15 hts ⟨Nat.le_of_ble_eq_true rfl, Nat.le_of_ble_eq_true rfl⟩) (pre_S hK hPc hDc) rfl rfl hl.1 rfl (lv_room (Nat.le_of_ble_eq_true rfl)) dL_bridges_45 ⟨Nat.le_of_ble_eq_true rfl, Nat.le_of_ble_eq_true rfl⟩)) (fun r578 hr578 => ?_)
                subst hr578
                have hf579 := (@mpc_le vp j (nI ((8 * i) + 4)))
                refine lv_iconst (v := 1) hx hb dL_bridges_48 (by decide) ?_
                refine zi_le (tgt := 56) hx hb (mpc vp j (nI ((8 * i) + 4))) 1 dL_bridges_49 (by decide) rfl rfl (by omega) (by decide) (fun c_580 => ?_) (fun c_580 => ?_)
                · refine lv_iconst (v := 0) hx hb dL_bridges_56 (by decide) ?_
                  refine lv_ior hx hb dL_bridges_57 ?_
                  refine za_st hx hb hK.1 hP hD hS 1 0 rfl rfl ((3 * i) + 1) rfl (by omega) (by decide) dL_bridges_58 (fun H581 locs581 hP hD hS => ?_)
                  have hP : va_P G vwCl [(yp, .inl (cI, 12, .inl vp)), (yb, .inl (cI, 12, .inl (upd bd ((3 * i) + 1) ((bd ((3 * i) + 1)) ||| 0)))), (yg, .inl (cI, 10, .inl gc))] H581 := hP
                  have hD : va_D A [(yp, .inl (cI, 12, .inl vp)), (yb, .inl (cI, 12, .inl (upd bd ((3 * i) + 1) ((bd ((3 * i) + 1)) ||| 0)))), (yg, .inl (cI, 10, .inl gc))] := hD
                  refine lv_iinc (v := nI (j + 1)) (lv' := [(5, .int (nI (j + 1))), (4, .int (nI ((8 * i) + 4))), (3, .int (nI i)), (0, .ref yp), (1, .ref yb), (2, .ref yg)]) hx hb dL_bridges_59 hl (k := 0) rfl (nI_inc j) (by decide) rfl (fun ls hl => ?_)
                  refine lv_goto (tgt := 18) hx hb dL_bridges_62 (by decide) ?_
                  exact ih2 (j + 1) (upd bd ((3 * i) + 1) ((bd ((3 * i) + 1)) ||| 0)) (by omega) (by rw [lb1, ← hf2, if_neg (fun w => absurd w.2 (by omega))]) (by omega) H581 locs581 hP hD hS _ (lv_sub hl [0, 1, 2, 3, 4, 5] rfl)
                · refine lv_iconst (v := 1) hx hb dL_bridges_52 (by decide) ?_
                  refine lv_goto (tgt := 57) hx hb dL_bridges_53 (by decide) ?_
                  refine lv_ior hx hb dL_bridges_57 ?_
                  refine za_st hx hb hK.1 hP hD hS 1 0 rfl rfl ((3 * i) + 1) rfl (by omega) (by decide) dL_bridges_58 (fun H582 locs582 hP hD hS => ?_)
                  have hP : va_P G vwCl [(yp, .inl (cI, 12, .inl vp)), (yb, .inl (cI, 12, .inl (upd bd ((3 * i) + 1) ((bd ((3 * i) + 1)) ||| 1)))), (yg, .inl (cI, 10, .inl gc))] H582 := hP
                  have hD : va_D A [(yp, .inl (cI, 12, .inl vp)), (yb, .inl (cI, 12, .inl (upd bd ((3 * i) + 1) ((bd ((3 * i) + 1)) ||| 1)))), (yg, .inl (cI, 10, .inl gc))] := hD
                  refine lv_iinc (v := nI (j + 1)) (lv' := [(5, .int (nI (j + 1))), (4, .int (nI ((8 * i) + 4))), (3, .int (nI i)), (0, .ref yp), (1, .ref yb), (2, .ref yg)]) hx hb dL_bridges_59 hl (k := 0) rfl (nI_inc j) (by decide) rfl (fun ls hl => ?_)
                  refine lv_goto (tgt := 18) hx hb dL_bridges_62 (by decide) ?_
                  exact ih2 (j + 1) (upd bd ((3 * i) + 1) ((bd ((3 * i) + 1)) ||| 1)) (by omega) (by rw [lb1, ← hf2, if_pos ⟨c_576, c_580⟩]) (by omega) H582 locs582 hP hD hS _ (lv_sub hl [0, 1, 2, 3, 4, 5] rfl)
        exact L2 5 0 bc (by decide) rfl (by decide) H564 locs564 hP hD hS _ (lv_sub hl [0, 1, 2, 3, 4, 5] rfl)
  exact L1 5 0 vb vg (by decide) rfl (by decide) s.heap [] hP hD hS _ (lv_sub hl [0, 1, 2, 3] rfl)

abbrev rm_L_winner : Room := { frames := 0, cells := 0, slots := 0, locals := 0 }
set_option maxHeartbeats 1000000 in
set_option maxRecDepth 100000 in
theorem c_L_winner (l : Launch) (G : va_G) (cI cC cZ cG : ClassId) (sz : Nat) (yp : Nat) (vp : IA) : Met l yL_winner (.code yL_winner cL_winner 2 (some .int) :: wsL_law) rm_L_winner (va_Pc [.ref yp] (bw G cI cC cZ cG false sz [(yp, .inl (cI, 12, .inl vp))])) (vp_Si (fun r => r = lwi vp)) 0 0 (fun _ => False) := by
  refine met_bw rfl (Nat.le_of_ble_eq_true rfl) ?_
  intro p e s m below meth c ls hx hb hr hml hown hts hlocks hin hsz hP hK hD0 hX0 hl
  have hown : s.vm.findClass RL = some m.cls := hown
  have hl : lv_has ls 2 [(0, .ref yp)] := hl
  generalize hQ : MQ below (vp_Si (fun r => r = lwi vp)) ([.ref yp] : List Value).toArray s 0 0 (fun _ => False) = Q
  generalize hag : ([.ref yp] : List Value).toArray = ag at hts hQ ⊢
  refine lv_iconst (v := 0) hx hb dL_winner_0 (by decide) ?_
  refine lv_istore_n (lv' := [(1, .int 0), (0, .ref yp)]) hx hb dL_winner_1 rfl hl (by decide) rfl (fun ls hl => ?_)
  have L1 : ∀ (n : Nat), ∀ (i : Nat), ∀ (hi : i ≤ 4), ∀ (hf : low (lwP vp) 0 4 = low (lwP vp) i (4 - i)), ∀ (hn : 5 ≤ i + n), ∀ (ls : Array Slot), lv_has ls 2 [(1, .int (nI i)), (0, .ref yp)] → W p l e rm_L_winner s m ag below meth c s.heap [] 0 0 Q (F0 m 2 ls []) := by
    intro n
    induction n with
    | zero =>
      intro i hi hf hn ls hl
      omega
    | succ n ih1 =>
      intro i hi hf hn ls hl
      refine lv_iload_n hx hb dL_winner_2 rfl (lv_at hl 0 rfl) ?_
      refine lv_iconst (v := 4) hx hb dL_winner_3 (by decide) ?_
      refine zi_ge (tgt := 41) hx hb i 4 dL_winner_4 (by decide) rfl rfl (by omega) (by decide) (fun c_584 => ?_) (fun c_584 => ?_)
      · refine lv_bipush (v := (-6)) hx hb dL_winner_41 (by decide) ?_
        subst hQ
        exact W.iret (v := (-6)) hx hb hr (fun t ht hW => ⟨(-6), rfl, by rw [lwi, hf, show 4 - i = 0 by omega]; rfl, ht⟩) (fun _ h => absurd h List.not_mem_nil) dL_winner_43
      · refine lv_aload_n hx hb dL_winner_7 rfl (lv_at hl 1 rfl) ?_
        refine lv_iconst (v := 3) hx hb dL_winner_8 (by decide) ?_
        refine lv_iload_n hx hb dL_winner_9 rfl (lv_at hl 0 rfl) ?_
        refine zi_mul hx hb 3 i dL_winner_10 rfl rfl ?_
        refine za_ld hx hb hK.1 hP 0 0 rfl rfl (3 * i) rfl (by omega) (by decide) dL_winner_11 ?_
        refine lv_aload_n hx hb dL_winner_12 rfl (lv_at hl 1 rfl) ?_
        refine lv_iconst (v := 3) hx hb dL_winner_13 (by decide) ?_
        refine lv_iload_n hx hb dL_winner_14 rfl (lv_at hl 0 rfl) ?_
        refine zi_mul hx hb 3 i dL_winner_15 rfl rfl ?_
        refine lv_iconst (v := 1) hx hb dL_winner_16 (by decide) ?_
        refine zi_add hx hb (3 * i) 1 dL_winner_17 rfl rfl ?_
        refine za_ld hx hb hK.1 hP 0 0 rfl rfl ((3 * i) + 1) rfl (by omega) (by decide) dL_winner_18 ?_
        refine lv_iadd hx hb dL_winner_19 ?_
        refine lv_aload_n hx hb dL_winner_20 rfl (lv_at hl 1 rfl) ?_
        refine lv_iconst (v := 3) hx hb dL_winner_21 (by decide) ?_
        refine lv_iload_n hx hb dL_winner_22 rfl (lv_at hl 0 rfl) ?_
        refine zi_mul hx hb 3 i dL_winner_23 rfl rfl ?_
        refine lv_iconst (v := 2) hx hb dL_winner_24 (by decide) ?_
        refine zi_add hx hb (3 * i) 2 dL_winner_25 rfl rfl ?_
        refine za_ld hx hb hK.1 hP 0 0 rfl rfl ((3 * i) + 2) rfl (by omega) (by decide) dL_winner_26 ?_
        refine lv_iadd hx hb dL_winner_27 ?_
        refine lv_bipush (v := 105) hx hb dL_winner_28 (by decide) ?_
        refine lv_icmp_ne (tgt := 35) hx hb dL_winner_30 (by decide) (fun c_585 => ?_) (fun c_585 => ?_)
        · refine lv_iinc (v := nI (i + 1)) (lv' := [(1, .int (nI (i + 1))), (0, .ref yp)]) hx hb dL_winner_35 hl (k := 0) rfl (nI_inc i) (by decide) rfl (fun ls hl => ?_)
          refine lv_goto (tgt := 2) hx hb dL_winner_38 (by decide) ?_
          exact ih1 (i + 1) (by omega) (by rw [hf, show 4 - i = (4 - (i + 1)) + 1 by omega, low, lwP, if_neg (by rw [decide_eq_true_eq]; exact c_585)]) (by omega) _ (lv_sub hl [0, 1] rfl)
        · refine lv_iload_n hx hb dL_winner_33 rfl (lv_at hl 0 rfl) ?_
          subst hQ
          exact W.iret (v := nI i) hx hb hr (fun t ht hW => ⟨nI i, rfl, by rw [lwi, hf, show 4 - i = (4 - (i + 1)) + 1 by omega, low, lwP, if_pos (decide_eq_true c_585)], ht⟩) (fun _ h => absurd h List.not_mem_nil) dL_winner_34
  exact L1 5 0 (by decide) rfl (by decide) _ (lv_sub hl [0, 1] rfl)

abbrev rm_L_go : Room := { frames := 4, cells := 0, slots := 0, locals := 91 }
theorem cf_RL_35 {R : Room} {s : State} {args : Array Value} (ht : ∀ w ∈ wsL_law, w.before args s = true) (hR : rm_L_bridges.frames + 1 ≤ R.frames ∧ 8 + (6 + 11) + rm_L_bridges.locals ≤ R.locals) : CallB R s args RL 35 yL_bridges cL_bridges 6 none (.code yL_bridges cL_bridges 6 none :: wsL_law) rm_L_bridges 0 0 3 ∧ (Cond.static yL_bridges).before args s = true := ⟨cw_B 3 ht wd253 wd72 wd255 (by decide +kernel) rfl rfl hR, ht _ wd254⟩
set_option maxHeartbeats 1000000 in
set_option maxRecDepth 100000 in
theorem c_L_go (l : Launch) (G : va_G) (cI cC cZ cG : ClassId) (sz : Nat) (yp ys yb yg : Nat) (vp vs vb vg : IA) (k : Nat) (v : Int32) (hk : k < 12) : Met l yL_go (.code yL_go cL_go 8 none :: wsL_law) rm_L_go (va_Pc [.ref yp, .ref ys, .ref yb, .ref yg, .int (nI k), .int v] (bw G cI cC cZ cG false sz [(yp, .inl (cI, 12, .inl vp)), (ys, .inl (cI, 12, .inl vs)), (yb, .inl (cI, 12, .inl vb)), (yg, .inl (cI, 10, .inl vg))])) (va_Qv (fun (u : IA × IA × IA × IA) => u.1 = (lgS vp vs vb vg k v).1 ∧ u.2.1 = (lgS vp vs vb vg k v).2.1 ∧ u.2.2.1 = (lgS vp vs vb vg k v).2.2.1 ∧ u.2.2.2 = (lgS vp vs vb vg k v).2.2.2) (fun (u : IA × IA × IA × IA) t => va_P G vwCl [(yp, .inl (cI, 12, .inl u.1)), (ys, .inl (cI, 12, .inl u.2.1)), (yb, .inl (cI, 12, .inl u.2.2.1)), (yg, .inl (cI, 10, .inl u.2.2.2))] t.heap ∧ va_D (va_A [(yp, .inl (cI, 12, .inl vp)), (ys, .inl (cI, 12, .inl vs)), (yb, .inl (cI, 12, .inl vb)), (yg, .inl (cI, 10, .inl vg))] sz) [(yp, .inl (cI, 12, .inl u.1)), (ys, .inl (cI, 12, .inl u.2.1)), (yb, .inl (cI, 12, .inl u.2.2.1)), (yg, .inl (cI, 10, .inl u.2.2.2))]) (va_A [(yp, .inl (cI, 12, .inl vp)), (ys, .inl (cI, 12, .inl vs)), (yb, .inl (cI, 12, .inl vb)), (yg, .inl (cI, 10, .inl vg))] sz)) 0 0 (va_A [(yp, .inl (cI, 12, .inl vp)), (ys, .inl (cI, 12, .inl vs)), (yb, .inl (cI, 12, .inl vb)), (yg, .inl (cI, 10, .inl vg))] sz) := by
  refine met_bw rfl (Nat.le_of_ble_eq_true rfl) ?_
  intro p e s m below meth c ls hx hb hr hml hown hts hlocks hin hsz hP hK hD0 hX0 hl
  have hown : s.vm.findClass RL = some m.cls := hown
  have hl : lv_has ls 8 [(0, .ref yp), (1, .ref ys), (2, .ref yb), (3, .ref yg), (4, .int (nI k)), (5, .int v)] := hl
  subst hsz
  have hD := hD0.self (sz := s.heap.size)
  generalize hAe : va_A [(yp, .inl (cI, 12, .inl vp)), (ys, .inl (cI, 12, .inl vs)), (yb, .inl (cI, 12, .inl vb)), (yg, .inl (cI, 10, .inl vg))] s.heap.size = A at hD ⊢
  have hA : ∀ q : Nat, s.heap.size ≤ q → A q := fun q h => by rw [← hAe]; exact Or.inr h
  have hS : va_S A s.heap s.heap [] := va_S.rf
  generalize hQ : MQ below (va_Qv (fun (u : IA × IA × IA × IA) => u.1 = (lgS vp vs vb vg k v).1 ∧ u.2.1 = (lgS vp vs vb vg k v).2.1 ∧ u.2.2.1 = (lgS vp vs vb vg k v).2.2.1 ∧ u.2.2.2 = (lgS vp vs vb vg k v).2.2.2) (fun (u : IA × IA × IA × IA) t => va_P G vwCl [(yp, .inl (cI, 12, .inl u.1)), (ys, .inl (cI, 12, .inl u.2.1)), (yb, .inl (cI, 12, .inl u.2.2.1)), (yg, .inl (cI, 10, .inl u.2.2.2))] t.heap ∧ va_D A [(yp, .inl (cI, 12, .inl u.1)), (ys, .inl (cI, 12, .inl u.2.1)), (yb, .inl (cI, 12, .inl u.2.2.1)), (yg, .inl (cI, 10, .inl u.2.2.2))]) A) ([.ref yp, .ref ys, .ref yb, .ref yg, .int (nI k), .int v] : List Value).toArray s 0 0 A = Q
  generalize hag : ([.ref yp, .ref ys, .ref yb, .ref yg, .int (nI k), .int v] : List Value).toArray = ag at hts hQ ⊢
  refine lv_iload hx hb dL_go_0 (lv_at hl 4 rfl) ?_
  refine lv_iload hx hb dL_go_2 (lv_at hl 5 rfl) ?_
  refine vp_callSi (va_Run.run (va_runS (As := [.int (nI k), .int v]) (rest := []) ⟨hx, hb, hml, hown, hts⟩ (c_L_field l k v (by omega)) (cf_RL_9 hts ⟨Nat.le_of_ble_eq_true rfl, Nat.le_of_ble_eq_true rfl⟩) pre_P rfl rfl hl.1 rfl (lv_room (Nat.le_of_ble_eq_true rfl)) dL_go_4 ⟨Nat.le_of_ble_eq_true rfl, Nat.le_of_ble_eq_true rfl⟩)) (fun r586 hr586 => ?_)
  subst hr586
  refine lv_istore (lv' := [(6, .int (lfd (k / 3) v)), (0, .ref yp), (1, .ref ys), (2, .ref yb), (3, .ref yg), (4, .int (nI k)), (5, .int v)]) hx hb dL_go_7 hl (by decide) rfl (fun ls hl => ?_)
  refine lv_iconst (v := 0) hx hb dL_go_9 (by decide) ?_
  refine lv_istore (lv' := [(7, .int 0), (6, .int (lfd (k / 3) v)), (0, .ref yp), (1, .ref ys), (2, .ref yb), (3, .ref yg), (4, .int (nI k)), (5, .int v)]) hx hb dL_go_10 hl (by decide) rfl (fun ls hl => ?_)
  have L1 : ∀ (n : Nat), ∀ (i : Nat), ∀ (pa : IA), ∀ (sa : IA), ∀ (ga : IA), ∀ (hi : i ≤ 12), ∀ (hf : (pa, sa, ga) = lg0 (k / 3) (lfd (k / 3) v) vp vs vg i), ∀ (hn : 13 ≤ i + n), ∀ (H587 : Heap) (locs587 : List Loc), va_P G vwCl [(yp, .inl (cI, 12, .inl pa)), (ys, .inl (cI, 12, .inl sa)), (yb, .inl (cI, 12, .inl vb)), (yg, .inl (cI, 10, .inl ga))] H587 → va_D A [(yp, .inl (cI, 12, .inl pa)), (ys, .inl (cI, 12, .inl sa)), (yb, .inl (cI, 12, .inl vb)), (yg, .inl (cI, 10, .inl ga))] → va_S A s.heap H587 locs587 → ∀ (ls : Array Slot), lv_has ls 8 [(7, .int (nI i)), (6, .int (lfd (k / 3) v)), (0, .ref yp), (1, .ref ys), (2, .ref yb), (3, .ref yg), (4, .int (nI k)), (5, .int v)] → W p l e rm_L_go s m ag below meth c H587 locs587 0 0 Q (F0 m 12 ls []) := by
    intro n
    induction n with
    | zero =>
      intro i pa sa ga hi hf hn H587 locs587 hP hD hS ls hl
      omega
    | succ n ih1 =>
      intro i pa sa ga hi hf hn H587 locs587 hP hD hS ls hl
      refine lv_iload hx hb dL_go_12 (lv_at hl 0 rfl) ?_
      refine lv_bipush (v := 12) hx hb dL_go_14 (by decide) ?_
      refine zi_ge (tgt := 80) hx hb i 12 dL_go_16 (by decide) rfl rfl (by omega) (by decide) (fun c_588 => ?_) (fun c_588 => ?_)
      · have h12 : lg0 (k / 3) (lfd (k / 3) v) vp vs vg 12 = (pa, sa, ga) := by rw [← show i = 12 by omega, ← hf]
        refine lv_aload_n hx hb dL_go_80 rfl (lv_at hl 2 rfl) ?_
        refine lv_iload hx hb dL_go_81 (lv_at hl 6 rfl) ?_
        refine lv_iload hx hb dL_go_83 (lv_at hl 7 rfl) ?_
        refine za_st hx hb hK.1 hP hD hS 0 0 rfl rfl k rfl (by omega) (by decide) dL_go_85 (fun H589 locs589 hP hD hS => ?_)
        have hP : va_P G vwCl [(yp, .inl (cI, 12, .inl (upd pa k v))), (ys, .inl (cI, 12, .inl sa)), (yb, .inl (cI, 12, .inl vb)), (yg, .inl (cI, 10, .inl ga))] H589 := hP
        have hD : va_D A [(yp, .inl (cI, 12, .inl (upd pa k v))), (ys, .inl (cI, 12, .inl sa)), (yb, .inl (cI, 12, .inl vb)), (yg, .inl (cI, 10, .inl ga))] := hD
        refine lv_aload_n hx hb dL_go_86 rfl (lv_at hl 2 rfl) ?_
        refine lv_aload_n hx hb dL_go_87 rfl (lv_at hl 4 rfl) ?_
        refine lv_aload_n hx hb dL_go_88 rfl (lv_at hl 5 rfl) ?_
        have hPc := hP.sub (ws' := [(yp, .inl (cI, 12, .inl (upd pa k v))), (yb, .inl (cI, 12, .inl vb)), (yg, .inl (cI, 10, .inl ga))]) [0, 2, 3] rfl
        have hDc := (hD.sub (ws' := [(yp, .inl (cI, 12, .inl (upd pa k v))), (yb, .inl (cI, 12, .inl vb)), (yg, .inl (cI, 10, .inl ga))]) [0, 2, 3] (by decide) rfl).tt
        have hFc := va_free (wc := [(yp, .inl (cI, 12, .inl (upd pa k v))), (yb, .inl (cI, 12, .inl vb)), (yg, .inl (cI, 10, .inl ga))]) hD hS hA [0, 2, 3] rfl
        refine va_callv (va_runS (As := [.ref yp, .ref yb, .ref yg]) (rest := []) ⟨hx, hb, hml, hown, hts⟩ (c_L_bridges l G cI cC cZ cG H589.size yp yb yg (upd pa k v) vb ga) (cf_RL_35 hts ⟨Nat.le_of_ble_eq_true rfl, Nat.le_of_ble_eq_true rfl⟩) (pre_S hK hPc hDc) rfl rfl hl.1 rfl (lv_room (Nat.le_of_ble_eq_true rfl)) dL_go_89 ⟨Nat.le_of_ble_eq_true rfl, Nat.le_of_ble_eq_true rfl⟩) hS (fun q _ h => hFc q h) hFc (fun u590 t590 H590 locs590 ht590 hvm590 hw590 hB590 hz590 hk590 hS => ?_)
        obtain ⟨vb590, vg590⟩ := u590
        obtain ⟨hP1, hD1⟩ := hB590
        rw [ht590] at hP1
        try dsimp only at hw590
        obtain ⟨rfl, rfl⟩ := hw590
        obtain ⟨hP, hD⟩ := va_join (wr := [(ys, .inl (cI, 12, .inl sa))]) (w1 := [(yp, .inl (cI, 12, .inl (upd pa k v))), (yb, .inl (cI, 12, .inl ((lbr (upd pa k v) vb ga 4).1))), (yg, .inl (cI, 10, .inl ((lbr (upd pa k v) vb ga 4).2)))]) hP hD [0, 2, 3] [1] rfl rfl (by decide) (by decide) hk590 hFc hP1 hD1
        have hP : va_P G vwCl [(ys, .inl (cI, 12, .inl sa)), (yp, .inl (cI, 12, .inl (upd pa k v))), (yb, .inl (cI, 12, .inl ((lbr (upd pa k v) vb ga 4).1))), (yg, .inl (cI, 10, .inl ((lbr (upd pa k v) vb ga 4).2)))] H590 := hP
        have hD : va_D A [(ys, .inl (cI, 12, .inl sa)), (yp, .inl (cI, 12, .inl (upd pa k v))), (yb, .inl (cI, 12, .inl ((lbr (upd pa k v) vb ga 4).1))), (yg, .inl (cI, 10, .inl ((lbr (upd pa k v) vb ga 4).2)))] := hD
        subst hQ
        have hP := hP.sub (ws' := [(yp, .inl (cI, 12, .inl (upd pa k v))), (ys, .inl (cI, 12, .inl sa)), (yb, .inl (cI, 12, .inl ((lbr (upd pa k v) vb ga 4).1))), (yg, .inl (cI, 10, .inl ((lbr (upd pa k v) vb ga 4).2)))]) [1, 0, 2, 3] rfl
        have hD := hD.sub (ws' := [(yp, .inl (cI, 12, .inl (upd pa k v))), (ys, .inl (cI, 12, .inl sa)), (yb, .inl (cI, 12, .inl ((lbr (upd pa k v) vb ga 4).1))), (yg, .inl (cI, 10, .inl ((lbr (upd pa k v) vb ga 4).2)))]) [1, 0, 2, 3] (by decide) rfl
        exact W.vret hx hb hr (fun t ht hW => ⟨⟨((upd pa k v), sa, ((lbr (upd pa k v) vb ga 4).1), ((lbr (upd pa k v) vb ga 4).2)), rfl, ⟨by rw [lgS, h12], by rw [lgS, h12], by rw [lgS, h12], by rw [lgS, h12]⟩, by rw [ht]; exact hP, hD⟩, hS.F ht⟩) hS.2.2 dL_go_92
      · refine lv_iload hx hb dL_go_19 (lv_at hl 1 rfl) ?_
        refine lv_if_lt (tgt := 80) hx hb dL_go_21 (by decide) (fun c_591 => ?_) (fun c_591 => ?_)
        · have h12 : lg0 (k / 3) (lfd (k / 3) v) vp vs vg 12 = (pa, sa, ga) := by rw [hf, lg0_no c_591, lg0_no c_591]
          refine lv_aload_n hx hb dL_go_80 rfl (lv_at hl 2 rfl) ?_
          refine lv_iload hx hb dL_go_81 (lv_at hl 6 rfl) ?_
          refine lv_iload hx hb dL_go_83 (lv_at hl 7 rfl) ?_
          refine za_st hx hb hK.1 hP hD hS 0 0 rfl rfl k rfl (by omega) (by decide) dL_go_85 (fun H592 locs592 hP hD hS => ?_)
          have hP : va_P G vwCl [(yp, .inl (cI, 12, .inl (upd pa k v))), (ys, .inl (cI, 12, .inl sa)), (yb, .inl (cI, 12, .inl vb)), (yg, .inl (cI, 10, .inl ga))] H592 := hP
          have hD : va_D A [(yp, .inl (cI, 12, .inl (upd pa k v))), (ys, .inl (cI, 12, .inl sa)), (yb, .inl (cI, 12, .inl vb)), (yg, .inl (cI, 10, .inl ga))] := hD
          refine lv_aload_n hx hb dL_go_86 rfl (lv_at hl 2 rfl) ?_
          refine lv_aload_n hx hb dL_go_87 rfl (lv_at hl 4 rfl) ?_
          refine lv_aload_n hx hb dL_go_88 rfl (lv_at hl 5 rfl) ?_
          have hPc := hP.sub (ws' := [(yp, .inl (cI, 12, .inl (upd pa k v))), (yb, .inl (cI, 12, .inl vb)), (yg, .inl (cI, 10, .inl ga))]) [0, 2, 3] rfl
          have hDc := (hD.sub (ws' := [(yp, .inl (cI, 12, .inl (upd pa k v))), (yb, .inl (cI, 12, .inl vb)), (yg, .inl (cI, 10, .inl ga))]) [0, 2, 3] (by decide) rfl).tt
          have hFc := va_free (wc := [(yp, .inl (cI, 12, .inl (upd pa k v))), (yb, .inl (cI, 12, .inl vb)), (yg, .inl (cI, 10, .inl ga))]) hD hS hA [0, 2, 3] rfl
          refine va_callv (va_runS (As := [.ref yp, .ref yb, .ref yg]) (rest := []) ⟨hx, hb, hml, hown, hts⟩ (c_L_bridges l G cI cC cZ cG H592.size yp yb yg (upd pa k v) vb ga) (cf_RL_35 hts ⟨Nat.le_of_ble_eq_true rfl, Nat.le_of_ble_eq_true rfl⟩) (pre_S hK hPc hDc) rfl rfl hl.1 rfl (lv_room (Nat.le_of_ble_eq_true rfl)) dL_go_89 ⟨Nat.le_of_ble_eq_true rfl, Nat.le_of_ble_eq_true rfl⟩) hS (fun q _ h => hFc q h) hFc (fun u593 t593 H593 locs593 ht593 hvm593 hw593 hB593 hz593 hk593 hS => ?_)
          obtain ⟨vb593, vg593⟩ := u593
          obtain ⟨hP1, hD1⟩ := hB593
          rw [ht593] at hP1
          try dsimp only at hw593
          obtain ⟨rfl, rfl⟩ := hw593
          obtain ⟨hP, hD⟩ := va_join (wr := [(ys, .inl (cI, 12, .inl sa))]) (w1 := [(yp, .inl (cI, 12, .inl (upd pa k v))), (yb, .inl (cI, 12, .inl ((lbr (upd pa k v) vb ga 4).1))), (yg, .inl (cI, 10, .inl ((lbr (upd pa k v) vb ga 4).2)))]) hP hD [0, 2, 3] [1] rfl rfl (by decide) (by decide) hk593 hFc hP1 hD1
          have hP : va_P G vwCl [(ys, .inl (cI, 12, .inl sa)), (yp, .inl (cI, 12, .inl (upd pa k v))), (yb, .inl (cI, 12, .inl ((lbr (upd pa k v) vb ga 4).1))), (yg, .inl (cI, 10, .inl ((lbr (upd pa k v) vb ga 4).2)))] H593 := hP
          have hD : va_D A [(ys, .inl (cI, 12, .inl sa)), (yp, .inl (cI, 12, .inl (upd pa k v))), (yb, .inl (cI, 12, .inl ((lbr (upd pa k v) vb ga 4).1))), (yg, .inl (cI, 10, .inl ((lbr (upd pa k v) vb ga 4).2)))] := hD
          subst hQ
          have hP := hP.sub (ws' := [(yp, .inl (cI, 12, .inl (upd pa k v))), (ys, .inl (cI, 12, .inl sa)), (yb, .inl (cI, 12, .inl ((lbr (upd pa k v) vb ga 4).1))), (yg, .inl (cI, 10, .inl ((lbr (upd pa k v) vb ga 4).2)))]) [1, 0, 2, 3] rfl
          have hD := hD.sub (ws' := [(yp, .inl (cI, 12, .inl (upd pa k v))), (ys, .inl (cI, 12, .inl sa)), (yb, .inl (cI, 12, .inl ((lbr (upd pa k v) vb ga 4).1))), (yg, .inl (cI, 10, .inl ((lbr (upd pa k v) vb ga 4).2)))]) [1, 0, 2, 3] (by decide) rfl
          exact W.vret hx hb hr (fun t ht hW => ⟨⟨((upd pa k v), sa, ((lbr (upd pa k v) vb ga 4).1), ((lbr (upd pa k v) vb ga 4).2)), rfl, ⟨by rw [lgS, h12], by rw [lgS, h12], by rw [lgS, h12], by rw [lgS, h12]⟩, by rw [ht]; exact hP, hD⟩, hS.F ht⟩) hS.2.2 dL_go_92
        · refine lv_iload hx hb dL_go_24 (lv_at hl 0 rfl) ?_
          refine lv_iconst (v := 3) hx hb dL_go_26 (by decide) ?_
          refine zi_div hx hb i 3 dL_go_27 rfl rfl (by omega) (by decide) (by decide) ?_
          refine lv_iload hx hb dL_go_28 (lv_at hl 6 rfl) ?_
          refine lv_iconst (v := 3) hx hb dL_go_30 (by decide) ?_
          refine zi_div hx hb k 3 dL_go_31 rfl rfl (by omega) (by decide) (by decide) ?_
          refine zi_eq (tgt := 74) hx hb (i / 3) (k / 3) dL_go_32 (by decide) rfl rfl (by omega) (by omega) (fun c_594 => ?_) (fun c_594 => ?_)
          · refine lv_iinc (v := nI (i + 1)) (lv' := [(7, .int (nI (i + 1))), (6, .int (lfd (k / 3) v)), (0, .ref yp), (1, .ref ys), (2, .ref yb), (3, .ref yg), (4, .int (nI k)), (5, .int v)]) hx hb dL_go_74 hl (k := 0) rfl (nI_inc i) (by decide) rfl (fun ls hl => ?_)
            refine lv_goto (tgt := 12) hx hb dL_go_77 (by decide) ?_
            exact ih1 (i + 1) pa sa ga (by omega) (by rw [lg0, ← hf, if_neg (fun w => w.2.1 c_594)]) (by omega) H587 locs587 hP hD hS _ (lv_sub hl [0, 1, 2, 3, 4, 5, 6, 7] rfl)
          · refine lv_iload hx hb dL_go_35 (lv_at hl 0 rfl) ?_
            refine lv_aload_n hx hb dL_go_37 rfl (lv_at hl 2 rfl) ?_
            refine lv_iload hx hb dL_go_38 (lv_at hl 0 rfl) ?_
            refine za_ld hx hb hK.1 hP 0 0 rfl rfl i rfl (by omega) (by decide) dL_go_40 ?_
            refine vp_callSi (va_Run.run (va_runS (As := [.int (nI i), .int (pa i)]) (rest := []) ⟨hx, hb, hml, hown, hts⟩ (c_L_field l i (pa i) (by omega)) (cf_RL_9 hts ⟨Nat.le_of_ble_eq_true rfl, Nat.le_of_ble_eq_true rfl⟩) pre_P rfl rfl hl.1 rfl (lv_room (Nat.le_of_ble_eq_true rfl)) dL_go_41 ⟨Nat.le_of_ble_eq_true rfl, Nat.le_of_ble_eq_true rfl⟩)) (fun r595 hr595 => ?_)
            subst hr595
            refine lv_iload hx hb dL_go_44 (lv_at hl 1 rfl) ?_
            refine lv_icmp_eq (tgt := 52) hx hb dL_go_46 (by decide) (fun c_596 => ?_) (fun c_596 => ?_)
            · refine lv_aload_n hx hb dL_go_52 rfl (lv_at hl 2 rfl) ?_
              refine lv_iload hx hb dL_go_53 (lv_at hl 0 rfl) ?_
              refine lv_bipush (v := (-6)) hx hb dL_go_55 (by decide) ?_
              refine za_st hx hb hK.1 hP hD hS 0 0 rfl rfl i rfl (by omega) (by decide) dL_go_57 (fun H597 locs597 hP hD hS => ?_)
              have hP : va_P G vwCl [(yp, .inl (cI, 12, .inl (upd pa i (-6)))), (ys, .inl (cI, 12, .inl sa)), (yb, .inl (cI, 12, .inl vb)), (yg, .inl (cI, 10, .inl ga))] H597 := hP
              have hD : va_D A [(yp, .inl (cI, 12, .inl (upd pa i (-6)))), (ys, .inl (cI, 12, .inl sa)), (yb, .inl (cI, 12, .inl vb)), (yg, .inl (cI, 10, .inl ga))] := hD
              refine lv_aload_n hx hb dL_go_58 rfl (lv_at hl 3 rfl) ?_
              refine lv_iload hx hb dL_go_59 (lv_at hl 0 rfl) ?_
              refine lv_dup2_11 hx hb dL_go_61 rfl rfl ?_
              refine za_ld hx hb hK.1 hP 1 0 rfl rfl i rfl (by omega) (by decide) dL_go_62 ?_
              refine lv_iconst (v := 1) hx hb dL_go_63 (by decide) ?_
              refine lv_iadd hx hb dL_go_64 ?_
              refine za_st hx hb hK.1 hP hD hS 1 0 rfl rfl i rfl (by omega) (by decide) dL_go_65 (fun H598 locs598 hP hD hS => ?_)
              have hP : va_P G vwCl [(yp, .inl (cI, 12, .inl (upd pa i (-6)))), (ys, .inl (cI, 12, .inl (upd sa i ((sa i) + 1)))), (yb, .inl (cI, 12, .inl vb)), (yg, .inl (cI, 10, .inl ga))] H598 := hP
              have hD : va_D A [(yp, .inl (cI, 12, .inl (upd pa i (-6)))), (ys, .inl (cI, 12, .inl (upd sa i ((sa i) + 1)))), (yb, .inl (cI, 12, .inl vb)), (yg, .inl (cI, 10, .inl ga))] := hD
              refine lv_aload_n hx hb dL_go_66 rfl (lv_at hl 5 rfl) ?_
              refine lv_bipush (v := 8) hx hb dL_go_67 (by decide) ?_
              refine lv_dup2_11 hx hb dL_go_69 rfl rfl ?_
              refine za_ld hx hb hK.1 hP 3 0 rfl rfl 8 rfl (by decide) (by decide) dL_go_70 ?_
              refine lv_iconst (v := 1) hx hb dL_go_71 (by decide) ?_
              refine lv_iadd hx hb dL_go_72 ?_
              refine za_st hx hb hK.1 hP hD hS 3 0 rfl rfl 8 rfl (by decide) (by decide) dL_go_73 (fun H599 locs599 hP hD hS => ?_)
              have hP : va_P G vwCl [(yp, .inl (cI, 12, .inl (upd pa i (-6)))), (ys, .inl (cI, 12, .inl (upd sa i ((sa i) + 1)))), (yb, .inl (cI, 12, .inl vb)), (yg, .inl (cI, 10, .inl (upd ga 8 ((ga 8) + 1))))] H599 := hP
              have hD : va_D A [(yp, .inl (cI, 12, .inl (upd pa i (-6)))), (ys, .inl (cI, 12, .inl (upd sa i ((sa i) + 1)))), (yb, .inl (cI, 12, .inl vb)), (yg, .inl (cI, 10, .inl (upd ga 8 ((ga 8) + 1))))] := hD
              refine lv_iinc (v := nI (i + 1)) (lv' := [(7, .int (nI (i + 1))), (6, .int (lfd (k / 3) v)), (0, .ref yp), (1, .ref ys), (2, .ref yb), (3, .ref yg), (4, .int (nI k)), (5, .int v)]) hx hb dL_go_74 hl (k := 0) rfl (nI_inc i) (by decide) rfl (fun ls hl => ?_)
              refine lv_goto (tgt := 12) hx hb dL_go_77 (by decide) ?_
              exact ih1 (i + 1) (upd pa i (-6)) (upd sa i ((sa i) + 1)) (upd ga 8 ((ga 8) + 1)) (by omega) (by rw [lg0, ← hf, if_pos ⟨c_591, c_594, c_596⟩]) (by omega) H599 locs599 hP hD hS _ (lv_sub hl [0, 1, 2, 3, 4, 5, 6, 7] rfl)
            · refine lv_goto (tgt := 74) hx hb dL_go_49 (by decide) ?_
              refine lv_iinc (v := nI (i + 1)) (lv' := [(7, .int (nI (i + 1))), (6, .int (lfd (k / 3) v)), (0, .ref yp), (1, .ref ys), (2, .ref yb), (3, .ref yg), (4, .int (nI k)), (5, .int v)]) hx hb dL_go_74 hl (k := 0) rfl (nI_inc i) (by decide) rfl (fun ls hl => ?_)
              refine lv_goto (tgt := 12) hx hb dL_go_77 (by decide) ?_
              exact ih1 (i + 1) pa sa ga (by omega) (by rw [lg0, ← hf, if_neg (fun w => c_596 w.2.2)]) (by omega) H587 locs587 hP hD hS _ (lv_sub hl [0, 1, 2, 3, 4, 5, 6, 7] rfl)
  exact L1 13 0 vp vs vg (by decide) rfl (by decide) s.heap [] hP hD hS _ (lv_sub hl [0, 1, 2, 3, 4, 5, 6, 7] rfl)

abbrev rm_L_ends : Room := { frames := 1, cells := 0, slots := 0, locals := 21 }
theorem cf_RL_39 {R : Room} {s : State} {args : Array Value} (ht : ∀ w ∈ wsL_law, w.before args s = true) (hR : rm_L_winner.frames + 1 ≤ R.frames ∧ 8 + (2 + 11) + rm_L_winner.locals ≤ R.locals) : CallB R s args RL 39 yL_winner cL_winner 2 (some .int) (.code yL_winner cL_winner 2 (some .int) :: wsL_law) rm_L_winner 0 0 1 ∧ (Cond.static yL_winner).before args s = true := ⟨cw_B 1 ht wd146 wd72 wd148 (by decide +kernel) rfl rfl hR, ht _ wd147⟩
set_option maxHeartbeats 1000000 in
set_option maxRecDepth 100000 in
theorem c_L_ends (l : Launch) (G : va_G) (cI cC cZ cG : ClassId) (sz : Nat) (yp yb yg : Nat) (vp vb vg : IA) : Met l yL_ends (.code yL_ends cL_ends 5 none :: wsL_law) rm_L_ends (va_Pc [.ref yp, .ref yb, .ref yg] (bw G cI cC cZ cG false sz [(yp, .inl (cI, 12, .inl vp)), (yb, .inl (cI, 12, .inl vb)), (yg, .inl (cI, 10, .inl vg))])) (va_Qv (fun (u : IA × IA) => u.1 = (lnS vp vb vg).1 ∧ u.2 = (lnS vp vb vg).2) (fun (u : IA × IA) t => va_P G vwCl [(yp, .inl (cI, 12, .inl vp)), (yb, .inl (cI, 12, .inl u.1)), (yg, .inl (cI, 10, .inl u.2))] t.heap ∧ va_D (va_A [(yp, .inl (cI, 12, .inl vp)), (yb, .inl (cI, 12, .inl vb)), (yg, .inl (cI, 10, .inl vg))] sz) [(yp, .inl (cI, 12, .inl vp)), (yb, .inl (cI, 12, .inl u.1)), (yg, .inl (cI, 10, .inl u.2))]) (va_A [(yp, .inl (cI, 12, .inl vp)), (yb, .inl (cI, 12, .inl vb)), (yg, .inl (cI, 10, .inl vg))] sz)) 0 0 (va_A [(yp, .inl (cI, 12, .inl vp)), (yb, .inl (cI, 12, .inl vb)), (yg, .inl (cI, 10, .inl vg))] sz) := by
  refine met_bw rfl (Nat.le_of_ble_eq_true rfl) ?_
  intro p e s m below meth c ls hx hb hr hml hown hts hlocks hin hsz hP hK hD0 hX0 hl
  have hown : s.vm.findClass RL = some m.cls := hown
  have hl : lv_has ls 5 [(0, .ref yp), (1, .ref yb), (2, .ref yg)] := hl
  subst hsz
  have hD := hD0.self (sz := s.heap.size)
  generalize hAe : va_A [(yp, .inl (cI, 12, .inl vp)), (yb, .inl (cI, 12, .inl vb)), (yg, .inl (cI, 10, .inl vg))] s.heap.size = A at hD ⊢
  have hA : ∀ q : Nat, s.heap.size ≤ q → A q := fun q h => by rw [← hAe]; exact Or.inr h
  have hS : va_S A s.heap s.heap [] := va_S.rf
  generalize hQ : MQ below (va_Qv (fun (u : IA × IA) => u.1 = (lnS vp vb vg).1 ∧ u.2 = (lnS vp vb vg).2) (fun (u : IA × IA) t => va_P G vwCl [(yp, .inl (cI, 12, .inl vp)), (yb, .inl (cI, 12, .inl u.1)), (yg, .inl (cI, 10, .inl u.2))] t.heap ∧ va_D A [(yp, .inl (cI, 12, .inl vp)), (yb, .inl (cI, 12, .inl u.1)), (yg, .inl (cI, 10, .inl u.2))]) A) ([.ref yp, .ref yb, .ref yg] : List Value).toArray s 0 0 A = Q
  generalize hag : ([.ref yp, .ref yb, .ref yg] : List Value).toArray = ag at hts hQ ⊢
  refine lv_aload_n hx hb dL_ends_0 rfl (lv_at hl 2 rfl) ?_
  refine lv_iconst (v := 5) hx hb dL_ends_1 (by decide) ?_
  refine za_ld hx hb hK.1 hP 2 0 rfl rfl 5 rfl (by decide) (by decide) dL_ends_2 ?_
  refine lv_bipush (v := 6) hx hb dL_ends_3 (by decide) ?_
  refine lv_icmp_ne (tgt := 22) hx hb dL_ends_5 (by decide) (fun c_600 => ?_) (fun c_600 => ?_)
  · refine lv_iconst (v := 0) hx hb dL_ends_22 (by decide) ?_
    refine lv_istore_n (lv' := [(3, .int 0), (0, .ref yp), (1, .ref yb), (2, .ref yg)]) hx hb dL_ends_23 rfl hl (by decide) rfl (fun ls hl => ?_)
    refine lv_aload_n hx hb dL_ends_24 rfl (lv_at hl 3 rfl) ?_
    refine lv_iconst (v := 5) hx hb dL_ends_25 (by decide) ?_
    refine lv_bipush (v := (-6)) hx hb dL_ends_26 (by decide) ?_
    refine za_st hx hb hK.1 hP hD hS 2 0 rfl rfl 5 rfl (by decide) (by decide) dL_ends_28 (fun H601 locs601 hP hD hS => ?_)
    have hP : va_P G vwCl [(yp, .inl (cI, 12, .inl vp)), (yb, .inl (cI, 12, .inl vb)), (yg, .inl (cI, 10, .inl (upd vg 5 (-6))))] H601 := hP
    have hD : va_D A [(yp, .inl (cI, 12, .inl vp)), (yb, .inl (cI, 12, .inl vb)), (yg, .inl (cI, 10, .inl (upd vg 5 (-6))))] := hD
    refine lv_aload_n hx hb dL_ends_29 rfl (lv_at hl 1 rfl) ?_
    have hPc := hP.sub (ws' := [(yp, .inl (cI, 12, .inl vp))]) [0] rfl
    have hDc := (hD.sub (ws' := [(yp, .inl (cI, 12, .inl vp))]) [0] (by decide) rfl).tt
    refine vp_callSi (va_Run.run (va_runS (As := [.ref yp]) (rest := []) ⟨hx, hb, hml, hown, hts⟩ (c_L_winner l G cI cC cZ cG H601.size yp vp) (cf_RL_39 hts ⟨Nat.le_of_ble_eq_true rfl, Nat.le_of_ble_eq_true rfl⟩) (pre_S hK hPc hDc) rfl rfl hl.1 rfl (lv_room (Nat.le_of_ble_eq_true rfl)) dL_ends_30 ⟨Nat.le_of_ble_eq_true rfl, Nat.le_of_ble_eq_true rfl⟩)) (fun r602 hr602 => ?_)
    subst hr602
    refine lv_if_ge (tgt := 40) hx hb dL_ends_33 (by decide) (fun c_603 => ?_) (fun c_603 => ?_)
    · subst hQ
      exact W.vret hx hb hr (fun t ht hW => ⟨⟨(vb, upd vg 5 (-6)), rfl, ⟨by rw [lnS, if_pos (Or.inl c_603)], by rw [lnS, if_pos (Or.inl c_603)]⟩, by rw [ht]; exact hP, hD⟩, hS.F ht⟩) hS.2.2 dL_ends_40
    · refine lv_iload_n hx hb dL_ends_36 rfl (lv_at hl 0 rfl) ?_
      refine lv_if_eq (tgt := 41) hx hb dL_ends_37 (by decide) (fun c_604 => ?_) (fun c_604 => ?_)
      · refine lv_aload_n hx hb dL_ends_41 rfl (lv_at hl 3 rfl) ?_
        refine lv_iconst (v := 4) hx hb dL_ends_42 (by decide) ?_
        refine lv_aload_n hx hb dL_ends_43 rfl (lv_at hl 3 rfl) ?_
        refine lv_iconst (v := 4) hx hb dL_ends_44 (by decide) ?_
        refine za_ld hx hb hK.1 hP 2 0 rfl rfl 4 rfl (by decide) (by decide) dL_ends_45 ?_
        refine lv_iconst (v := 3) hx hb dL_ends_46 (by decide) ?_
        refine lv_icmp_ne (tgt := 54) hx hb dL_ends_47 (by decide) (fun c_605 => ?_) (fun c_605 => ?_)
        · refine lv_aload_n hx hb dL_ends_54 rfl (lv_at hl 3 rfl) ?_
          refine lv_iconst (v := 4) hx hb dL_ends_55 (by decide) ?_
          refine za_ld hx hb hK.1 hP 2 0 rfl rfl 4 rfl (by decide) (by decide) dL_ends_56 ?_
          refine lv_iconst (v := 1) hx hb dL_ends_57 (by decide) ?_
          refine lv_iadd hx hb dL_ends_58 ?_
          refine za_st hx hb hK.1 hP hD hS 2 0 rfl rfl 4 rfl (by decide) (by decide) dL_ends_59 (fun H606 locs606 hP hD hS => ?_)
          have hP : va_P G vwCl [(yp, .inl (cI, 12, .inl vp)), (yb, .inl (cI, 12, .inl vb)), (yg, .inl (cI, 10, .inl (upd (upd vg 5 (-6)) 4 ((vg 4) + 1))))] H606 := hP
          have hD : va_D A [(yp, .inl (cI, 12, .inl vp)), (yb, .inl (cI, 12, .inl vb)), (yg, .inl (cI, 10, .inl (upd (upd vg 5 (-6)) 4 ((vg 4) + 1))))] := hD
          refine lv_aload_n hx hb dL_ends_60 rfl (lv_at hl 3 rfl) ?_
          refine lv_bipush (v := 6) hx hb dL_ends_61 (by decide) ?_
          refine lv_dup2_11 hx hb dL_ends_63 rfl rfl ?_
          refine za_ld hx hb hK.1 hP 2 0 rfl rfl 6 rfl (by decide) (by decide) dL_ends_64 ?_
          refine lv_iconst (v := 1) hx hb dL_ends_65 (by decide) ?_
          refine lv_iadd hx hb dL_ends_66 ?_
          refine za_st hx hb hK.1 hP hD hS 2 0 rfl rfl 6 rfl (by decide) (by decide) dL_ends_67 (fun H607 locs607 hP hD hS => ?_)
          have hP : va_P G vwCl [(yp, .inl (cI, 12, .inl vp)), (yb, .inl (cI, 12, .inl vb)), (yg, .inl (cI, 10, .inl (upd (upd (upd vg 5 (-6)) 4 ((vg 4) + 1)) 6 ((vg 6) + 1))))] H607 := hP
          have hD : va_D A [(yp, .inl (cI, 12, .inl vp)), (yb, .inl (cI, 12, .inl vb)), (yg, .inl (cI, 10, .inl (upd (upd (upd vg 5 (-6)) 4 ((vg 4) + 1)) 6 ((vg 6) + 1))))] := hD
          refine lv_aload_n hx hb dL_ends_68 rfl (lv_at hl 3 rfl) ?_
          refine lv_bipush (v := 7) hx hb dL_ends_69 (by decide) ?_
          refine lv_iconst (v := 0) hx hb dL_ends_71 (by decide) ?_
          refine za_st hx hb hK.1 hP hD hS 2 0 rfl rfl 7 rfl (by decide) (by decide) dL_ends_72 (fun H608 locs608 hP hD hS => ?_)
          have hP : va_P G vwCl [(yp, .inl (cI, 12, .inl vp)), (yb, .inl (cI, 12, .inl vb)), (yg, .inl (cI, 10, .inl (upd (upd (upd (upd vg 5 (-6)) 4 ((vg 4) + 1)) 6 ((vg 6) + 1)) 7 0)))] H608 := hP
          have hD : va_D A [(yp, .inl (cI, 12, .inl vp)), (yb, .inl (cI, 12, .inl vb)), (yg, .inl (cI, 10, .inl (upd (upd (upd (upd vg 5 (-6)) 4 ((vg 4) + 1)) 6 ((vg 6) + 1)) 7 0)))] := hD
          refine lv_iconst (v := 0) hx hb dL_ends_73 (by decide) ?_
          refine lv_istore (lv' := [(4, .int 0), (3, .int 0), (0, .ref yp), (1, .ref yb), (2, .ref yg)]) hx hb dL_ends_74 hl (by decide) rfl (fun ls hl => ?_)
          have L1 : ∀ (n : Nat), ∀ (i : Nat), ∀ (bc : IA), ∀ (hi : i ≤ 4), ∀ (hf : bc = lmd (vg 1) (vg 6 + 1) vb i), ∀ (hn : 5 ≤ i + n), ∀ (H609 : Heap) (locs609 : List Loc), va_P G vwCl [(yp, .inl (cI, 12, .inl vp)), (yb, .inl (cI, 12, .inl bc)), (yg, .inl (cI, 10, .inl (upd (upd (upd (upd vg 5 (-6)) 4 ((vg 4) + 1)) 6 ((vg 6) + 1)) 7 0)))] H609 → va_D A [(yp, .inl (cI, 12, .inl vp)), (yb, .inl (cI, 12, .inl bc)), (yg, .inl (cI, 10, .inl (upd (upd (upd (upd vg 5 (-6)) 4 ((vg 4) + 1)) 6 ((vg 6) + 1)) 7 0)))] → va_S A s.heap H609 locs609 → ∀ (ls : Array Slot), lv_has ls 5 [(4, .int (nI i)), (3, .int 0), (0, .ref yp), (1, .ref yb), (2, .ref yg)] → W p l e rm_L_ends s m ag below meth c H609 locs609 0 0 Q (F0 m 76 ls []) := by
            intro n
            induction n with
            | zero =>
              intro i bc hi hf hn H609 locs609 hP hD hS ls hl
              omega
            | succ n ih1 =>
              intro i bc hi hf hn H609 locs609 hP hD hS ls hl
              refine lv_iload hx hb dL_ends_76 (lv_at hl 0 rfl) ?_
              refine lv_iconst (v := 4) hx hb dL_ends_78 (by decide) ?_
              refine zi_ge (tgt := 130) hx hb i 4 dL_ends_79 (by decide) rfl rfl (by omega) (by decide) (fun c_610 => ?_) (fun c_610 => ?_)
              · subst hQ
                exact W.vret hx hb hr (fun t ht hW => ⟨⟨(bc, upd (upd (upd (upd vg 5 (-6)) 4 ((vg 4) + 1)) 6 ((vg 6) + 1)) 7 0), rfl, ⟨by rw [lnS, if_neg (fun w => w.elim c_603 (fun w => c_600 w.1)), ← show i = 4 by omega, ← hf], by rw [lnS, if_neg (fun w => w.elim c_603 (fun w => c_600 w.1)), lnG, if_neg (show ¬ vg 4 = 3 from c_605)]⟩, by rw [ht]; exact hP, hD⟩, hS.F ht⟩) hS.2.2 dL_ends_130
              · refine lv_aload_n hx hb dL_ends_82 rfl (lv_at hl 3 rfl) ?_
                refine lv_iconst (v := 3) hx hb dL_ends_83 (by decide) ?_
                refine lv_iload hx hb dL_ends_84 (lv_at hl 0 rfl) ?_
                refine zi_mul hx hb 3 i dL_ends_86 rfl rfl ?_
                refine za_ld hx hb hK.1 hP 1 0 rfl rfl (3 * i) rfl (by omega) (by decide) dL_ends_87 ?_
                refine lv_iconst (v := 1) hx hb dL_ends_88 (by decide) ?_
                refine lv_icmp_ne (tgt := 124) hx hb dL_ends_89 (by decide) (fun c_611 => ?_) (fun c_611 => ?_)
                · refine lv_iinc (v := nI (i + 1)) (lv' := [(4, .int (nI (i + 1))), (3, .int 0), (0, .ref yp), (1, .ref yb), (2, .ref yg)]) hx hb dL_ends_124 hl (k := 0) rfl (nI_inc i) (by decide) rfl (fun ls hl => ?_)
                  refine lv_goto (tgt := 76) hx hb dL_ends_127 (by decide) ?_
                  exact ih1 (i + 1) bc (by omega) (by rw [lmd, ← hf, if_neg (fun w => c_611 w.1)]) (by omega) H609 locs609 hP hD hS _ (lv_sub hl [0, 1, 2, 3, 4] rfl)
                · refine lv_aload_n hx hb dL_ends_92 rfl (lv_at hl 4 rfl) ?_
                  refine lv_iconst (v := 1) hx hb dL_ends_93 (by decide) ?_
                  refine za_ld hx hb hK.1 hP 2 0 rfl rfl 1 rfl (by decide) (by decide) dL_ends_94 ?_
                  refine lv_if_le (tgt := 124) hx hb dL_ends_95 (by decide) (fun c_612 => ?_) (fun c_612 => ?_)
                  · refine lv_iinc (v := nI (i + 1)) (lv' := [(4, .int (nI (i + 1))), (3, .int 0), (0, .ref yp), (1, .ref yb), (2, .ref yg)]) hx hb dL_ends_124 hl (k := 0) rfl (nI_inc i) (by decide) rfl (fun ls hl => ?_)
                    refine lv_goto (tgt := 76) hx hb dL_ends_127 (by decide) ?_
                    exact ih1 (i + 1) bc (by omega) (by rw [lmd, ← hf, if_neg (fun w => w.2.1 c_612)]) (by omega) H609 locs609 hP hD hS _ (lv_sub hl [0, 1, 2, 3, 4] rfl)
                  · refine lv_aload_n hx hb dL_ends_98 rfl (lv_at hl 3 rfl) ?_
                    refine lv_iconst (v := 3) hx hb dL_ends_99 (by decide) ?_
                    refine lv_iload hx hb dL_ends_100 (lv_at hl 0 rfl) ?_
                    refine zi_mul hx hb 3 i dL_ends_102 rfl rfl ?_
                    refine lv_iconst (v := 2) hx hb dL_ends_103 (by decide) ?_
                    refine zi_add hx hb (3 * i) 2 dL_ends_104 rfl rfl ?_
                    refine za_ld hx hb hK.1 hP 1 0 rfl rfl ((3 * i) + 2) rfl (by omega) (by decide) dL_ends_105 ?_
                    refine lv_aload_n hx hb dL_ends_106 rfl (lv_at hl 4 rfl) ?_
                    refine lv_iconst (v := 1) hx hb dL_ends_107 (by decide) ?_
                    refine za_ld hx hb hK.1 hP 2 0 rfl rfl 1 rfl (by decide) (by decide) dL_ends_108 ?_
                    refine lv_iadd hx hb dL_ends_109 ?_
                    refine lv_aload_n hx hb dL_ends_110 rfl (lv_at hl 4 rfl) ?_
                    refine lv_bipush (v := 6) hx hb dL_ends_111 (by decide) ?_
                    refine za_ld hx hb hK.1 hP 2 0 rfl rfl 6 rfl (by decide) (by decide) dL_ends_113 ?_
                    refine lv_icmp_gt (tgt := 124) hx hb dL_ends_114 (by decide) (fun c_613 => ?_) (fun c_613 => ?_)
                    · refine lv_iinc (v := nI (i + 1)) (lv' := [(4, .int (nI (i + 1))), (3, .int 0), (0, .ref yp), (1, .ref yb), (2, .ref yg)]) hx hb dL_ends_124 hl (k := 0) rfl (nI_inc i) (by decide) rfl (fun ls hl => ?_)
                      refine lv_goto (tgt := 76) hx hb dL_ends_127 (by decide) ?_
                      exact ih1 (i + 1) bc (by omega) (by rw [lmd, ← hf, if_neg (fun w => w.2.2 c_613)]) (by omega) H609 locs609 hP hD hS _ (lv_sub hl [0, 1, 2, 3, 4] rfl)
                    · refine lv_aload_n hx hb dL_ends_117 rfl (lv_at hl 3 rfl) ?_
                      refine lv_iconst (v := 3) hx hb dL_ends_118 (by decide) ?_
                      refine lv_iload hx hb dL_ends_119 (lv_at hl 0 rfl) ?_
                      refine zi_mul hx hb 3 i dL_ends_121 rfl rfl ?_
                      refine lv_iconst (v := 0) hx hb dL_ends_122 (by decide) ?_
                      refine za_st hx hb hK.1 hP hD hS 1 0 rfl rfl (3 * i) rfl (by omega) (by decide) dL_ends_123 (fun H614 locs614 hP hD hS => ?_)
                      have hP : va_P G vwCl [(yp, .inl (cI, 12, .inl vp)), (yb, .inl (cI, 12, .inl (upd bc (3 * i) 0))), (yg, .inl (cI, 10, .inl (upd (upd (upd (upd vg 5 (-6)) 4 ((vg 4) + 1)) 6 ((vg 6) + 1)) 7 0)))] H614 := hP
                      have hD : va_D A [(yp, .inl (cI, 12, .inl vp)), (yb, .inl (cI, 12, .inl (upd bc (3 * i) 0))), (yg, .inl (cI, 10, .inl (upd (upd (upd (upd vg 5 (-6)) 4 ((vg 4) + 1)) 6 ((vg 6) + 1)) 7 0)))] := hD
                      refine lv_iinc (v := nI (i + 1)) (lv' := [(4, .int (nI (i + 1))), (3, .int 0), (0, .ref yp), (1, .ref yb), (2, .ref yg)]) hx hb dL_ends_124 hl (k := 0) rfl (nI_inc i) (by decide) rfl (fun ls hl => ?_)
                      refine lv_goto (tgt := 76) hx hb dL_ends_127 (by decide) ?_
                      exact ih1 (i + 1) (upd bc (3 * i) 0) (by omega) (by rw [lmd, ← hf, if_pos ⟨c_611, c_612, c_613⟩]) (by omega) H614 locs614 hP hD hS _ (lv_sub hl [0, 1, 2, 3, 4] rfl)
          exact L1 5 0 vb (by decide) rfl (by decide) H608 locs608 hP hD hS _ (lv_sub hl [0, 1, 2, 3, 4] rfl)
        · refine lv_iconst (v := 0) hx hb dL_ends_50 (by decide) ?_
          refine lv_goto (tgt := 59) hx hb dL_ends_51 (by decide) ?_
          refine za_st hx hb hK.1 hP hD hS 2 0 rfl rfl 4 rfl (by decide) (by decide) dL_ends_59 (fun H615 locs615 hP hD hS => ?_)
          have hP : va_P G vwCl [(yp, .inl (cI, 12, .inl vp)), (yb, .inl (cI, 12, .inl vb)), (yg, .inl (cI, 10, .inl (upd (upd vg 5 (-6)) 4 0)))] H615 := hP
          have hD : va_D A [(yp, .inl (cI, 12, .inl vp)), (yb, .inl (cI, 12, .inl vb)), (yg, .inl (cI, 10, .inl (upd (upd vg 5 (-6)) 4 0)))] := hD
          refine lv_aload_n hx hb dL_ends_60 rfl (lv_at hl 3 rfl) ?_
          refine lv_bipush (v := 6) hx hb dL_ends_61 (by decide) ?_
          refine lv_dup2_11 hx hb dL_ends_63 rfl rfl ?_
          refine za_ld hx hb hK.1 hP 2 0 rfl rfl 6 rfl (by decide) (by decide) dL_ends_64 ?_
          refine lv_iconst (v := 1) hx hb dL_ends_65 (by decide) ?_
          refine lv_iadd hx hb dL_ends_66 ?_
          refine za_st hx hb hK.1 hP hD hS 2 0 rfl rfl 6 rfl (by decide) (by decide) dL_ends_67 (fun H616 locs616 hP hD hS => ?_)
          have hP : va_P G vwCl [(yp, .inl (cI, 12, .inl vp)), (yb, .inl (cI, 12, .inl vb)), (yg, .inl (cI, 10, .inl (upd (upd (upd vg 5 (-6)) 4 0) 6 ((vg 6) + 1))))] H616 := hP
          have hD : va_D A [(yp, .inl (cI, 12, .inl vp)), (yb, .inl (cI, 12, .inl vb)), (yg, .inl (cI, 10, .inl (upd (upd (upd vg 5 (-6)) 4 0) 6 ((vg 6) + 1))))] := hD
          refine lv_aload_n hx hb dL_ends_68 rfl (lv_at hl 3 rfl) ?_
          refine lv_bipush (v := 7) hx hb dL_ends_69 (by decide) ?_
          refine lv_iconst (v := 0) hx hb dL_ends_71 (by decide) ?_
          refine za_st hx hb hK.1 hP hD hS 2 0 rfl rfl 7 rfl (by decide) (by decide) dL_ends_72 (fun H617 locs617 hP hD hS => ?_)
          have hP : va_P G vwCl [(yp, .inl (cI, 12, .inl vp)), (yb, .inl (cI, 12, .inl vb)), (yg, .inl (cI, 10, .inl (upd (upd (upd (upd vg 5 (-6)) 4 0) 6 ((vg 6) + 1)) 7 0)))] H617 := hP
          have hD : va_D A [(yp, .inl (cI, 12, .inl vp)), (yb, .inl (cI, 12, .inl vb)), (yg, .inl (cI, 10, .inl (upd (upd (upd (upd vg 5 (-6)) 4 0) 6 ((vg 6) + 1)) 7 0)))] := hD
          refine lv_iconst (v := 0) hx hb dL_ends_73 (by decide) ?_
          refine lv_istore (lv' := [(4, .int 0), (3, .int 0), (0, .ref yp), (1, .ref yb), (2, .ref yg)]) hx hb dL_ends_74 hl (by decide) rfl (fun ls hl => ?_)
          have L2 : ∀ (n : Nat), ∀ (i : Nat), ∀ (bc : IA), ∀ (hi : i ≤ 4), ∀ (hf : bc = lmd (vg 1) (vg 6 + 1) vb i), ∀ (hn : 5 ≤ i + n), ∀ (H618 : Heap) (locs618 : List Loc), va_P G vwCl [(yp, .inl (cI, 12, .inl vp)), (yb, .inl (cI, 12, .inl bc)), (yg, .inl (cI, 10, .inl (upd (upd (upd (upd vg 5 (-6)) 4 0) 6 ((vg 6) + 1)) 7 0)))] H618 → va_D A [(yp, .inl (cI, 12, .inl vp)), (yb, .inl (cI, 12, .inl bc)), (yg, .inl (cI, 10, .inl (upd (upd (upd (upd vg 5 (-6)) 4 0) 6 ((vg 6) + 1)) 7 0)))] → va_S A s.heap H618 locs618 → ∀ (ls : Array Slot), lv_has ls 5 [(4, .int (nI i)), (3, .int 0), (0, .ref yp), (1, .ref yb), (2, .ref yg)] → W p l e rm_L_ends s m ag below meth c H618 locs618 0 0 Q (F0 m 76 ls []) := by
            intro n
            induction n with
            | zero =>
              intro i bc hi hf hn H618 locs618 hP hD hS ls hl
              omega
            | succ n ih2 =>
              intro i bc hi hf hn H618 locs618 hP hD hS ls hl
              refine lv_iload hx hb dL_ends_76 (lv_at hl 0 rfl) ?_
              refine lv_iconst (v := 4) hx hb dL_ends_78 (by decide) ?_
              refine zi_ge (tgt := 130) hx hb i 4 dL_ends_79 (by decide) rfl rfl (by omega) (by decide) (fun c_619 => ?_) (fun c_619 => ?_)
              · subst hQ
                exact W.vret hx hb hr (fun t ht hW => ⟨⟨(bc, upd (upd (upd (upd vg 5 (-6)) 4 0) 6 ((vg 6) + 1)) 7 0), rfl, ⟨by rw [lnS, if_neg (fun w => w.elim c_603 (fun w => c_600 w.1)), ← show i = 4 by omega, ← hf], by rw [lnS, if_neg (fun w => w.elim c_603 (fun w => c_600 w.1)), lnG, if_pos (show vg 4 = 3 from c_605)]⟩, by rw [ht]; exact hP, hD⟩, hS.F ht⟩) hS.2.2 dL_ends_130
              · refine lv_aload_n hx hb dL_ends_82 rfl (lv_at hl 3 rfl) ?_
                refine lv_iconst (v := 3) hx hb dL_ends_83 (by decide) ?_
                refine lv_iload hx hb dL_ends_84 (lv_at hl 0 rfl) ?_
                refine zi_mul hx hb 3 i dL_ends_86 rfl rfl ?_
                refine za_ld hx hb hK.1 hP 1 0 rfl rfl (3 * i) rfl (by omega) (by decide) dL_ends_87 ?_
                refine lv_iconst (v := 1) hx hb dL_ends_88 (by decide) ?_
                refine lv_icmp_ne (tgt := 124) hx hb dL_ends_89 (by decide) (fun c_620 => ?_) (fun c_620 => ?_)
                · refine lv_iinc (v := nI (i + 1)) (lv' := [(4, .int (nI (i + 1))), (3, .int 0), (0, .ref yp), (1, .ref yb), (2, .ref yg)]) hx hb dL_ends_124 hl (k := 0) rfl (nI_inc i) (by decide) rfl (fun ls hl => ?_)
                  refine lv_goto (tgt := 76) hx hb dL_ends_127 (by decide) ?_
                  exact ih2 (i + 1) bc (by omega) (by rw [lmd, ← hf, if_neg (fun w => c_620 w.1)]) (by omega) H618 locs618 hP hD hS _ (lv_sub hl [0, 1, 2, 3, 4] rfl)
                · refine lv_aload_n hx hb dL_ends_92 rfl (lv_at hl 4 rfl) ?_
                  refine lv_iconst (v := 1) hx hb dL_ends_93 (by decide) ?_
                  refine za_ld hx hb hK.1 hP 2 0 rfl rfl 1 rfl (by decide) (by decide) dL_ends_94 ?_
                  refine lv_if_le (tgt := 124) hx hb dL_ends_95 (by decide) (fun c_621 => ?_) (fun c_621 => ?_)
                  · refine lv_iinc (v := nI (i + 1)) (lv' := [(4, .int (nI (i + 1))), (3, .int 0), (0, .ref yp), (1, .ref yb), (2, .ref yg)]) hx hb dL_ends_124 hl (k := 0) rfl (nI_inc i) (by decide) rfl (fun ls hl => ?_)
                    refine lv_goto (tgt := 76) hx hb dL_ends_127 (by decide) ?_
                    exact ih2 (i + 1) bc (by omega) (by rw [lmd, ← hf, if_neg (fun w => w.2.1 c_621)]) (by omega) H618 locs618 hP hD hS _ (lv_sub hl [0, 1, 2, 3, 4] rfl)
                  · refine lv_aload_n hx hb dL_ends_98 rfl (lv_at hl 3 rfl) ?_
                    refine lv_iconst (v := 3) hx hb dL_ends_99 (by decide) ?_
                    refine lv_iload hx hb dL_ends_100 (lv_at hl 0 rfl) ?_
                    refine zi_mul hx hb 3 i dL_ends_102 rfl rfl ?_
                    refine lv_iconst (v := 2) hx hb dL_ends_103 (by decide) ?_
                    refine zi_add hx hb (3 * i) 2 dL_ends_104 rfl rfl ?_
                    refine za_ld hx hb hK.1 hP 1 0 rfl rfl ((3 * i) + 2) rfl (by omega) (by decide) dL_ends_105 ?_
                    refine lv_aload_n hx hb dL_ends_106 rfl (lv_at hl 4 rfl) ?_
                    refine lv_iconst (v := 1) hx hb dL_ends_107 (by decide) ?_
                    refine za_ld hx hb hK.1 hP 2 0 rfl rfl 1 rfl (by decide) (by decide) dL_ends_108 ?_
                    refine lv_iadd hx hb dL_ends_109 ?_
                    refine lv_aload_n hx hb dL_ends_110 rfl (lv_at hl 4 rfl) ?_
                    refine lv_bipush (v := 6) hx hb dL_ends_111 (by decide) ?_
                    refine za_ld hx hb hK.1 hP 2 0 rfl rfl 6 rfl (by decide) (by decide) dL_ends_113 ?_
                    refine lv_icmp_gt (tgt := 124) hx hb dL_ends_114 (by decide) (fun c_622 => ?_) (fun c_622 => ?_)
                    · refine lv_iinc (v := nI (i + 1)) (lv' := [(4, .int (nI (i + 1))), (3, .int 0), (0, .ref yp), (1, .ref yb), (2, .ref yg)]) hx hb dL_ends_124 hl (k := 0) rfl (nI_inc i) (by decide) rfl (fun ls hl => ?_)
                      refine lv_goto (tgt := 76) hx hb dL_ends_127 (by decide) ?_
                      exact ih2 (i + 1) bc (by omega) (by rw [lmd, ← hf, if_neg (fun w => w.2.2 c_622)]) (by omega) H618 locs618 hP hD hS _ (lv_sub hl [0, 1, 2, 3, 4] rfl)
                    · refine lv_aload_n hx hb dL_ends_117 rfl (lv_at hl 3 rfl) ?_
                      refine lv_iconst (v := 3) hx hb dL_ends_118 (by decide) ?_
                      refine lv_iload hx hb dL_ends_119 (lv_at hl 0 rfl) ?_
                      refine zi_mul hx hb 3 i dL_ends_121 rfl rfl ?_
                      refine lv_iconst (v := 0) hx hb dL_ends_122 (by decide) ?_
                      refine za_st hx hb hK.1 hP hD hS 1 0 rfl rfl (3 * i) rfl (by omega) (by decide) dL_ends_123 (fun H623 locs623 hP hD hS => ?_)
                      have hP : va_P G vwCl [(yp, .inl (cI, 12, .inl vp)), (yb, .inl (cI, 12, .inl (upd bc (3 * i) 0))), (yg, .inl (cI, 10, .inl (upd (upd (upd (upd vg 5 (-6)) 4 0) 6 ((vg 6) + 1)) 7 0)))] H623 := hP
                      have hD : va_D A [(yp, .inl (cI, 12, .inl vp)), (yb, .inl (cI, 12, .inl (upd bc (3 * i) 0))), (yg, .inl (cI, 10, .inl (upd (upd (upd (upd vg 5 (-6)) 4 0) 6 ((vg 6) + 1)) 7 0)))] := hD
                      refine lv_iinc (v := nI (i + 1)) (lv' := [(4, .int (nI (i + 1))), (3, .int 0), (0, .ref yp), (1, .ref yb), (2, .ref yg)]) hx hb dL_ends_124 hl (k := 0) rfl (nI_inc i) (by decide) rfl (fun ls hl => ?_)
                      refine lv_goto (tgt := 76) hx hb dL_ends_127 (by decide) ?_
                      exact ih2 (i + 1) (upd bc (3 * i) 0) (by omega) (by rw [lmd, ← hf, if_pos ⟨c_620, c_621, c_622⟩]) (by omega) H623 locs623 hP hD hS _ (lv_sub hl [0, 1, 2, 3, 4] rfl)
          exact L2 5 0 vb (by decide) rfl (by decide) H617 locs617 hP hD hS _ (lv_sub hl [0, 1, 2, 3, 4] rfl)
      · exact absurd c_604 (by decide)
  · refine lv_aload_n hx hb dL_ends_8 rfl (lv_at hl 2 rfl) ?_
    refine lv_bipush (v := 7) hx hb dL_ends_9 (by decide) ?_
    refine za_ld hx hb hK.1 hP 2 0 rfl rfl 7 rfl (by decide) (by decide) dL_ends_11 ?_
    refine lv_aload_n hx hb dL_ends_12 rfl (lv_at hl 2 rfl) ?_
    refine lv_iconst (v := 2) hx hb dL_ends_13 (by decide) ?_
    refine za_ld hx hb hK.1 hP 2 0 rfl rfl 2 rfl (by decide) (by decide) dL_ends_14 ?_
    refine lv_icmp_gt (tgt := 22) hx hb dL_ends_15 (by decide) (fun c_624 => ?_) (fun c_624 => ?_)
    · refine lv_iconst (v := 0) hx hb dL_ends_22 (by decide) ?_
      refine lv_istore_n (lv' := [(3, .int 0), (0, .ref yp), (1, .ref yb), (2, .ref yg)]) hx hb dL_ends_23 rfl hl (by decide) rfl (fun ls hl => ?_)
      refine lv_aload_n hx hb dL_ends_24 rfl (lv_at hl 3 rfl) ?_
      refine lv_iconst (v := 5) hx hb dL_ends_25 (by decide) ?_
      refine lv_bipush (v := (-6)) hx hb dL_ends_26 (by decide) ?_
      refine za_st hx hb hK.1 hP hD hS 2 0 rfl rfl 5 rfl (by decide) (by decide) dL_ends_28 (fun H625 locs625 hP hD hS => ?_)
      have hP : va_P G vwCl [(yp, .inl (cI, 12, .inl vp)), (yb, .inl (cI, 12, .inl vb)), (yg, .inl (cI, 10, .inl (upd vg 5 (-6))))] H625 := hP
      have hD : va_D A [(yp, .inl (cI, 12, .inl vp)), (yb, .inl (cI, 12, .inl vb)), (yg, .inl (cI, 10, .inl (upd vg 5 (-6))))] := hD
      refine lv_aload_n hx hb dL_ends_29 rfl (lv_at hl 1 rfl) ?_
      have hPc := hP.sub (ws' := [(yp, .inl (cI, 12, .inl vp))]) [0] rfl
      have hDc := (hD.sub (ws' := [(yp, .inl (cI, 12, .inl vp))]) [0] (by decide) rfl).tt
      refine vp_callSi (va_Run.run (va_runS (As := [.ref yp]) (rest := []) ⟨hx, hb, hml, hown, hts⟩ (c_L_winner l G cI cC cZ cG H625.size yp vp) (cf_RL_39 hts ⟨Nat.le_of_ble_eq_true rfl, Nat.le_of_ble_eq_true rfl⟩) (pre_S hK hPc hDc) rfl rfl hl.1 rfl (lv_room (Nat.le_of_ble_eq_true rfl)) dL_ends_30 ⟨Nat.le_of_ble_eq_true rfl, Nat.le_of_ble_eq_true rfl⟩)) (fun r626 hr626 => ?_)
      subst hr626
      refine lv_if_ge (tgt := 40) hx hb dL_ends_33 (by decide) (fun c_627 => ?_) (fun c_627 => ?_)
      · subst hQ
        exact W.vret hx hb hr (fun t ht hW => ⟨⟨(vb, upd vg 5 (-6)), rfl, ⟨by rw [lnS, if_pos (Or.inl c_627)], by rw [lnS, if_pos (Or.inl c_627)]⟩, by rw [ht]; exact hP, hD⟩, hS.F ht⟩) hS.2.2 dL_ends_40
      · refine lv_iload_n hx hb dL_ends_36 rfl (lv_at hl 0 rfl) ?_
        refine lv_if_eq (tgt := 41) hx hb dL_ends_37 (by decide) (fun c_628 => ?_) (fun c_628 => ?_)
        · refine lv_aload_n hx hb dL_ends_41 rfl (lv_at hl 3 rfl) ?_
          refine lv_iconst (v := 4) hx hb dL_ends_42 (by decide) ?_
          refine lv_aload_n hx hb dL_ends_43 rfl (lv_at hl 3 rfl) ?_
          refine lv_iconst (v := 4) hx hb dL_ends_44 (by decide) ?_
          refine za_ld hx hb hK.1 hP 2 0 rfl rfl 4 rfl (by decide) (by decide) dL_ends_45 ?_
          refine lv_iconst (v := 3) hx hb dL_ends_46 (by decide) ?_
          refine lv_icmp_ne (tgt := 54) hx hb dL_ends_47 (by decide) (fun c_629 => ?_) (fun c_629 => ?_)
          · refine lv_aload_n hx hb dL_ends_54 rfl (lv_at hl 3 rfl) ?_
            refine lv_iconst (v := 4) hx hb dL_ends_55 (by decide) ?_
            refine za_ld hx hb hK.1 hP 2 0 rfl rfl 4 rfl (by decide) (by decide) dL_ends_56 ?_
            refine lv_iconst (v := 1) hx hb dL_ends_57 (by decide) ?_
            refine lv_iadd hx hb dL_ends_58 ?_
            refine za_st hx hb hK.1 hP hD hS 2 0 rfl rfl 4 rfl (by decide) (by decide) dL_ends_59 (fun H630 locs630 hP hD hS => ?_)
            have hP : va_P G vwCl [(yp, .inl (cI, 12, .inl vp)), (yb, .inl (cI, 12, .inl vb)), (yg, .inl (cI, 10, .inl (upd (upd vg 5 (-6)) 4 ((vg 4) + 1))))] H630 := hP
            have hD : va_D A [(yp, .inl (cI, 12, .inl vp)), (yb, .inl (cI, 12, .inl vb)), (yg, .inl (cI, 10, .inl (upd (upd vg 5 (-6)) 4 ((vg 4) + 1))))] := hD
            refine lv_aload_n hx hb dL_ends_60 rfl (lv_at hl 3 rfl) ?_
            refine lv_bipush (v := 6) hx hb dL_ends_61 (by decide) ?_
            refine lv_dup2_11 hx hb dL_ends_63 rfl rfl ?_
            refine za_ld hx hb hK.1 hP 2 0 rfl rfl 6 rfl (by decide) (by decide) dL_ends_64 ?_
            refine lv_iconst (v := 1) hx hb dL_ends_65 (by decide) ?_
            refine lv_iadd hx hb dL_ends_66 ?_
            refine za_st hx hb hK.1 hP hD hS 2 0 rfl rfl 6 rfl (by decide) (by decide) dL_ends_67 (fun H631 locs631 hP hD hS => ?_)
            have hP : va_P G vwCl [(yp, .inl (cI, 12, .inl vp)), (yb, .inl (cI, 12, .inl vb)), (yg, .inl (cI, 10, .inl (upd (upd (upd vg 5 (-6)) 4 ((vg 4) + 1)) 6 ((vg 6) + 1))))] H631 := hP
            have hD : va_D A [(yp, .inl (cI, 12, .inl vp)), (yb, .inl (cI, 12, .inl vb)), (yg, .inl (cI, 10, .inl (upd (upd (upd vg 5 (-6)) 4 ((vg 4) + 1)) 6 ((vg 6) + 1))))] := hD
            refine lv_aload_n hx hb dL_ends_68 rfl (lv_at hl 3 rfl) ?_
            refine lv_bipush (v := 7) hx hb dL_ends_69 (by decide) ?_
            refine lv_iconst (v := 0) hx hb dL_ends_71 (by decide) ?_
            refine za_st hx hb hK.1 hP hD hS 2 0 rfl rfl 7 rfl (by decide) (by decide) dL_ends_72 (fun H632 locs632 hP hD hS => ?_)
            have hP : va_P G vwCl [(yp, .inl (cI, 12, .inl vp)), (yb, .inl (cI, 12, .inl vb)), (yg, .inl (cI, 10, .inl (upd (upd (upd (upd vg 5 (-6)) 4 ((vg 4) + 1)) 6 ((vg 6) + 1)) 7 0)))] H632 := hP
            have hD : va_D A [(yp, .inl (cI, 12, .inl vp)), (yb, .inl (cI, 12, .inl vb)), (yg, .inl (cI, 10, .inl (upd (upd (upd (upd vg 5 (-6)) 4 ((vg 4) + 1)) 6 ((vg 6) + 1)) 7 0)))] := hD
            refine lv_iconst (v := 0) hx hb dL_ends_73 (by decide) ?_
            refine lv_istore (lv' := [(4, .int 0), (3, .int 0), (0, .ref yp), (1, .ref yb), (2, .ref yg)]) hx hb dL_ends_74 hl (by decide) rfl (fun ls hl => ?_)
            have L3 : ∀ (n : Nat), ∀ (i : Nat), ∀ (bc : IA), ∀ (hi : i ≤ 4), ∀ (hf : bc = lmd (vg 1) (vg 6 + 1) vb i), ∀ (hn : 5 ≤ i + n), ∀ (H633 : Heap) (locs633 : List Loc), va_P G vwCl [(yp, .inl (cI, 12, .inl vp)), (yb, .inl (cI, 12, .inl bc)), (yg, .inl (cI, 10, .inl (upd (upd (upd (upd vg 5 (-6)) 4 ((vg 4) + 1)) 6 ((vg 6) + 1)) 7 0)))] H633 → va_D A [(yp, .inl (cI, 12, .inl vp)), (yb, .inl (cI, 12, .inl bc)), (yg, .inl (cI, 10, .inl (upd (upd (upd (upd vg 5 (-6)) 4 ((vg 4) + 1)) 6 ((vg 6) + 1)) 7 0)))] → va_S A s.heap H633 locs633 → ∀ (ls : Array Slot), lv_has ls 5 [(4, .int (nI i)), (3, .int 0), (0, .ref yp), (1, .ref yb), (2, .ref yg)] → W p l e rm_L_ends s m ag below meth c H633 locs633 0 0 Q (F0 m 76 ls []) := by
              intro n
              induction n with
              | zero =>
                intro i bc hi hf hn H633 locs633 hP hD hS ls hl
                omega
              | succ n ih3 =>
                intro i bc hi hf hn H633 locs633 hP hD hS ls hl
                refine lv_iload hx hb dL_ends_76 (lv_at hl 0 rfl) ?_
                refine lv_iconst (v := 4) hx hb dL_ends_78 (by decide) ?_
                refine zi_ge (tgt := 130) hx hb i 4 dL_ends_79 (by decide) rfl rfl (by omega) (by decide) (fun c_634 => ?_) (fun c_634 => ?_)
                · subst hQ
                  exact W.vret hx hb hr (fun t ht hW => ⟨⟨(bc, upd (upd (upd (upd vg 5 (-6)) 4 ((vg 4) + 1)) 6 ((vg 6) + 1)) 7 0), rfl, ⟨by rw [lnS, if_neg (fun w => w.elim c_627 (fun w => w.2 c_624)), ← show i = 4 by omega, ← hf], by rw [lnS, if_neg (fun w => w.elim c_627 (fun w => w.2 c_624)), lnG, if_neg (show ¬ vg 4 = 3 from c_629)]⟩, by rw [ht]; exact hP, hD⟩, hS.F ht⟩) hS.2.2 dL_ends_130
                · refine lv_aload_n hx hb dL_ends_82 rfl (lv_at hl 3 rfl) ?_
                  refine lv_iconst (v := 3) hx hb dL_ends_83 (by decide) ?_
                  refine lv_iload hx hb dL_ends_84 (lv_at hl 0 rfl) ?_
                  refine zi_mul hx hb 3 i dL_ends_86 rfl rfl ?_
                  refine za_ld hx hb hK.1 hP 1 0 rfl rfl (3 * i) rfl (by omega) (by decide) dL_ends_87 ?_
                  refine lv_iconst (v := 1) hx hb dL_ends_88 (by decide) ?_
                  refine lv_icmp_ne (tgt := 124) hx hb dL_ends_89 (by decide) (fun c_635 => ?_) (fun c_635 => ?_)
                  · refine lv_iinc (v := nI (i + 1)) (lv' := [(4, .int (nI (i + 1))), (3, .int 0), (0, .ref yp), (1, .ref yb), (2, .ref yg)]) hx hb dL_ends_124 hl (k := 0) rfl (nI_inc i) (by decide) rfl (fun ls hl => ?_)
                    refine lv_goto (tgt := 76) hx hb dL_ends_127 (by decide) ?_
                    exact ih3 (i + 1) bc (by omega) (by rw [lmd, ← hf, if_neg (fun w => c_635 w.1)]) (by omega) H633 locs633 hP hD hS _ (lv_sub hl [0, 1, 2, 3, 4] rfl)
                  · refine lv_aload_n hx hb dL_ends_92 rfl (lv_at hl 4 rfl) ?_
                    refine lv_iconst (v := 1) hx hb dL_ends_93 (by decide) ?_
                    refine za_ld hx hb hK.1 hP 2 0 rfl rfl 1 rfl (by decide) (by decide) dL_ends_94 ?_
                    refine lv_if_le (tgt := 124) hx hb dL_ends_95 (by decide) (fun c_636 => ?_) (fun c_636 => ?_)
                    · refine lv_iinc (v := nI (i + 1)) (lv' := [(4, .int (nI (i + 1))), (3, .int 0), (0, .ref yp), (1, .ref yb), (2, .ref yg)]) hx hb dL_ends_124 hl (k := 0) rfl (nI_inc i) (by decide) rfl (fun ls hl => ?_)
                      refine lv_goto (tgt := 76) hx hb dL_ends_127 (by decide) ?_
                      exact ih3 (i + 1) bc (by omega) (by rw [lmd, ← hf, if_neg (fun w => w.2.1 c_636)]) (by omega) H633 locs633 hP hD hS _ (lv_sub hl [0, 1, 2, 3, 4] rfl)
                    · refine lv_aload_n hx hb dL_ends_98 rfl (lv_at hl 3 rfl) ?_
                      refine lv_iconst (v := 3) hx hb dL_ends_99 (by decide) ?_
                      refine lv_iload hx hb dL_ends_100 (lv_at hl 0 rfl) ?_
                      refine zi_mul hx hb 3 i dL_ends_102 rfl rfl ?_
                      refine lv_iconst (v := 2) hx hb dL_ends_103 (by decide) ?_
                      refine zi_add hx hb (3 * i) 2 dL_ends_104 rfl rfl ?_
                      refine za_ld hx hb hK.1 hP 1 0 rfl rfl ((3 * i) + 2) rfl (by omega) (by decide) dL_ends_105 ?_
                      refine lv_aload_n hx hb dL_ends_106 rfl (lv_at hl 4 rfl) ?_
                      refine lv_iconst (v := 1) hx hb dL_ends_107 (by decide) ?_
                      refine za_ld hx hb hK.1 hP 2 0 rfl rfl 1 rfl (by decide) (by decide) dL_ends_108 ?_
                      refine lv_iadd hx hb dL_ends_109 ?_
                      refine lv_aload_n hx hb dL_ends_110 rfl (lv_at hl 4 rfl) ?_
                      refine lv_bipush (v := 6) hx hb dL_ends_111 (by decide) ?_
                      refine za_ld hx hb hK.1 hP 2 0 rfl rfl 6 rfl (by decide) (by decide) dL_ends_113 ?_
                      refine lv_icmp_gt (tgt := 124) hx hb dL_ends_114 (by decide) (fun c_637 => ?_) (fun c_637 => ?_)
                      · refine lv_iinc (v := nI (i + 1)) (lv' := [(4, .int (nI (i + 1))), (3, .int 0), (0, .ref yp), (1, .ref yb), (2, .ref yg)]) hx hb dL_ends_124 hl (k := 0) rfl (nI_inc i) (by decide) rfl (fun ls hl => ?_)
                        refine lv_goto (tgt := 76) hx hb dL_ends_127 (by decide) ?_
                        exact ih3 (i + 1) bc (by omega) (by rw [lmd, ← hf, if_neg (fun w => w.2.2 c_637)]) (by omega) H633 locs633 hP hD hS _ (lv_sub hl [0, 1, 2, 3, 4] rfl)
                      · refine lv_aload_n hx hb dL_ends_117 rfl (lv_at hl 3 rfl) ?_
                        refine lv_iconst (v := 3) hx hb dL_ends_118 (by decide) ?_
                        refine lv_iload hx hb dL_ends_119 (lv_at hl 0 rfl) ?_
                        refine zi_mul hx hb 3 i dL_ends_121 rfl rfl ?_
                        refine lv_iconst (v := 0) hx hb dL_ends_122 (by decide) ?_
                        refine za_st hx hb hK.1 hP hD hS 1 0 rfl rfl (3 * i) rfl (by omega) (by decide) dL_ends_123 (fun H638 locs638 hP hD hS => ?_)
                        have hP : va_P G vwCl [(yp, .inl (cI, 12, .inl vp)), (yb, .inl (cI, 12, .inl (upd bc (3 * i) 0))), (yg, .inl (cI, 10, .inl (upd (upd (upd (upd vg 5 (-6)) 4 ((vg 4) + 1)) 6 ((vg 6) + 1)) 7 0)))] H638 := hP
                        have hD : va_D A [(yp, .inl (cI, 12, .inl vp)), (yb, .inl (cI, 12, .inl (upd bc (3 * i) 0))), (yg, .inl (cI, 10, .inl (upd (upd (upd (upd vg 5 (-6)) 4 ((vg 4) + 1)) 6 ((vg 6) + 1)) 7 0)))] := hD
                        refine lv_iinc (v := nI (i + 1)) (lv' := [(4, .int (nI (i + 1))), (3, .int 0), (0, .ref yp), (1, .ref yb), (2, .ref yg)]) hx hb dL_ends_124 hl (k := 0) rfl (nI_inc i) (by decide) rfl (fun ls hl => ?_)
                        refine lv_goto (tgt := 76) hx hb dL_ends_127 (by decide) ?_
                        exact ih3 (i + 1) (upd bc (3 * i) 0) (by omega) (by rw [lmd, ← hf, if_pos ⟨c_635, c_636, c_637⟩]) (by omega) H638 locs638 hP hD hS _ (lv_sub hl [0, 1, 2, 3, 4] rfl)
            exact L3 5 0 vb (by decide) rfl (by decide) H632 locs632 hP hD hS _ (lv_sub hl [0, 1, 2, 3, 4] rfl)
          · refine lv_iconst (v := 0) hx hb dL_ends_50 (by decide) ?_
            refine lv_goto (tgt := 59) hx hb dL_ends_51 (by decide) ?_
            refine za_st hx hb hK.1 hP hD hS 2 0 rfl rfl 4 rfl (by decide) (by decide) dL_ends_59 (fun H639 locs639 hP hD hS => ?_)
            have hP : va_P G vwCl [(yp, .inl (cI, 12, .inl vp)), (yb, .inl (cI, 12, .inl vb)), (yg, .inl (cI, 10, .inl (upd (upd vg 5 (-6)) 4 0)))] H639 := hP
            have hD : va_D A [(yp, .inl (cI, 12, .inl vp)), (yb, .inl (cI, 12, .inl vb)), (yg, .inl (cI, 10, .inl (upd (upd vg 5 (-6)) 4 0)))] := hD
            refine lv_aload_n hx hb dL_ends_60 rfl (lv_at hl 3 rfl) ?_
            refine lv_bipush (v := 6) hx hb dL_ends_61 (by decide) ?_
            refine lv_dup2_11 hx hb dL_ends_63 rfl rfl ?_
            refine za_ld hx hb hK.1 hP 2 0 rfl rfl 6 rfl (by decide) (by decide) dL_ends_64 ?_
            refine lv_iconst (v := 1) hx hb dL_ends_65 (by decide) ?_
            refine lv_iadd hx hb dL_ends_66 ?_
            refine za_st hx hb hK.1 hP hD hS 2 0 rfl rfl 6 rfl (by decide) (by decide) dL_ends_67 (fun H640 locs640 hP hD hS => ?_)
            have hP : va_P G vwCl [(yp, .inl (cI, 12, .inl vp)), (yb, .inl (cI, 12, .inl vb)), (yg, .inl (cI, 10, .inl (upd (upd (upd vg 5 (-6)) 4 0) 6 ((vg 6) + 1))))] H640 := hP
            have hD : va_D A [(yp, .inl (cI, 12, .inl vp)), (yb, .inl (cI, 12, .inl vb)), (yg, .inl (cI, 10, .inl (upd (upd (upd vg 5 (-6)) 4 0) 6 ((vg 6) + 1))))] := hD
            refine lv_aload_n hx hb dL_ends_68 rfl (lv_at hl 3 rfl) ?_
            refine lv_bipush (v := 7) hx hb dL_ends_69 (by decide) ?_
            refine lv_iconst (v := 0) hx hb dL_ends_71 (by decide) ?_
            refine za_st hx hb hK.1 hP hD hS 2 0 rfl rfl 7 rfl (by decide) (by decide) dL_ends_72 (fun H641 locs641 hP hD hS => ?_)
            have hP : va_P G vwCl [(yp, .inl (cI, 12, .inl vp)), (yb, .inl (cI, 12, .inl vb)), (yg, .inl (cI, 10, .inl (upd (upd (upd (upd vg 5 (-6)) 4 0) 6 ((vg 6) + 1)) 7 0)))] H641 := hP
            have hD : va_D A [(yp, .inl (cI, 12, .inl vp)), (yb, .inl (cI, 12, .inl vb)), (yg, .inl (cI, 10, .inl (upd (upd (upd (upd vg 5 (-6)) 4 0) 6 ((vg 6) + 1)) 7 0)))] := hD
            refine lv_iconst (v := 0) hx hb dL_ends_73 (by decide) ?_
            refine lv_istore (lv' := [(4, .int 0), (3, .int 0), (0, .ref yp), (1, .ref yb), (2, .ref yg)]) hx hb dL_ends_74 hl (by decide) rfl (fun ls hl => ?_)
            have L4 : ∀ (n : Nat), ∀ (i : Nat), ∀ (bc : IA), ∀ (hi : i ≤ 4), ∀ (hf : bc = lmd (vg 1) (vg 6 + 1) vb i), ∀ (hn : 5 ≤ i + n), ∀ (H642 : Heap) (locs642 : List Loc), va_P G vwCl [(yp, .inl (cI, 12, .inl vp)), (yb, .inl (cI, 12, .inl bc)), (yg, .inl (cI, 10, .inl (upd (upd (upd (upd vg 5 (-6)) 4 0) 6 ((vg 6) + 1)) 7 0)))] H642 → va_D A [(yp, .inl (cI, 12, .inl vp)), (yb, .inl (cI, 12, .inl bc)), (yg, .inl (cI, 10, .inl (upd (upd (upd (upd vg 5 (-6)) 4 0) 6 ((vg 6) + 1)) 7 0)))] → va_S A s.heap H642 locs642 → ∀ (ls : Array Slot), lv_has ls 5 [(4, .int (nI i)), (3, .int 0), (0, .ref yp), (1, .ref yb), (2, .ref yg)] → W p l e rm_L_ends s m ag below meth c H642 locs642 0 0 Q (F0 m 76 ls []) := by
              intro n
              induction n with
              | zero =>
                intro i bc hi hf hn H642 locs642 hP hD hS ls hl
                omega
              | succ n ih4 =>
                intro i bc hi hf hn H642 locs642 hP hD hS ls hl
                refine lv_iload hx hb dL_ends_76 (lv_at hl 0 rfl) ?_
                refine lv_iconst (v := 4) hx hb dL_ends_78 (by decide) ?_
                refine zi_ge (tgt := 130) hx hb i 4 dL_ends_79 (by decide) rfl rfl (by omega) (by decide) (fun c_643 => ?_) (fun c_643 => ?_)
                · subst hQ
                  exact W.vret hx hb hr (fun t ht hW => ⟨⟨(bc, upd (upd (upd (upd vg 5 (-6)) 4 0) 6 ((vg 6) + 1)) 7 0), rfl, ⟨by rw [lnS, if_neg (fun w => w.elim c_627 (fun w => w.2 c_624)), ← show i = 4 by omega, ← hf], by rw [lnS, if_neg (fun w => w.elim c_627 (fun w => w.2 c_624)), lnG, if_pos (show vg 4 = 3 from c_629)]⟩, by rw [ht]; exact hP, hD⟩, hS.F ht⟩) hS.2.2 dL_ends_130
                · refine lv_aload_n hx hb dL_ends_82 rfl (lv_at hl 3 rfl) ?_
                  refine lv_iconst (v := 3) hx hb dL_ends_83 (by decide) ?_
                  refine lv_iload hx hb dL_ends_84 (lv_at hl 0 rfl) ?_
                  refine zi_mul hx hb 3 i dL_ends_86 rfl rfl ?_
                  refine za_ld hx hb hK.1 hP 1 0 rfl rfl (3 * i) rfl (by omega) (by decide) dL_ends_87 ?_
                  refine lv_iconst (v := 1) hx hb dL_ends_88 (by decide) ?_
                  refine lv_icmp_ne (tgt := 124) hx hb dL_ends_89 (by decide) (fun c_644 => ?_) (fun c_644 => ?_)
                  · refine lv_iinc (v := nI (i + 1)) (lv' := [(4, .int (nI (i + 1))), (3, .int 0), (0, .ref yp), (1, .ref yb), (2, .ref yg)]) hx hb dL_ends_124 hl (k := 0) rfl (nI_inc i) (by decide) rfl (fun ls hl => ?_)
                    refine lv_goto (tgt := 76) hx hb dL_ends_127 (by decide) ?_
                    exact ih4 (i + 1) bc (by omega) (by rw [lmd, ← hf, if_neg (fun w => c_644 w.1)]) (by omega) H642 locs642 hP hD hS _ (lv_sub hl [0, 1, 2, 3, 4] rfl)
                  · refine lv_aload_n hx hb dL_ends_92 rfl (lv_at hl 4 rfl) ?_
                    refine lv_iconst (v := 1) hx hb dL_ends_93 (by decide) ?_
                    refine za_ld hx hb hK.1 hP 2 0 rfl rfl 1 rfl (by decide) (by decide) dL_ends_94 ?_
                    refine lv_if_le (tgt := 124) hx hb dL_ends_95 (by decide) (fun c_645 => ?_) (fun c_645 => ?_)
                    · refine lv_iinc (v := nI (i + 1)) (lv' := [(4, .int (nI (i + 1))), (3, .int 0), (0, .ref yp), (1, .ref yb), (2, .ref yg)]) hx hb dL_ends_124 hl (k := 0) rfl (nI_inc i) (by decide) rfl (fun ls hl => ?_)
                      refine lv_goto (tgt := 76) hx hb dL_ends_127 (by decide) ?_
                      exact ih4 (i + 1) bc (by omega) (by rw [lmd, ← hf, if_neg (fun w => w.2.1 c_645)]) (by omega) H642 locs642 hP hD hS _ (lv_sub hl [0, 1, 2, 3, 4] rfl)
                    · refine lv_aload_n hx hb dL_ends_98 rfl (lv_at hl 3 rfl) ?_
                      refine lv_iconst (v := 3) hx hb dL_ends_99 (by decide) ?_
                      refine lv_iload hx hb dL_ends_100 (lv_at hl 0 rfl) ?_
                      refine zi_mul hx hb 3 i dL_ends_102 rfl rfl ?_
                      refine lv_iconst (v := 2) hx hb dL_ends_103 (by decide) ?_
                      refine zi_add hx hb (3 * i) 2 dL_ends_104 rfl rfl ?_
                      refine za_ld hx hb hK.1 hP 1 0 rfl rfl ((3 * i) + 2) rfl (by omega) (by decide) dL_ends_105 ?_
                      refine lv_aload_n hx hb dL_ends_106 rfl (lv_at hl 4 rfl) ?_
                      refine lv_iconst (v := 1) hx hb dL_ends_107 (by decide) ?_
                      refine za_ld hx hb hK.1 hP 2 0 rfl rfl 1 rfl (by decide) (by decide) dL_ends_108 ?_
                      refine lv_iadd hx hb dL_ends_109 ?_
                      refine lv_aload_n hx hb dL_ends_110 rfl (lv_at hl 4 rfl) ?_
                      refine lv_bipush (v := 6) hx hb dL_ends_111 (by decide) ?_
                      refine za_ld hx hb hK.1 hP 2 0 rfl rfl 6 rfl (by decide) (by decide) dL_ends_113 ?_
                      refine lv_icmp_gt (tgt := 124) hx hb dL_ends_114 (by decide) (fun c_646 => ?_) (fun c_646 => ?_)
                      · refine lv_iinc (v := nI (i + 1)) (lv' := [(4, .int (nI (i + 1))), (3, .int 0), (0, .ref yp), (1, .ref yb), (2, .ref yg)]) hx hb dL_ends_124 hl (k := 0) rfl (nI_inc i) (by decide) rfl (fun ls hl => ?_)
                        refine lv_goto (tgt := 76) hx hb dL_ends_127 (by decide) ?_
                        exact ih4 (i + 1) bc (by omega) (by rw [lmd, ← hf, if_neg (fun w => w.2.2 c_646)]) (by omega) H642 locs642 hP hD hS _ (lv_sub hl [0, 1, 2, 3, 4] rfl)
                      · refine lv_aload_n hx hb dL_ends_117 rfl (lv_at hl 3 rfl) ?_
                        refine lv_iconst (v := 3) hx hb dL_ends_118 (by decide) ?_
                        refine lv_iload hx hb dL_ends_119 (lv_at hl 0 rfl) ?_
                        refine zi_mul hx hb 3 i dL_ends_121 rfl rfl ?_
                        refine lv_iconst (v := 0) hx hb dL_ends_122 (by decide) ?_
                        refine za_st hx hb hK.1 hP hD hS 1 0 rfl rfl (3 * i) rfl (by omega) (by decide) dL_ends_123 (fun H647 locs647 hP hD hS => ?_)
                        have hP : va_P G vwCl [(yp, .inl (cI, 12, .inl vp)), (yb, .inl (cI, 12, .inl (upd bc (3 * i) 0))), (yg, .inl (cI, 10, .inl (upd (upd (upd (upd vg 5 (-6)) 4 0) 6 ((vg 6) + 1)) 7 0)))] H647 := hP
                        have hD : va_D A [(yp, .inl (cI, 12, .inl vp)), (yb, .inl (cI, 12, .inl (upd bc (3 * i) 0))), (yg, .inl (cI, 10, .inl (upd (upd (upd (upd vg 5 (-6)) 4 0) 6 ((vg 6) + 1)) 7 0)))] := hD
                        refine lv_iinc (v := nI (i + 1)) (lv' := [(4, .int (nI (i + 1))), (3, .int 0), (0, .ref yp), (1, .ref yb), (2, .ref yg)]) hx hb dL_ends_124 hl (k := 0) rfl (nI_inc i) (by decide) rfl (fun ls hl => ?_)
                        refine lv_goto (tgt := 76) hx hb dL_ends_127 (by decide) ?_
                        exact ih4 (i + 1) (upd bc (3 * i) 0) (by omega) (by rw [lmd, ← hf, if_pos ⟨c_644, c_645, c_646⟩]) (by omega) H647 locs647 hP hD hS _ (lv_sub hl [0, 1, 2, 3, 4] rfl)
            exact L4 5 0 vb (by decide) rfl (by decide) H641 locs641 hP hD hS _ (lv_sub hl [0, 1, 2, 3, 4] rfl)
        · exact absurd c_628 (by decide)
    · refine lv_iconst (v := 1) hx hb dL_ends_18 (by decide) ?_
      refine lv_goto (tgt := 23) hx hb dL_ends_19 (by decide) ?_
      refine lv_istore_n (lv' := [(3, .int 1), (0, .ref yp), (1, .ref yb), (2, .ref yg)]) hx hb dL_ends_23 rfl hl (by decide) rfl (fun ls hl => ?_)
      refine lv_aload_n hx hb dL_ends_24 rfl (lv_at hl 3 rfl) ?_
      refine lv_iconst (v := 5) hx hb dL_ends_25 (by decide) ?_
      refine lv_bipush (v := (-6)) hx hb dL_ends_26 (by decide) ?_
      refine za_st hx hb hK.1 hP hD hS 2 0 rfl rfl 5 rfl (by decide) (by decide) dL_ends_28 (fun H648 locs648 hP hD hS => ?_)
      have hP : va_P G vwCl [(yp, .inl (cI, 12, .inl vp)), (yb, .inl (cI, 12, .inl vb)), (yg, .inl (cI, 10, .inl (upd vg 5 (-6))))] H648 := hP
      have hD : va_D A [(yp, .inl (cI, 12, .inl vp)), (yb, .inl (cI, 12, .inl vb)), (yg, .inl (cI, 10, .inl (upd vg 5 (-6))))] := hD
      refine lv_aload_n hx hb dL_ends_29 rfl (lv_at hl 1 rfl) ?_
      have hPc := hP.sub (ws' := [(yp, .inl (cI, 12, .inl vp))]) [0] rfl
      have hDc := (hD.sub (ws' := [(yp, .inl (cI, 12, .inl vp))]) [0] (by decide) rfl).tt
      refine vp_callSi (va_Run.run (va_runS (As := [.ref yp]) (rest := []) ⟨hx, hb, hml, hown, hts⟩ (c_L_winner l G cI cC cZ cG H648.size yp vp) (cf_RL_39 hts ⟨Nat.le_of_ble_eq_true rfl, Nat.le_of_ble_eq_true rfl⟩) (pre_S hK hPc hDc) rfl rfl hl.1 rfl (lv_room (Nat.le_of_ble_eq_true rfl)) dL_ends_30 ⟨Nat.le_of_ble_eq_true rfl, Nat.le_of_ble_eq_true rfl⟩)) (fun r649 hr649 => ?_)
      subst hr649
      refine lv_if_ge (tgt := 40) hx hb dL_ends_33 (by decide) (fun c_650 => ?_) (fun c_650 => ?_)
      · subst hQ
        exact W.vret hx hb hr (fun t ht hW => ⟨⟨(vb, upd vg 5 (-6)), rfl, ⟨by rw [lnS, if_pos (Or.inl c_650)], by rw [lnS, if_pos (Or.inl c_650)]⟩, by rw [ht]; exact hP, hD⟩, hS.F ht⟩) hS.2.2 dL_ends_40
      · refine lv_iload_n hx hb dL_ends_36 rfl (lv_at hl 0 rfl) ?_
        refine lv_if_eq (tgt := 41) hx hb dL_ends_37 (by decide) (fun c_651 => ?_) (fun c_651 => ?_)
        · exact absurd c_651 (by decide)
        · subst hQ
          exact W.vret hx hb hr (fun t ht hW => ⟨⟨(vb, upd vg 5 (-6)), rfl, ⟨by rw [lnS, if_pos (Or.inr ⟨c_600, c_624⟩)], by rw [lnS, if_pos (Or.inr ⟨c_600, c_624⟩)]⟩, by rw [ht]; exact hP, hD⟩, hS.F ht⟩) hS.2.2 dL_ends_40

abbrev rm_L_best : Room := { frames := 4, cells := 0, slots := 0, locals := 95 }
theorem cf_RL_43 {R : Room} {s : State} {args : Array Value} (ht : ∀ w ∈ wsL_law, w.before args s = true) (hR : rm_L_why.frames + 1 ≤ R.frames ∧ 8 + (10 + 11) + rm_L_why.locals ≤ R.locals) : CallB R s args RL 43 yL_why cL_why 10 (some .int) (.code yL_why cL_why 10 (some .int) :: wsL_law) rm_L_why 0 0 5 ∧ (Cond.static yL_why).before args s = true := ⟨cw_B 5 ht wd187 wd72 wd189 (by decide +kernel) rfl rfl hR, ht _ wd188⟩
set_option maxHeartbeats 1000000 in
set_option maxRecDepth 100000 in
theorem c_L_best (l : Launch) (G : va_G) (cI cC cZ cG : ClassId) (sz : Nat) (yp yb yg : Nat) (vp vb vg : IA) (pl cn : Nat) (hpr : ∀ k, k < 12 → okv (vp k)) (h4 : vg 4 = nI pl) (hpl : pl < 4) (h5 : vg 5 = nI cn) (hc1 : 1 ≤ cn) (hc : cn ≤ 6) : Met l yL_best (.code yL_best cL_best 11 (some .int) :: wsL_law) rm_L_best (va_Pc [.ref yp, .ref yb, .ref yg] (bw G cI cC cZ cG false sz [(yp, .inl (cI, 12, .inl vp)), (yb, .inl (cI, 12, .inl vb)), (yg, .inl (cI, 10, .inl vg))])) (vp_Si (fun r => r = lbe vp vb vg pl cn)) 0 0 (fun _ => False) := by
  refine met_bw rfl (Nat.le_of_ble_eq_true rfl) ?_
  intro p e s m below meth c ls hx hb hr hml hown hts hlocks hin hsz hP hK hD0 hX0 hl
  have hown : s.vm.findClass RL = some m.cls := hown
  have hl : lv_has ls 11 [(0, .ref yp), (1, .ref yb), (2, .ref yg)] := hl
  generalize hQ : MQ below (vp_Si (fun r => r = lbe vp vb vg pl cn)) ([.ref yp, .ref yb, .ref yg] : List Value).toArray s 0 0 (fun _ => False) = Q
  generalize hag : ([.ref yp, .ref yb, .ref yg] : List Value).toArray = ag at hts hQ ⊢
  refine lv_bipush (v := (-6)) hx hb dL_best_0 (by decide) ?_
  refine lv_istore_n (lv' := [(3, .int (-6)), (0, .ref yp), (1, .ref yb), (2, .ref yg)]) hx hb dL_best_2 rfl hl (by decide) rfl (fun ls hl => ?_)
  refine lv_iconst (v := (-1)) hx hb dL_best_3 (by decide) ?_
  refine lv_istore (lv' := [(4, .int (-1)), (3, .int (-6)), (0, .ref yp), (1, .ref yb), (2, .ref yg)]) hx hb dL_best_4 hl (by decide) rfl (fun ls hl => ?_)
  refine lv_iconst (v := 2) hx hb dL_best_6 (by decide) ?_
  refine lv_istore (lv' := [(5, .int 2), (4, .int (-1)), (3, .int (-6)), (0, .ref yp), (1, .ref yb), (2, .ref yg)]) hx hb dL_best_7 hl (by decide) rfl (fun ls hl => ?_)
  have L1 : ∀ (n : Nat), ∀ (Ac : Nat), ∀ (xa : Int32), ∀ (ff : Int32), ∀ (mm : Int32), ∀ (hAc : Ac ≤ 3), ∀ (hxa : xa = nI Ac - 1), ∀ (hf : (ff, mm) = lbs vp vb vg pl cn (3 - Ac)), ∀ (hn : Ac + 1 ≤ n), ∀ (ls : Array Slot), lv_has ls 11 [(5, .int xa), (4, .int mm), (3, .int ff), (0, .ref yp), (1, .ref yb), (2, .ref yg)] → W p l e rm_L_best s m ag below meth c s.heap [] 0 0 Q (F0 m 9 ls []) := by
    intro n
    induction n with
    | zero =>
      intro Ac xa ff mm hAc hxa hf hn ls hl
      omega
    | succ n ih1 =>
      intro Ac xa ff mm hAc hxa hf hn ls hl
      rcases Ac with _ | b2
      · obtain rfl : xa = -1 := by rw [hxa]; decide
        refine lv_iload hx hb dL_best_9 (lv_at hl 0 rfl) ?_
        refine lv_if_lt (tgt := 175) hx hb dL_best_11 (by decide) (fun c_653 => ?_) (fun c_653 => ?_)
        · refine lv_iload_n hx hb dL_best_175 rfl (lv_at hl 2 rfl) ?_
          subst hQ
          exact W.iret (v := ff) hx hb hr (fun t ht hW => ⟨ff, rfl, by rw [lbe]; exact congrArg Prod.fst hf, ht⟩) (fun _ h => absurd h List.not_mem_nil) dL_best_176
        · exact absurd c_653 (by decide)
      · obtain rfl : xa = nI b2 := by rw [hxa]; exact nI_pred b2
        refine lv_iload hx hb dL_best_9 (lv_at hl 0 rfl) ?_
        refine z0_lt (tgt := 175) hx hb b2 dL_best_11 (by decide) rfl (by omega) ?_
        refine lv_iconst (v := 3) hx hb dL_best_14 (by decide) ?_
        refine lv_aload_n hx hb dL_best_15 rfl (lv_at hl 5 rfl) ?_
        refine lv_iconst (v := 4) hx hb dL_best_16 (by decide) ?_
        refine za_ld hx hb hK.1 hP 2 0 rfl rfl 4 rfl (by decide) (by decide) dL_best_17 ?_
        refine zi_mul hx hb 3 pl dL_best_18 rfl h4 ?_
        refine lv_iload hx hb dL_best_19 (lv_at hl 0 rfl) ?_
        refine zi_add hx hb (3 * pl) b2 dL_best_21 rfl rfl ?_
        refine lv_istore (lv' := [(6, .int (nI ((3 * pl) + b2))), (5, .int (nI b2)), (4, .int mm), (3, .int ff), (0, .ref yp), (1, .ref yb), (2, .ref yg)]) hx hb dL_best_22 hl (by decide) rfl (fun ls hl => ?_)
        refine lv_aload_n hx hb dL_best_24 rfl (lv_at hl 4 rfl) ?_
        refine lv_aload_n hx hb dL_best_25 rfl (lv_at hl 5 rfl) ?_
        refine lv_aload_n hx hb dL_best_26 rfl (lv_at hl 6 rfl) ?_
        refine lv_iload hx hb dL_best_27 (lv_at hl 0 rfl) ?_
        refine lv_aload_n hx hb dL_best_29 rfl (lv_at hl 6 rfl) ?_
        refine lv_iconst (v := 5) hx hb dL_best_30 (by decide) ?_
        refine za_ld hx hb hK.1 hP 2 0 rfl rfl 5 rfl (by decide) (by decide) dL_best_31 ?_
        rw [h5]
        have hPc : va_P G vwCl [(yp, .inl (cI, 12, .inl vp)), (yb, .inl (cI, 12, .inl vb)), (yg, .inl (cI, 10, .inl vg))] s.heap := hP
        have hDc := hD0
        refine vp_callSi (va_Run.run (va_runS (As := [.ref yp, .ref yb, .ref yg, .int (nI ((3 * pl) + b2)), .int (nI cn)]) (rest := []) ⟨hx, hb, hml, hown, hts⟩ (c_L_why l G cI cC cZ cG s.heap.size yp yb yg vp vb vg ((3 * pl) + b2) cn hpr (by omega) (by omega) (by omega)) (cf_RL_43 hts ⟨Nat.le_of_ble_eq_true rfl, Nat.le_of_ble_eq_true rfl⟩) (pre_S hK hPc hDc) rfl rfl hl.1 rfl (lv_room (Nat.le_of_ble_eq_true rfl)) dL_best_32 ⟨Nat.le_of_ble_eq_true rfl, Nat.le_of_ble_eq_true rfl⟩)) (fun r655 hr655 => ?_)
        subst hr655
        refine lv_bipush (v := 10) hx hb dL_best_35 (by decide) ?_
        refine lv_isub hx hb dL_best_37 ?_
        refine lv_istore (lv' := [(7, .int ((lwy vp vb vg ((3 * pl) + b2) cn) - 10)), (6, .int (nI ((3 * pl) + b2))), (5, .int (nI b2)), (4, .int mm), (3, .int ff), (0, .ref yp), (1, .ref yb), (2, .ref yg)]) hx hb dL_best_38 hl (by decide) rfl (fun ls hl => ?_)
        refine lv_iload hx hb dL_best_40 (lv_at hl 0 rfl) ?_
        refine lv_if_ge (tgt := 48) hx hb dL_best_42 (by decide) (fun c_656 => ?_) (fun c_656 => ?_)
        · refine lv_iload hx hb dL_best_48 (lv_at hl 1 rfl) ?_
          refine lv_iload hx hb dL_best_50 (lv_at hl 0 rfl) ?_
          refine vp_callSi (va_Run.run (va_runS (As := [.int (nI ((3 * pl) + b2)), .int ((lwy vp vb vg ((3 * pl) + b2) cn) - 10)]) (rest := []) ⟨hx, hb, hml, hown, hts⟩ (c_L_field l ((3 * pl) + b2) ((lwy vp vb vg ((3 * pl) + b2) cn) - 10) (by omega)) (cf_RL_9 hts ⟨Nat.le_of_ble_eq_true rfl, Nat.le_of_ble_eq_true rfl⟩) pre_P rfl rfl hl.1 rfl (lv_room (Nat.le_of_ble_eq_true rfl)) dL_best_52 ⟨Nat.le_of_ble_eq_true rfl, Nat.le_of_ble_eq_true rfl⟩)) (fun r657 hr657 => ?_)
          subst hr657
          refine lv_istore (lv' := [(8, .int (lfd (((3 * pl) + b2) / 3) ((lwy vp vb vg ((3 * pl) + b2) cn) - 10))), (7, .int ((lwy vp vb vg ((3 * pl) + b2) cn) - 10)), (6, .int (nI ((3 * pl) + b2))), (5, .int (nI b2)), (4, .int mm), (3, .int ff), (0, .ref yp), (1, .ref yb), (2, .ref yg)]) hx hb dL_best_55 hl (by decide) rfl (fun ls hl => ?_)
          refine lv_iload hx hb dL_best_57 (lv_at hl 1 rfl) ?_
          refine lv_bipush (v := 35) hx hb dL_best_59 (by decide) ?_
          refine lv_icmp_ne (tgt := 68) hx hb dL_best_61 (by decide) (fun c_658 => ?_) (fun c_658 => ?_)
          · refine lv_iload hx hb dL_best_68 (lv_at hl 0 rfl) ?_
            refine lv_if_lt (tgt := 95) hx hb dL_best_70 (by decide) (fun c_659 => ?_) (fun c_659 => ?_)
            · refine lv_aload_n hx hb dL_best_95 rfl (lv_at hl 6 rfl) ?_
              refine lv_aload_n hx hb dL_best_96 rfl (lv_at hl 8 rfl) ?_
              refine lv_iconst (v := 4) hx hb dL_best_97 (by decide) ?_
              refine za_ld hx hb hK.1 hP 2 0 rfl rfl 4 rfl (by decide) (by decide) dL_best_98 ?_
              refine lv_iload hx hb dL_best_99 (lv_at hl 0 rfl) ?_
              rw [h4]
              have hPc := hP.sub (ws' := [(yp, .inl (cI, 12, .inl vp))]) [0] rfl
              have hDc := (hD0.sub (ws' := [(yp, .inl (cI, 12, .inl vp))]) [0] (by decide) rfl).tt
              refine vp_callSi (va_Run.run (va_runS (As := [.ref yp, .int (nI pl), .int (lfd (((3 * pl) + b2) / 3) ((lwy vp vb vg ((3 * pl) + b2) cn) - 10))]) (rest := []) ⟨hx, hb, hml, hown, hts⟩ (c_L_on l G cI cC cZ cG s.heap.size yp vp pl (lfd (((3 * pl) + b2) / 3) ((lwy vp vb vg ((3 * pl) + b2) cn) - 10)) (by omega)) (cf_RL_15 hts ⟨Nat.le_of_ble_eq_true rfl, Nat.le_of_ble_eq_true rfl⟩) (pre_S hK hPc hDc) rfl rfl hl.1 rfl (lv_room (Nat.le_of_ble_eq_true rfl)) dL_best_101 ⟨Nat.le_of_ble_eq_true rfl, Nat.le_of_ble_eq_true rfl⟩)) (fun r660 hr660 => ?_)
              subst hr660
              have hf661 := (@mpc_le vp pl (lfd (((3 * pl) + b2) / 3) ((lwy vp vb vg ((3 * pl) + b2) cn) - 10)))
              refine z0_le (tgt := 111) hx hb (mpc vp pl (lfd (((3 * pl) + b2) / 3) ((lwy vp vb vg ((3 * pl) + b2) cn) - 10))) dL_best_104 (by decide) rfl (by omega) (fun c_662 => ?_) (fun c_662 => ?_)
              · refine lv_iconst (v := 0) hx hb dL_best_111 (by decide) ?_
                refine lv_istore (lv' := [(9, .int 0), (8, .int (lfd (((3 * pl) + b2) / 3) ((lwy vp vb vg ((3 * pl) + b2) cn) - 10))), (7, .int ((lwy vp vb vg ((3 * pl) + b2) cn) - 10)), (6, .int (nI ((3 * pl) + b2))), (5, .int (nI b2)), (4, .int mm), (3, .int ff), (0, .ref yp), (1, .ref yb), (2, .ref yg)]) hx hb dL_best_112 hl (by decide) rfl (fun ls hl => ?_)
                refine lv_bipush (v := 64) hx hb dL_best_114 (by decide) ?_
                refine lv_iload hx hb dL_best_116 (lv_at hl 0 rfl) ?_
                refine zi_mul hx hb 64 0 dL_best_118 rfl rfl ?_
                refine lv_aload_n hx hb dL_best_119 rfl (lv_at hl 7 rfl) ?_
                refine lv_iload hx hb dL_best_120 (lv_at hl 3 rfl) ?_
                refine za_ld hx hb hK.1 hP 0 0 rfl rfl ((3 * pl) + b2) rfl (by omega) (by decide) dL_best_122 ?_
                refine lv_if_ge (tgt := 130) hx hb dL_best_123 (by decide) (fun c_663 => ?_) (fun c_663 => ?_)
                · refine lv_aload_n hx hb dL_best_130 rfl (lv_at hl 7 rfl) ?_
                  refine lv_iload hx hb dL_best_131 (lv_at hl 3 rfl) ?_
                  refine za_ld hx hb hK.1 hP 0 0 rfl rfl ((3 * pl) + b2) rfl (by omega) (by decide) dL_best_133 ?_
                  refine lv_iconst (v := 1) hx hb dL_best_134 (by decide) ?_
                  refine lv_iadd hx hb dL_best_135 ?_
                  refine lv_iadd hx hb dL_best_136 ?_
                  refine lv_istore (lv' := [(10, .int (0 + ((vp ((3 * pl) + b2)) + 1))), (9, .int 0), (8, .int (lfd (((3 * pl) + b2) / 3) ((lwy vp vb vg ((3 * pl) + b2) cn) - 10))), (7, .int ((lwy vp vb vg ((3 * pl) + b2) cn) - 10)), (6, .int (nI ((3 * pl) + b2))), (5, .int (nI b2)), (4, .int mm), (3, .int ff), (0, .ref yp), (1, .ref yb), (2, .ref yg)]) hx hb dL_best_137 hl (by decide) rfl (fun ls hl => ?_)
                  refine lv_iload hx hb dL_best_139 (lv_at hl 0 rfl) ?_
                  refine lv_iload hx hb dL_best_141 (lv_at hl 6 rfl) ?_
                  refine lv_icmp_lt (tgt := 151) hx hb dL_best_143 (by decide) (fun c_664 => ?_) (fun c_664 => ?_)
                  · refine lv_iload_n hx hb dL_best_151 rfl (lv_at hl 7 rfl) ?_
                    refine lv_istore_n (lv' := [(3, .int ff), (10, .int (0 + ((vp ((3 * pl) + b2)) + 1))), (9, .int 0), (8, .int (lfd (((3 * pl) + b2) / 3) ((lwy vp vb vg ((3 * pl) + b2) cn) - 10))), (7, .int ((lwy vp vb vg ((3 * pl) + b2) cn) - 10)), (6, .int (nI ((3 * pl) + b2))), (5, .int (nI b2)), (4, .int mm), (0, .ref yp), (1, .ref yb), (2, .ref yg)]) hx hb dL_best_152 rfl hl (by decide) rfl (fun ls hl => ?_)
                    refine lv_iload hx hb dL_best_153 (lv_at hl 1 rfl) ?_
                    refine lv_iload hx hb dL_best_155 (lv_at hl 7 rfl) ?_
                    refine lv_icmp_lt (tgt := 165) hx hb dL_best_157 (by decide) (fun c_665 => ?_) (fun c_665 => ?_)
                    · refine lv_iload hx hb dL_best_165 (lv_at hl 7 rfl) ?_
                      refine lv_istore (lv' := [(4, .int mm), (3, .int ff), (10, .int (0 + ((vp ((3 * pl) + b2)) + 1))), (9, .int 0), (8, .int (lfd (((3 * pl) + b2) / 3) ((lwy vp vb vg ((3 * pl) + b2) cn) - 10))), (7, .int ((lwy vp vb vg ((3 * pl) + b2) cn) - 10)), (6, .int (nI ((3 * pl) + b2))), (5, .int (nI b2)), (0, .ref yp), (1, .ref yb), (2, .ref yg)]) hx hb dL_best_167 hl (by decide) rfl (fun ls hl => ?_)
                      refine lv_iinc (v := (nI b2) + Int32.ofInt (-1)) (lv' := [(5, .int ((nI b2) + Int32.ofInt (-1))), (4, .int mm), (3, .int ff), (10, .int (0 + ((vp ((3 * pl) + b2)) + 1))), (9, .int 0), (8, .int (lfd (((3 * pl) + b2) / 3) ((lwy vp vb vg ((3 * pl) + b2) cn) - 10))), (7, .int ((lwy vp vb vg ((3 * pl) + b2) cn) - 10)), (6, .int (nI ((3 * pl) + b2))), (0, .ref yp), (1, .ref yb), (2, .ref yg)]) hx hb dL_best_169 hl (k := 7) rfl rfl (by decide) rfl (fun ls hl => ?_)
                      refine lv_goto (tgt := 9) hx hb dL_best_172 (by decide) ?_
                      have erk : lrk vp vb vg pl (3 * pl + b2) cn = 0 + ((vp ((3 * pl) + b2)) + 1) := by rw [lrk, lkd, if_neg c_658, if_neg (fun w => w.1 c_659), if_neg (by omega), lph, if_pos c_663]; first | rfl | decide
                      exact ih1 b2 ((nI b2) + Int32.ofInt (-1)) ff mm (by omega) (dec_sub b2) (by rw [show 3 - b2 = (3 - (b2 + 1)) + 1 by omega, lbs, show 2 - (3 - (b2 + 1)) = b2 by omega, ← hf, erk, if_pos (Or.inr c_664)]) (by omega) _ (lv_sub hl [0, 1, 2, 8, 9, 10] rfl)
                    · refine lv_iload hx hb dL_best_160 (lv_at hl 1 rfl) ?_
                      refine lv_goto (tgt := 167) hx hb dL_best_162 (by decide) ?_
                      refine lv_istore (lv' := [(4, .int (0 + ((vp ((3 * pl) + b2)) + 1))), (3, .int ff), (10, .int (0 + ((vp ((3 * pl) + b2)) + 1))), (9, .int 0), (8, .int (lfd (((3 * pl) + b2) / 3) ((lwy vp vb vg ((3 * pl) + b2) cn) - 10))), (7, .int ((lwy vp vb vg ((3 * pl) + b2) cn) - 10)), (6, .int (nI ((3 * pl) + b2))), (5, .int (nI b2)), (0, .ref yp), (1, .ref yb), (2, .ref yg)]) hx hb dL_best_167 hl (by decide) rfl (fun ls hl => ?_)
                      refine lv_iinc (v := (nI b2) + Int32.ofInt (-1)) (lv' := [(5, .int ((nI b2) + Int32.ofInt (-1))), (4, .int (0 + ((vp ((3 * pl) + b2)) + 1))), (3, .int ff), (10, .int (0 + ((vp ((3 * pl) + b2)) + 1))), (9, .int 0), (8, .int (lfd (((3 * pl) + b2) / 3) ((lwy vp vb vg ((3 * pl) + b2) cn) - 10))), (7, .int ((lwy vp vb vg ((3 * pl) + b2) cn) - 10)), (6, .int (nI ((3 * pl) + b2))), (0, .ref yp), (1, .ref yb), (2, .ref yg)]) hx hb dL_best_169 hl (k := 7) rfl rfl (by decide) rfl (fun ls hl => ?_)
                      refine lv_goto (tgt := 9) hx hb dL_best_172 (by decide) ?_
                      have erk : lrk vp vb vg pl (3 * pl + b2) cn = 0 + ((vp ((3 * pl) + b2)) + 1) := by rw [lrk, lkd, if_neg c_658, if_neg (fun w => w.1 c_659), if_neg (by omega), lph, if_pos c_663]; first | rfl | decide
                      exact absurd c_664 c_665
                  · refine lv_iload hx hb dL_best_146 (lv_at hl 5 rfl) ?_
                    refine lv_goto (tgt := 152) hx hb dL_best_148 (by decide) ?_
                    refine lv_istore_n (lv' := [(3, .int (nI b2)), (10, .int (0 + ((vp ((3 * pl) + b2)) + 1))), (9, .int 0), (8, .int (lfd (((3 * pl) + b2) / 3) ((lwy vp vb vg ((3 * pl) + b2) cn) - 10))), (7, .int ((lwy vp vb vg ((3 * pl) + b2) cn) - 10)), (6, .int (nI ((3 * pl) + b2))), (5, .int (nI b2)), (4, .int mm), (0, .ref yp), (1, .ref yb), (2, .ref yg)]) hx hb dL_best_152 rfl hl (by decide) rfl (fun ls hl => ?_)
                    refine lv_iload hx hb dL_best_153 (lv_at hl 1 rfl) ?_
                    refine lv_iload hx hb dL_best_155 (lv_at hl 7 rfl) ?_
                    refine lv_icmp_lt (tgt := 165) hx hb dL_best_157 (by decide) (fun c_666 => ?_) (fun c_666 => ?_)
                    · refine lv_iload hx hb dL_best_165 (lv_at hl 7 rfl) ?_
                      refine lv_istore (lv' := [(4, .int mm), (3, .int (nI b2)), (10, .int (0 + ((vp ((3 * pl) + b2)) + 1))), (9, .int 0), (8, .int (lfd (((3 * pl) + b2) / 3) ((lwy vp vb vg ((3 * pl) + b2) cn) - 10))), (7, .int ((lwy vp vb vg ((3 * pl) + b2) cn) - 10)), (6, .int (nI ((3 * pl) + b2))), (5, .int (nI b2)), (0, .ref yp), (1, .ref yb), (2, .ref yg)]) hx hb dL_best_167 hl (by decide) rfl (fun ls hl => ?_)
                      refine lv_iinc (v := (nI b2) + Int32.ofInt (-1)) (lv' := [(5, .int ((nI b2) + Int32.ofInt (-1))), (4, .int mm), (3, .int (nI b2)), (10, .int (0 + ((vp ((3 * pl) + b2)) + 1))), (9, .int 0), (8, .int (lfd (((3 * pl) + b2) / 3) ((lwy vp vb vg ((3 * pl) + b2) cn) - 10))), (7, .int ((lwy vp vb vg ((3 * pl) + b2) cn) - 10)), (6, .int (nI ((3 * pl) + b2))), (0, .ref yp), (1, .ref yb), (2, .ref yg)]) hx hb dL_best_169 hl (k := 7) rfl rfl (by decide) rfl (fun ls hl => ?_)
                      refine lv_goto (tgt := 9) hx hb dL_best_172 (by decide) ?_
                      have erk : lrk vp vb vg pl (3 * pl + b2) cn = 0 + ((vp ((3 * pl) + b2)) + 1) := by rw [lrk, lkd, if_neg c_658, if_neg (fun w => w.1 c_659), if_neg (by omega), lph, if_pos c_663]; first | rfl | decide
                      exact absurd c_666 c_664
                    · refine lv_iload hx hb dL_best_160 (lv_at hl 1 rfl) ?_
                      refine lv_goto (tgt := 167) hx hb dL_best_162 (by decide) ?_
                      refine lv_istore (lv' := [(4, .int (0 + ((vp ((3 * pl) + b2)) + 1))), (3, .int (nI b2)), (10, .int (0 + ((vp ((3 * pl) + b2)) + 1))), (9, .int 0), (8, .int (lfd (((3 * pl) + b2) / 3) ((lwy vp vb vg ((3 * pl) + b2) cn) - 10))), (7, .int ((lwy vp vb vg ((3 * pl) + b2) cn) - 10)), (6, .int (nI ((3 * pl) + b2))), (5, .int (nI b2)), (0, .ref yp), (1, .ref yb), (2, .ref yg)]) hx hb dL_best_167 hl (by decide) rfl (fun ls hl => ?_)
                      refine lv_iinc (v := (nI b2) + Int32.ofInt (-1)) (lv' := [(5, .int ((nI b2) + Int32.ofInt (-1))), (4, .int (0 + ((vp ((3 * pl) + b2)) + 1))), (3, .int (nI b2)), (10, .int (0 + ((vp ((3 * pl) + b2)) + 1))), (9, .int 0), (8, .int (lfd (((3 * pl) + b2) / 3) ((lwy vp vb vg ((3 * pl) + b2) cn) - 10))), (7, .int ((lwy vp vb vg ((3 * pl) + b2) cn) - 10)), (6, .int (nI ((3 * pl) + b2))), (0, .ref yp), (1, .ref yb), (2, .ref yg)]) hx hb dL_best_169 hl (k := 7) rfl rfl (by decide) rfl (fun ls hl => ?_)
                      refine lv_goto (tgt := 9) hx hb dL_best_172 (by decide) ?_
                      have erk : lrk vp vb vg pl (3 * pl + b2) cn = 0 + ((vp ((3 * pl) + b2)) + 1) := by rw [lrk, lkd, if_neg c_658, if_neg (fun w => w.1 c_659), if_neg (by omega), lph, if_pos c_663]; first | rfl | decide
                      exact ih1 b2 ((nI b2) + Int32.ofInt (-1)) (nI b2) (0 + ((vp ((3 * pl) + b2)) + 1)) (by omega) (dec_sub b2) (by rw [show 3 - b2 = (3 - (b2 + 1)) + 1 by omega, lbs, show 2 - (3 - (b2 + 1)) = b2 by omega, ← hf, erk, if_neg (fun w => w.elim (fun z => absurd c_656 (Int32.not_le.mpr z)) c_664)]) (by omega) _ (lv_sub hl [0, 1, 2, 8, 9, 10] rfl)
                · refine lv_iconst (v := 0) hx hb dL_best_126 (by decide) ?_
                  refine lv_goto (tgt := 136) hx hb dL_best_127 (by decide) ?_
                  refine zi_add hx hb 0 0 dL_best_136 rfl rfl ?_
                  refine lv_istore (lv' := [(10, .int 0), (9, .int 0), (8, .int (lfd (((3 * pl) + b2) / 3) ((lwy vp vb vg ((3 * pl) + b2) cn) - 10))), (7, .int ((lwy vp vb vg ((3 * pl) + b2) cn) - 10)), (6, .int (nI ((3 * pl) + b2))), (5, .int (nI b2)), (4, .int mm), (3, .int ff), (0, .ref yp), (1, .ref yb), (2, .ref yg)]) hx hb dL_best_137 hl (by decide) rfl (fun ls hl => ?_)
                  refine lv_iload hx hb dL_best_139 (lv_at hl 0 rfl) ?_
                  refine lv_iload hx hb dL_best_141 (lv_at hl 6 rfl) ?_
                  refine lv_icmp_lt (tgt := 151) hx hb dL_best_143 (by decide) (fun c_667 => ?_) (fun c_667 => ?_)
                  · refine lv_iload_n hx hb dL_best_151 rfl (lv_at hl 7 rfl) ?_
                    refine lv_istore_n (lv' := [(3, .int ff), (10, .int 0), (9, .int 0), (8, .int (lfd (((3 * pl) + b2) / 3) ((lwy vp vb vg ((3 * pl) + b2) cn) - 10))), (7, .int ((lwy vp vb vg ((3 * pl) + b2) cn) - 10)), (6, .int (nI ((3 * pl) + b2))), (5, .int (nI b2)), (4, .int mm), (0, .ref yp), (1, .ref yb), (2, .ref yg)]) hx hb dL_best_152 rfl hl (by decide) rfl (fun ls hl => ?_)
                    refine lv_iload hx hb dL_best_153 (lv_at hl 1 rfl) ?_
                    refine lv_iload hx hb dL_best_155 (lv_at hl 7 rfl) ?_
                    refine lv_icmp_lt (tgt := 165) hx hb dL_best_157 (by decide) (fun c_668 => ?_) (fun c_668 => ?_)
                    · refine lv_iload hx hb dL_best_165 (lv_at hl 7 rfl) ?_
                      refine lv_istore (lv' := [(4, .int mm), (3, .int ff), (10, .int 0), (9, .int 0), (8, .int (lfd (((3 * pl) + b2) / 3) ((lwy vp vb vg ((3 * pl) + b2) cn) - 10))), (7, .int ((lwy vp vb vg ((3 * pl) + b2) cn) - 10)), (6, .int (nI ((3 * pl) + b2))), (5, .int (nI b2)), (0, .ref yp), (1, .ref yb), (2, .ref yg)]) hx hb dL_best_167 hl (by decide) rfl (fun ls hl => ?_)
                      refine lv_iinc (v := (nI b2) + Int32.ofInt (-1)) (lv' := [(5, .int ((nI b2) + Int32.ofInt (-1))), (4, .int mm), (3, .int ff), (10, .int 0), (9, .int 0), (8, .int (lfd (((3 * pl) + b2) / 3) ((lwy vp vb vg ((3 * pl) + b2) cn) - 10))), (7, .int ((lwy vp vb vg ((3 * pl) + b2) cn) - 10)), (6, .int (nI ((3 * pl) + b2))), (0, .ref yp), (1, .ref yb), (2, .ref yg)]) hx hb dL_best_169 hl (k := 7) rfl rfl (by decide) rfl (fun ls hl => ?_)
                      refine lv_goto (tgt := 9) hx hb dL_best_172 (by decide) ?_
                      have erk : lrk vp vb vg pl (3 * pl + b2) cn = 0 := by rw [lrk, lkd, if_neg c_658, if_neg (fun w => w.1 c_659), if_neg (by omega), lph, if_neg c_663]; first | rfl | decide
                      exact ih1 b2 ((nI b2) + Int32.ofInt (-1)) ff mm (by omega) (dec_sub b2) (by rw [show 3 - b2 = (3 - (b2 + 1)) + 1 by omega, lbs, show 2 - (3 - (b2 + 1)) = b2 by omega, ← hf, erk, if_pos (Or.inr c_667)]) (by omega) _ (lv_sub hl [0, 1, 2, 8, 9, 10] rfl)
                    · refine lv_iload hx hb dL_best_160 (lv_at hl 1 rfl) ?_
                      refine lv_goto (tgt := 167) hx hb dL_best_162 (by decide) ?_
                      refine lv_istore (lv' := [(4, .int 0), (3, .int ff), (10, .int 0), (9, .int 0), (8, .int (lfd (((3 * pl) + b2) / 3) ((lwy vp vb vg ((3 * pl) + b2) cn) - 10))), (7, .int ((lwy vp vb vg ((3 * pl) + b2) cn) - 10)), (6, .int (nI ((3 * pl) + b2))), (5, .int (nI b2)), (0, .ref yp), (1, .ref yb), (2, .ref yg)]) hx hb dL_best_167 hl (by decide) rfl (fun ls hl => ?_)
                      refine lv_iinc (v := (nI b2) + Int32.ofInt (-1)) (lv' := [(5, .int ((nI b2) + Int32.ofInt (-1))), (4, .int 0), (3, .int ff), (10, .int 0), (9, .int 0), (8, .int (lfd (((3 * pl) + b2) / 3) ((lwy vp vb vg ((3 * pl) + b2) cn) - 10))), (7, .int ((lwy vp vb vg ((3 * pl) + b2) cn) - 10)), (6, .int (nI ((3 * pl) + b2))), (0, .ref yp), (1, .ref yb), (2, .ref yg)]) hx hb dL_best_169 hl (k := 7) rfl rfl (by decide) rfl (fun ls hl => ?_)
                      refine lv_goto (tgt := 9) hx hb dL_best_172 (by decide) ?_
                      have erk : lrk vp vb vg pl (3 * pl + b2) cn = 0 := by rw [lrk, lkd, if_neg c_658, if_neg (fun w => w.1 c_659), if_neg (by omega), lph, if_neg c_663]; first | rfl | decide
                      exact absurd c_667 c_668
                  · refine lv_iload hx hb dL_best_146 (lv_at hl 5 rfl) ?_
                    refine lv_goto (tgt := 152) hx hb dL_best_148 (by decide) ?_
                    refine lv_istore_n (lv' := [(3, .int (nI b2)), (10, .int 0), (9, .int 0), (8, .int (lfd (((3 * pl) + b2) / 3) ((lwy vp vb vg ((3 * pl) + b2) cn) - 10))), (7, .int ((lwy vp vb vg ((3 * pl) + b2) cn) - 10)), (6, .int (nI ((3 * pl) + b2))), (5, .int (nI b2)), (4, .int mm), (0, .ref yp), (1, .ref yb), (2, .ref yg)]) hx hb dL_best_152 rfl hl (by decide) rfl (fun ls hl => ?_)
                    refine lv_iload hx hb dL_best_153 (lv_at hl 1 rfl) ?_
                    refine lv_iload hx hb dL_best_155 (lv_at hl 7 rfl) ?_
                    refine lv_icmp_lt (tgt := 165) hx hb dL_best_157 (by decide) (fun c_669 => ?_) (fun c_669 => ?_)
                    · refine lv_iload hx hb dL_best_165 (lv_at hl 7 rfl) ?_
                      refine lv_istore (lv' := [(4, .int mm), (3, .int (nI b2)), (10, .int 0), (9, .int 0), (8, .int (lfd (((3 * pl) + b2) / 3) ((lwy vp vb vg ((3 * pl) + b2) cn) - 10))), (7, .int ((lwy vp vb vg ((3 * pl) + b2) cn) - 10)), (6, .int (nI ((3 * pl) + b2))), (5, .int (nI b2)), (0, .ref yp), (1, .ref yb), (2, .ref yg)]) hx hb dL_best_167 hl (by decide) rfl (fun ls hl => ?_)
                      refine lv_iinc (v := (nI b2) + Int32.ofInt (-1)) (lv' := [(5, .int ((nI b2) + Int32.ofInt (-1))), (4, .int mm), (3, .int (nI b2)), (10, .int 0), (9, .int 0), (8, .int (lfd (((3 * pl) + b2) / 3) ((lwy vp vb vg ((3 * pl) + b2) cn) - 10))), (7, .int ((lwy vp vb vg ((3 * pl) + b2) cn) - 10)), (6, .int (nI ((3 * pl) + b2))), (0, .ref yp), (1, .ref yb), (2, .ref yg)]) hx hb dL_best_169 hl (k := 7) rfl rfl (by decide) rfl (fun ls hl => ?_)
                      refine lv_goto (tgt := 9) hx hb dL_best_172 (by decide) ?_
                      have erk : lrk vp vb vg pl (3 * pl + b2) cn = 0 := by rw [lrk, lkd, if_neg c_658, if_neg (fun w => w.1 c_659), if_neg (by omega), lph, if_neg c_663]; first | rfl | decide
                      exact absurd c_669 c_667
                    · refine lv_iload hx hb dL_best_160 (lv_at hl 1 rfl) ?_
                      refine lv_goto (tgt := 167) hx hb dL_best_162 (by decide) ?_
                      refine lv_istore (lv' := [(4, .int 0), (3, .int (nI b2)), (10, .int 0), (9, .int 0), (8, .int (lfd (((3 * pl) + b2) / 3) ((lwy vp vb vg ((3 * pl) + b2) cn) - 10))), (7, .int ((lwy vp vb vg ((3 * pl) + b2) cn) - 10)), (6, .int (nI ((3 * pl) + b2))), (5, .int (nI b2)), (0, .ref yp), (1, .ref yb), (2, .ref yg)]) hx hb dL_best_167 hl (by decide) rfl (fun ls hl => ?_)
                      refine lv_iinc (v := (nI b2) + Int32.ofInt (-1)) (lv' := [(5, .int ((nI b2) + Int32.ofInt (-1))), (4, .int 0), (3, .int (nI b2)), (10, .int 0), (9, .int 0), (8, .int (lfd (((3 * pl) + b2) / 3) ((lwy vp vb vg ((3 * pl) + b2) cn) - 10))), (7, .int ((lwy vp vb vg ((3 * pl) + b2) cn) - 10)), (6, .int (nI ((3 * pl) + b2))), (0, .ref yp), (1, .ref yb), (2, .ref yg)]) hx hb dL_best_169 hl (k := 7) rfl rfl (by decide) rfl (fun ls hl => ?_)
                      refine lv_goto (tgt := 9) hx hb dL_best_172 (by decide) ?_
                      have erk : lrk vp vb vg pl (3 * pl + b2) cn = 0 := by rw [lrk, lkd, if_neg c_658, if_neg (fun w => w.1 c_659), if_neg (by omega), lph, if_neg c_663]; first | rfl | decide
                      exact ih1 b2 ((nI b2) + Int32.ofInt (-1)) (nI b2) 0 (by omega) (dec_sub b2) (by rw [show 3 - b2 = (3 - (b2 + 1)) + 1 by omega, lbs, show 2 - (3 - (b2 + 1)) = b2 by omega, ← hf, erk, if_neg (fun w => w.elim (fun z => absurd c_656 (Int32.not_le.mpr z)) c_667)]) (by omega) _ (lv_sub hl [0, 1, 2, 8, 9, 10] rfl)
              · refine lv_iconst (v := 1) hx hb dL_best_107 (by decide) ?_
                refine lv_goto (tgt := 112) hx hb dL_best_108 (by decide) ?_
                refine lv_istore (lv' := [(9, .int 1), (8, .int (lfd (((3 * pl) + b2) / 3) ((lwy vp vb vg ((3 * pl) + b2) cn) - 10))), (7, .int ((lwy vp vb vg ((3 * pl) + b2) cn) - 10)), (6, .int (nI ((3 * pl) + b2))), (5, .int (nI b2)), (4, .int mm), (3, .int ff), (0, .ref yp), (1, .ref yb), (2, .ref yg)]) hx hb dL_best_112 hl (by decide) rfl (fun ls hl => ?_)
                refine lv_bipush (v := 64) hx hb dL_best_114 (by decide) ?_
                refine lv_iload hx hb dL_best_116 (lv_at hl 0 rfl) ?_
                refine zi_mul hx hb 64 1 dL_best_118 rfl rfl ?_
                refine lv_aload_n hx hb dL_best_119 rfl (lv_at hl 7 rfl) ?_
                refine lv_iload hx hb dL_best_120 (lv_at hl 3 rfl) ?_
                refine za_ld hx hb hK.1 hP 0 0 rfl rfl ((3 * pl) + b2) rfl (by omega) (by decide) dL_best_122 ?_
                refine lv_if_ge (tgt := 130) hx hb dL_best_123 (by decide) (fun c_670 => ?_) (fun c_670 => ?_)
                · refine lv_aload_n hx hb dL_best_130 rfl (lv_at hl 7 rfl) ?_
                  refine lv_iload hx hb dL_best_131 (lv_at hl 3 rfl) ?_
                  refine za_ld hx hb hK.1 hP 0 0 rfl rfl ((3 * pl) + b2) rfl (by omega) (by decide) dL_best_133 ?_
                  refine lv_iconst (v := 1) hx hb dL_best_134 (by decide) ?_
                  refine lv_iadd hx hb dL_best_135 ?_
                  refine lv_iadd hx hb dL_best_136 ?_
                  refine lv_istore (lv' := [(10, .int (64 + ((vp ((3 * pl) + b2)) + 1))), (9, .int 1), (8, .int (lfd (((3 * pl) + b2) / 3) ((lwy vp vb vg ((3 * pl) + b2) cn) - 10))), (7, .int ((lwy vp vb vg ((3 * pl) + b2) cn) - 10)), (6, .int (nI ((3 * pl) + b2))), (5, .int (nI b2)), (4, .int mm), (3, .int ff), (0, .ref yp), (1, .ref yb), (2, .ref yg)]) hx hb dL_best_137 hl (by decide) rfl (fun ls hl => ?_)
                  refine lv_iload hx hb dL_best_139 (lv_at hl 0 rfl) ?_
                  refine lv_iload hx hb dL_best_141 (lv_at hl 6 rfl) ?_
                  refine lv_icmp_lt (tgt := 151) hx hb dL_best_143 (by decide) (fun c_671 => ?_) (fun c_671 => ?_)
                  · refine lv_iload_n hx hb dL_best_151 rfl (lv_at hl 7 rfl) ?_
                    refine lv_istore_n (lv' := [(3, .int ff), (10, .int (64 + ((vp ((3 * pl) + b2)) + 1))), (9, .int 1), (8, .int (lfd (((3 * pl) + b2) / 3) ((lwy vp vb vg ((3 * pl) + b2) cn) - 10))), (7, .int ((lwy vp vb vg ((3 * pl) + b2) cn) - 10)), (6, .int (nI ((3 * pl) + b2))), (5, .int (nI b2)), (4, .int mm), (0, .ref yp), (1, .ref yb), (2, .ref yg)]) hx hb dL_best_152 rfl hl (by decide) rfl (fun ls hl => ?_)
                    refine lv_iload hx hb dL_best_153 (lv_at hl 1 rfl) ?_
                    refine lv_iload hx hb dL_best_155 (lv_at hl 7 rfl) ?_
                    refine lv_icmp_lt (tgt := 165) hx hb dL_best_157 (by decide) (fun c_672 => ?_) (fun c_672 => ?_)
                    · refine lv_iload hx hb dL_best_165 (lv_at hl 7 rfl) ?_
                      refine lv_istore (lv' := [(4, .int mm), (3, .int ff), (10, .int (64 + ((vp ((3 * pl) + b2)) + 1))), (9, .int 1), (8, .int (lfd (((3 * pl) + b2) / 3) ((lwy vp vb vg ((3 * pl) + b2) cn) - 10))), (7, .int ((lwy vp vb vg ((3 * pl) + b2) cn) - 10)), (6, .int (nI ((3 * pl) + b2))), (5, .int (nI b2)), (0, .ref yp), (1, .ref yb), (2, .ref yg)]) hx hb dL_best_167 hl (by decide) rfl (fun ls hl => ?_)
                      refine lv_iinc (v := (nI b2) + Int32.ofInt (-1)) (lv' := [(5, .int ((nI b2) + Int32.ofInt (-1))), (4, .int mm), (3, .int ff), (10, .int (64 + ((vp ((3 * pl) + b2)) + 1))), (9, .int 1), (8, .int (lfd (((3 * pl) + b2) / 3) ((lwy vp vb vg ((3 * pl) + b2) cn) - 10))), (7, .int ((lwy vp vb vg ((3 * pl) + b2) cn) - 10)), (6, .int (nI ((3 * pl) + b2))), (0, .ref yp), (1, .ref yb), (2, .ref yg)]) hx hb dL_best_169 hl (k := 7) rfl rfl (by decide) rfl (fun ls hl => ?_)
                      refine lv_goto (tgt := 9) hx hb dL_best_172 (by decide) ?_
                      have erk : lrk vp vb vg pl (3 * pl + b2) cn = 64 + ((vp ((3 * pl) + b2)) + 1) := by rw [lrk, lkd, if_neg c_658, if_neg (fun w => w.1 c_659), if_pos c_662, lph, if_pos c_670]; first | rfl | decide
                      exact ih1 b2 ((nI b2) + Int32.ofInt (-1)) ff mm (by omega) (dec_sub b2) (by rw [show 3 - b2 = (3 - (b2 + 1)) + 1 by omega, lbs, show 2 - (3 - (b2 + 1)) = b2 by omega, ← hf, erk, if_pos (Or.inr c_671)]) (by omega) _ (lv_sub hl [0, 1, 2, 8, 9, 10] rfl)
                    · refine lv_iload hx hb dL_best_160 (lv_at hl 1 rfl) ?_
                      refine lv_goto (tgt := 167) hx hb dL_best_162 (by decide) ?_
                      refine lv_istore (lv' := [(4, .int (64 + ((vp ((3 * pl) + b2)) + 1))), (3, .int ff), (10, .int (64 + ((vp ((3 * pl) + b2)) + 1))), (9, .int 1), (8, .int (lfd (((3 * pl) + b2) / 3) ((lwy vp vb vg ((3 * pl) + b2) cn) - 10))), (7, .int ((lwy vp vb vg ((3 * pl) + b2) cn) - 10)), (6, .int (nI ((3 * pl) + b2))), (5, .int (nI b2)), (0, .ref yp), (1, .ref yb), (2, .ref yg)]) hx hb dL_best_167 hl (by decide) rfl (fun ls hl => ?_)
                      refine lv_iinc (v := (nI b2) + Int32.ofInt (-1)) (lv' := [(5, .int ((nI b2) + Int32.ofInt (-1))), (4, .int (64 + ((vp ((3 * pl) + b2)) + 1))), (3, .int ff), (10, .int (64 + ((vp ((3 * pl) + b2)) + 1))), (9, .int 1), (8, .int (lfd (((3 * pl) + b2) / 3) ((lwy vp vb vg ((3 * pl) + b2) cn) - 10))), (7, .int ((lwy vp vb vg ((3 * pl) + b2) cn) - 10)), (6, .int (nI ((3 * pl) + b2))), (0, .ref yp), (1, .ref yb), (2, .ref yg)]) hx hb dL_best_169 hl (k := 7) rfl rfl (by decide) rfl (fun ls hl => ?_)
                      refine lv_goto (tgt := 9) hx hb dL_best_172 (by decide) ?_
                      have erk : lrk vp vb vg pl (3 * pl + b2) cn = 64 + ((vp ((3 * pl) + b2)) + 1) := by rw [lrk, lkd, if_neg c_658, if_neg (fun w => w.1 c_659), if_pos c_662, lph, if_pos c_670]; first | rfl | decide
                      exact absurd c_671 c_672
                  · refine lv_iload hx hb dL_best_146 (lv_at hl 5 rfl) ?_
                    refine lv_goto (tgt := 152) hx hb dL_best_148 (by decide) ?_
                    refine lv_istore_n (lv' := [(3, .int (nI b2)), (10, .int (64 + ((vp ((3 * pl) + b2)) + 1))), (9, .int 1), (8, .int (lfd (((3 * pl) + b2) / 3) ((lwy vp vb vg ((3 * pl) + b2) cn) - 10))), (7, .int ((lwy vp vb vg ((3 * pl) + b2) cn) - 10)), (6, .int (nI ((3 * pl) + b2))), (5, .int (nI b2)), (4, .int mm), (0, .ref yp), (1, .ref yb), (2, .ref yg)]) hx hb dL_best_152 rfl hl (by decide) rfl (fun ls hl => ?_)
                    refine lv_iload hx hb dL_best_153 (lv_at hl 1 rfl) ?_
                    refine lv_iload hx hb dL_best_155 (lv_at hl 7 rfl) ?_
                    refine lv_icmp_lt (tgt := 165) hx hb dL_best_157 (by decide) (fun c_673 => ?_) (fun c_673 => ?_)
                    · refine lv_iload hx hb dL_best_165 (lv_at hl 7 rfl) ?_
                      refine lv_istore (lv' := [(4, .int mm), (3, .int (nI b2)), (10, .int (64 + ((vp ((3 * pl) + b2)) + 1))), (9, .int 1), (8, .int (lfd (((3 * pl) + b2) / 3) ((lwy vp vb vg ((3 * pl) + b2) cn) - 10))), (7, .int ((lwy vp vb vg ((3 * pl) + b2) cn) - 10)), (6, .int (nI ((3 * pl) + b2))), (5, .int (nI b2)), (0, .ref yp), (1, .ref yb), (2, .ref yg)]) hx hb dL_best_167 hl (by decide) rfl (fun ls hl => ?_)
                      refine lv_iinc (v := (nI b2) + Int32.ofInt (-1)) (lv' := [(5, .int ((nI b2) + Int32.ofInt (-1))), (4, .int mm), (3, .int (nI b2)), (10, .int (64 + ((vp ((3 * pl) + b2)) + 1))), (9, .int 1), (8, .int (lfd (((3 * pl) + b2) / 3) ((lwy vp vb vg ((3 * pl) + b2) cn) - 10))), (7, .int ((lwy vp vb vg ((3 * pl) + b2) cn) - 10)), (6, .int (nI ((3 * pl) + b2))), (0, .ref yp), (1, .ref yb), (2, .ref yg)]) hx hb dL_best_169 hl (k := 7) rfl rfl (by decide) rfl (fun ls hl => ?_)
                      refine lv_goto (tgt := 9) hx hb dL_best_172 (by decide) ?_
                      have erk : lrk vp vb vg pl (3 * pl + b2) cn = 64 + ((vp ((3 * pl) + b2)) + 1) := by rw [lrk, lkd, if_neg c_658, if_neg (fun w => w.1 c_659), if_pos c_662, lph, if_pos c_670]; first | rfl | decide
                      exact absurd c_673 c_671
                    · refine lv_iload hx hb dL_best_160 (lv_at hl 1 rfl) ?_
                      refine lv_goto (tgt := 167) hx hb dL_best_162 (by decide) ?_
                      refine lv_istore (lv' := [(4, .int (64 + ((vp ((3 * pl) + b2)) + 1))), (3, .int (nI b2)), (10, .int (64 + ((vp ((3 * pl) + b2)) + 1))), (9, .int 1), (8, .int (lfd (((3 * pl) + b2) / 3) ((lwy vp vb vg ((3 * pl) + b2) cn) - 10))), (7, .int ((lwy vp vb vg ((3 * pl) + b2) cn) - 10)), (6, .int (nI ((3 * pl) + b2))), (5, .int (nI b2)), (0, .ref yp), (1, .ref yb), (2, .ref yg)]) hx hb dL_best_167 hl (by decide) rfl (fun ls hl => ?_)
                      refine lv_iinc (v := (nI b2) + Int32.ofInt (-1)) (lv' := [(5, .int ((nI b2) + Int32.ofInt (-1))), (4, .int (64 + ((vp ((3 * pl) + b2)) + 1))), (3, .int (nI b2)), (10, .int (64 + ((vp ((3 * pl) + b2)) + 1))), (9, .int 1), (8, .int (lfd (((3 * pl) + b2) / 3) ((lwy vp vb vg ((3 * pl) + b2) cn) - 10))), (7, .int ((lwy vp vb vg ((3 * pl) + b2) cn) - 10)), (6, .int (nI ((3 * pl) + b2))), (0, .ref yp), (1, .ref yb), (2, .ref yg)]) hx hb dL_best_169 hl (k := 7) rfl rfl (by decide) rfl (fun ls hl => ?_)
                      refine lv_goto (tgt := 9) hx hb dL_best_172 (by decide) ?_
                      have erk : lrk vp vb vg pl (3 * pl + b2) cn = 64 + ((vp ((3 * pl) + b2)) + 1) := by rw [lrk, lkd, if_neg c_658, if_neg (fun w => w.1 c_659), if_pos c_662, lph, if_pos c_670]; first | rfl | decide
                      exact ih1 b2 ((nI b2) + Int32.ofInt (-1)) (nI b2) (64 + ((vp ((3 * pl) + b2)) + 1)) (by omega) (dec_sub b2) (by rw [show 3 - b2 = (3 - (b2 + 1)) + 1 by omega, lbs, show 2 - (3 - (b2 + 1)) = b2 by omega, ← hf, erk, if_neg (fun w => w.elim (fun z => absurd c_656 (Int32.not_le.mpr z)) c_671)]) (by omega) _ (lv_sub hl [0, 1, 2, 8, 9, 10] rfl)
                · refine lv_iconst (v := 0) hx hb dL_best_126 (by decide) ?_
                  refine lv_goto (tgt := 136) hx hb dL_best_127 (by decide) ?_
                  refine zi_add hx hb 64 0 dL_best_136 rfl rfl ?_
                  refine lv_istore (lv' := [(10, .int 64), (9, .int 1), (8, .int (lfd (((3 * pl) + b2) / 3) ((lwy vp vb vg ((3 * pl) + b2) cn) - 10))), (7, .int ((lwy vp vb vg ((3 * pl) + b2) cn) - 10)), (6, .int (nI ((3 * pl) + b2))), (5, .int (nI b2)), (4, .int mm), (3, .int ff), (0, .ref yp), (1, .ref yb), (2, .ref yg)]) hx hb dL_best_137 hl (by decide) rfl (fun ls hl => ?_)
                  refine lv_iload hx hb dL_best_139 (lv_at hl 0 rfl) ?_
                  refine lv_iload hx hb dL_best_141 (lv_at hl 6 rfl) ?_
                  refine lv_icmp_lt (tgt := 151) hx hb dL_best_143 (by decide) (fun c_674 => ?_) (fun c_674 => ?_)
                  · refine lv_iload_n hx hb dL_best_151 rfl (lv_at hl 7 rfl) ?_
                    refine lv_istore_n (lv' := [(3, .int ff), (10, .int 64), (9, .int 1), (8, .int (lfd (((3 * pl) + b2) / 3) ((lwy vp vb vg ((3 * pl) + b2) cn) - 10))), (7, .int ((lwy vp vb vg ((3 * pl) + b2) cn) - 10)), (6, .int (nI ((3 * pl) + b2))), (5, .int (nI b2)), (4, .int mm), (0, .ref yp), (1, .ref yb), (2, .ref yg)]) hx hb dL_best_152 rfl hl (by decide) rfl (fun ls hl => ?_)
                    refine lv_iload hx hb dL_best_153 (lv_at hl 1 rfl) ?_
                    refine lv_iload hx hb dL_best_155 (lv_at hl 7 rfl) ?_
                    refine lv_icmp_lt (tgt := 165) hx hb dL_best_157 (by decide) (fun c_675 => ?_) (fun c_675 => ?_)
                    · refine lv_iload hx hb dL_best_165 (lv_at hl 7 rfl) ?_
                      refine lv_istore (lv' := [(4, .int mm), (3, .int ff), (10, .int 64), (9, .int 1), (8, .int (lfd (((3 * pl) + b2) / 3) ((lwy vp vb vg ((3 * pl) + b2) cn) - 10))), (7, .int ((lwy vp vb vg ((3 * pl) + b2) cn) - 10)), (6, .int (nI ((3 * pl) + b2))), (5, .int (nI b2)), (0, .ref yp), (1, .ref yb), (2, .ref yg)]) hx hb dL_best_167 hl (by decide) rfl (fun ls hl => ?_)
                      refine lv_iinc (v := (nI b2) + Int32.ofInt (-1)) (lv' := [(5, .int ((nI b2) + Int32.ofInt (-1))), (4, .int mm), (3, .int ff), (10, .int 64), (9, .int 1), (8, .int (lfd (((3 * pl) + b2) / 3) ((lwy vp vb vg ((3 * pl) + b2) cn) - 10))), (7, .int ((lwy vp vb vg ((3 * pl) + b2) cn) - 10)), (6, .int (nI ((3 * pl) + b2))), (0, .ref yp), (1, .ref yb), (2, .ref yg)]) hx hb dL_best_169 hl (k := 7) rfl rfl (by decide) rfl (fun ls hl => ?_)
                      refine lv_goto (tgt := 9) hx hb dL_best_172 (by decide) ?_
                      have erk : lrk vp vb vg pl (3 * pl + b2) cn = 64 := by rw [lrk, lkd, if_neg c_658, if_neg (fun w => w.1 c_659), if_pos c_662, lph, if_neg c_670]; first | rfl | decide
                      exact ih1 b2 ((nI b2) + Int32.ofInt (-1)) ff mm (by omega) (dec_sub b2) (by rw [show 3 - b2 = (3 - (b2 + 1)) + 1 by omega, lbs, show 2 - (3 - (b2 + 1)) = b2 by omega, ← hf, erk, if_pos (Or.inr c_674)]) (by omega) _ (lv_sub hl [0, 1, 2, 8, 9, 10] rfl)
                    · refine lv_iload hx hb dL_best_160 (lv_at hl 1 rfl) ?_
                      refine lv_goto (tgt := 167) hx hb dL_best_162 (by decide) ?_
                      refine lv_istore (lv' := [(4, .int 64), (3, .int ff), (10, .int 64), (9, .int 1), (8, .int (lfd (((3 * pl) + b2) / 3) ((lwy vp vb vg ((3 * pl) + b2) cn) - 10))), (7, .int ((lwy vp vb vg ((3 * pl) + b2) cn) - 10)), (6, .int (nI ((3 * pl) + b2))), (5, .int (nI b2)), (0, .ref yp), (1, .ref yb), (2, .ref yg)]) hx hb dL_best_167 hl (by decide) rfl (fun ls hl => ?_)
                      refine lv_iinc (v := (nI b2) + Int32.ofInt (-1)) (lv' := [(5, .int ((nI b2) + Int32.ofInt (-1))), (4, .int 64), (3, .int ff), (10, .int 64), (9, .int 1), (8, .int (lfd (((3 * pl) + b2) / 3) ((lwy vp vb vg ((3 * pl) + b2) cn) - 10))), (7, .int ((lwy vp vb vg ((3 * pl) + b2) cn) - 10)), (6, .int (nI ((3 * pl) + b2))), (0, .ref yp), (1, .ref yb), (2, .ref yg)]) hx hb dL_best_169 hl (k := 7) rfl rfl (by decide) rfl (fun ls hl => ?_)
                      refine lv_goto (tgt := 9) hx hb dL_best_172 (by decide) ?_
                      have erk : lrk vp vb vg pl (3 * pl + b2) cn = 64 := by rw [lrk, lkd, if_neg c_658, if_neg (fun w => w.1 c_659), if_pos c_662, lph, if_neg c_670]; first | rfl | decide
                      exact absurd c_674 c_675
                  · refine lv_iload hx hb dL_best_146 (lv_at hl 5 rfl) ?_
                    refine lv_goto (tgt := 152) hx hb dL_best_148 (by decide) ?_
                    refine lv_istore_n (lv' := [(3, .int (nI b2)), (10, .int 64), (9, .int 1), (8, .int (lfd (((3 * pl) + b2) / 3) ((lwy vp vb vg ((3 * pl) + b2) cn) - 10))), (7, .int ((lwy vp vb vg ((3 * pl) + b2) cn) - 10)), (6, .int (nI ((3 * pl) + b2))), (5, .int (nI b2)), (4, .int mm), (0, .ref yp), (1, .ref yb), (2, .ref yg)]) hx hb dL_best_152 rfl hl (by decide) rfl (fun ls hl => ?_)
                    refine lv_iload hx hb dL_best_153 (lv_at hl 1 rfl) ?_
                    refine lv_iload hx hb dL_best_155 (lv_at hl 7 rfl) ?_
                    refine lv_icmp_lt (tgt := 165) hx hb dL_best_157 (by decide) (fun c_676 => ?_) (fun c_676 => ?_)
                    · refine lv_iload hx hb dL_best_165 (lv_at hl 7 rfl) ?_
                      refine lv_istore (lv' := [(4, .int mm), (3, .int (nI b2)), (10, .int 64), (9, .int 1), (8, .int (lfd (((3 * pl) + b2) / 3) ((lwy vp vb vg ((3 * pl) + b2) cn) - 10))), (7, .int ((lwy vp vb vg ((3 * pl) + b2) cn) - 10)), (6, .int (nI ((3 * pl) + b2))), (5, .int (nI b2)), (0, .ref yp), (1, .ref yb), (2, .ref yg)]) hx hb dL_best_167 hl (by decide) rfl (fun ls hl => ?_)
                      refine lv_iinc (v := (nI b2) + Int32.ofInt (-1)) (lv' := [(5, .int ((nI b2) + Int32.ofInt (-1))), (4, .int mm), (3, .int (nI b2)), (10, .int 64), (9, .int 1), (8, .int (lfd (((3 * pl) + b2) / 3) ((lwy vp vb vg ((3 * pl) + b2) cn) - 10))), (7, .int ((lwy vp vb vg ((3 * pl) + b2) cn) - 10)), (6, .int (nI ((3 * pl) + b2))), (0, .ref yp), (1, .ref yb), (2, .ref yg)]) hx hb dL_best_169 hl (k := 7) rfl rfl (by decide) rfl (fun ls hl => ?_)
                      refine lv_goto (tgt := 9) hx hb dL_best_172 (by decide) ?_
                      have erk : lrk vp vb vg pl (3 * pl + b2) cn = 64 := by rw [lrk, lkd, if_neg c_658, if_neg (fun w => w.1 c_659), if_pos c_662, lph, if_neg c_670]; first | rfl | decide
                      exact absurd c_676 c_674
                    · refine lv_iload hx hb dL_best_160 (lv_at hl 1 rfl) ?_
                      refine lv_goto (tgt := 167) hx hb dL_best_162 (by decide) ?_
                      refine lv_istore (lv' := [(4, .int 64), (3, .int (nI b2)), (10, .int 64), (9, .int 1), (8, .int (lfd (((3 * pl) + b2) / 3) ((lwy vp vb vg ((3 * pl) + b2) cn) - 10))), (7, .int ((lwy vp vb vg ((3 * pl) + b2) cn) - 10)), (6, .int (nI ((3 * pl) + b2))), (5, .int (nI b2)), (0, .ref yp), (1, .ref yb), (2, .ref yg)]) hx hb dL_best_167 hl (by decide) rfl (fun ls hl => ?_)
                      refine lv_iinc (v := (nI b2) + Int32.ofInt (-1)) (lv' := [(5, .int ((nI b2) + Int32.ofInt (-1))), (4, .int 64), (3, .int (nI b2)), (10, .int 64), (9, .int 1), (8, .int (lfd (((3 * pl) + b2) / 3) ((lwy vp vb vg ((3 * pl) + b2) cn) - 10))), (7, .int ((lwy vp vb vg ((3 * pl) + b2) cn) - 10)), (6, .int (nI ((3 * pl) + b2))), (0, .ref yp), (1, .ref yb), (2, .ref yg)]) hx hb dL_best_169 hl (k := 7) rfl rfl (by decide) rfl (fun ls hl => ?_)
                      refine lv_goto (tgt := 9) hx hb dL_best_172 (by decide) ?_
                      have erk : lrk vp vb vg pl (3 * pl + b2) cn = 64 := by rw [lrk, lkd, if_neg c_658, if_neg (fun w => w.1 c_659), if_pos c_662, lph, if_neg c_670]; first | rfl | decide
                      exact ih1 b2 ((nI b2) + Int32.ofInt (-1)) (nI b2) 64 (by omega) (dec_sub b2) (by rw [show 3 - b2 = (3 - (b2 + 1)) + 1 by omega, lbs, show 2 - (3 - (b2 + 1)) = b2 by omega, ← hf, erk, if_neg (fun w => w.elim (fun z => absurd c_656 (Int32.not_le.mpr z)) c_674)]) (by omega) _ (lv_sub hl [0, 1, 2, 8, 9, 10] rfl)
            · refine lv_aload_n hx hb dL_best_73 rfl (lv_at hl 6 rfl) ?_
              refine lv_iload hx hb dL_best_74 (lv_at hl 0 rfl) ?_
              have hPc := hP.sub (ws' := [(yp, .inl (cI, 12, .inl vp))]) [0] rfl
              have hDc := (hD0.sub (ws' := [(yp, .inl (cI, 12, .inl vp))]) [0] (by decide) rfl).tt
              refine vp_callSi (va_Run.run (va_runS (As := [.ref yp, .int (lfd (((3 * pl) + b2) / 3) ((lwy vp vb vg ((3 * pl) + b2) cn) - 10))]) (rest := []) ⟨hx, hb, hml, hown, hts⟩ (c_L_all l G cI cC cZ cG s.heap.size yp vp (lfd (((3 * pl) + b2) / 3) ((lwy vp vb vg ((3 * pl) + b2) cn) - 10))) (cf_RL_29 hts ⟨Nat.le_of_ble_eq_true rfl, Nat.le_of_ble_eq_true rfl⟩) (pre_S hK hPc hDc) rfl rfl hl.1 rfl (lv_room (Nat.le_of_ble_eq_true rfl)) dL_best_76 ⟨Nat.le_of_ble_eq_true rfl, Nat.le_of_ble_eq_true rfl⟩)) (fun r677 hr677 => ?_)
              subst hr677
              have hf678 := (@ao_le vp (lfd (((3 * pl) + b2) / 3) ((lwy vp vb vg ((3 * pl) + b2) cn) - 10)) 4)
              refine lv_aload_n hx hb dL_best_79 rfl (lv_at hl 6 rfl) ?_
              refine lv_aload_n hx hb dL_best_80 rfl (lv_at hl 8 rfl) ?_
              refine lv_iconst (v := 4) hx hb dL_best_81 (by decide) ?_
              refine za_ld hx hb hK.1 hP 2 0 rfl rfl 4 rfl (by decide) (by decide) dL_best_82 ?_
              refine lv_iload hx hb dL_best_83 (lv_at hl 0 rfl) ?_
              rw [h4]
              have hPc := hP.sub (ws' := [(yp, .inl (cI, 12, .inl vp))]) [0] rfl
              have hDc := (hD0.sub (ws' := [(yp, .inl (cI, 12, .inl vp))]) [0] (by decide) rfl).tt
              refine vp_callSi (va_Run.run (va_runS (As := [.ref yp, .int (nI pl), .int (lfd (((3 * pl) + b2) / 3) ((lwy vp vb vg ((3 * pl) + b2) cn) - 10))]) (rest := [.int (nI (ao vp (lfd (((3 * pl) + b2) / 3) ((lwy vp vb vg ((3 * pl) + b2) cn) - 10)) 4))]) ⟨hx, hb, hml, hown, hts⟩ (c_L_on l G cI cC cZ cG s.heap.size yp vp pl (lfd (((3 * pl) + b2) / 3) ((lwy vp vb vg ((3 * pl) + b2) cn) - 10)) (by omega)) (cf_RL_15 hts ⟨Nat.le_of_ble_eq_true rfl, Nat.le_of_ble_eq_true rfl⟩) (pre_S hK hPc hDc) rfl rfl hl.1 rfl (lv_room (Nat.le_of_ble_eq_true rfl)) dL_best_85 ⟨Nat.le_of_ble_eq_true rfl, Nat.le_of_ble_eq_true rfl⟩)) (fun r679 hr679 => ?_)
              subst hr679
              have hf680 := (@mpc_le vp pl (lfd (((3 * pl) + b2) / 3) ((lwy vp vb vg ((3 * pl) + b2) cn) - 10)))
              refine zi_le (tgt := 95) hx hb (ao vp (lfd (((3 * pl) + b2) / 3) ((lwy vp vb vg ((3 * pl) + b2) cn) - 10)) 4) (mpc vp pl (lfd (((3 * pl) + b2) / 3) ((lwy vp vb vg ((3 * pl) + b2) cn) - 10))) dL_best_88 (by decide) rfl rfl (by omega) (by omega) (fun c_681 => ?_) (fun c_681 => ?_)
              · refine lv_aload_n hx hb dL_best_95 rfl (lv_at hl 6 rfl) ?_
                refine lv_aload_n hx hb dL_best_96 rfl (lv_at hl 8 rfl) ?_
                refine lv_iconst (v := 4) hx hb dL_best_97 (by decide) ?_
                refine za_ld hx hb hK.1 hP 2 0 rfl rfl 4 rfl (by decide) (by decide) dL_best_98 ?_
                refine lv_iload hx hb dL_best_99 (lv_at hl 0 rfl) ?_
                rw [h4]
                have hPc := hP.sub (ws' := [(yp, .inl (cI, 12, .inl vp))]) [0] rfl
                have hDc := (hD0.sub (ws' := [(yp, .inl (cI, 12, .inl vp))]) [0] (by decide) rfl).tt
                refine vp_callSi (va_Run.run (va_runS (As := [.ref yp, .int (nI pl), .int (lfd (((3 * pl) + b2) / 3) ((lwy vp vb vg ((3 * pl) + b2) cn) - 10))]) (rest := []) ⟨hx, hb, hml, hown, hts⟩ (c_L_on l G cI cC cZ cG s.heap.size yp vp pl (lfd (((3 * pl) + b2) / 3) ((lwy vp vb vg ((3 * pl) + b2) cn) - 10)) (by omega)) (cf_RL_15 hts ⟨Nat.le_of_ble_eq_true rfl, Nat.le_of_ble_eq_true rfl⟩) (pre_S hK hPc hDc) rfl rfl hl.1 rfl (lv_room (Nat.le_of_ble_eq_true rfl)) dL_best_101 ⟨Nat.le_of_ble_eq_true rfl, Nat.le_of_ble_eq_true rfl⟩)) (fun r682 hr682 => ?_)
                subst hr682
                have hf683 := (@mpc_le vp pl (lfd (((3 * pl) + b2) / 3) ((lwy vp vb vg ((3 * pl) + b2) cn) - 10)))
                refine z0_le (tgt := 111) hx hb (mpc vp pl (lfd (((3 * pl) + b2) / 3) ((lwy vp vb vg ((3 * pl) + b2) cn) - 10))) dL_best_104 (by decide) rfl (by omega) (fun c_684 => ?_) (fun c_684 => ?_)
                · refine lv_iconst (v := 0) hx hb dL_best_111 (by decide) ?_
                  refine lv_istore (lv' := [(9, .int 0), (8, .int (lfd (((3 * pl) + b2) / 3) ((lwy vp vb vg ((3 * pl) + b2) cn) - 10))), (7, .int ((lwy vp vb vg ((3 * pl) + b2) cn) - 10)), (6, .int (nI ((3 * pl) + b2))), (5, .int (nI b2)), (4, .int mm), (3, .int ff), (0, .ref yp), (1, .ref yb), (2, .ref yg)]) hx hb dL_best_112 hl (by decide) rfl (fun ls hl => ?_)
                  refine lv_bipush (v := 64) hx hb dL_best_114 (by decide) ?_
                  refine lv_iload hx hb dL_best_116 (lv_at hl 0 rfl) ?_
                  refine zi_mul hx hb 64 0 dL_best_118 rfl rfl ?_
                  refine lv_aload_n hx hb dL_best_119 rfl (lv_at hl 7 rfl) ?_
                  refine lv_iload hx hb dL_best_120 (lv_at hl 3 rfl) ?_
                  refine za_ld hx hb hK.1 hP 0 0 rfl rfl ((3 * pl) + b2) rfl (by omega) (by decide) dL_best_122 ?_
                  refine lv_if_ge (tgt := 130) hx hb dL_best_123 (by decide) (fun c_685 => ?_) (fun c_685 => ?_)
                  · refine lv_aload_n hx hb dL_best_130 rfl (lv_at hl 7 rfl) ?_
                    refine lv_iload hx hb dL_best_131 (lv_at hl 3 rfl) ?_
                    refine za_ld hx hb hK.1 hP 0 0 rfl rfl ((3 * pl) + b2) rfl (by omega) (by decide) dL_best_133 ?_
                    refine lv_iconst (v := 1) hx hb dL_best_134 (by decide) ?_
                    refine lv_iadd hx hb dL_best_135 ?_
                    refine lv_iadd hx hb dL_best_136 ?_
                    refine lv_istore (lv' := [(10, .int (0 + ((vp ((3 * pl) + b2)) + 1))), (9, .int 0), (8, .int (lfd (((3 * pl) + b2) / 3) ((lwy vp vb vg ((3 * pl) + b2) cn) - 10))), (7, .int ((lwy vp vb vg ((3 * pl) + b2) cn) - 10)), (6, .int (nI ((3 * pl) + b2))), (5, .int (nI b2)), (4, .int mm), (3, .int ff), (0, .ref yp), (1, .ref yb), (2, .ref yg)]) hx hb dL_best_137 hl (by decide) rfl (fun ls hl => ?_)
                    refine lv_iload hx hb dL_best_139 (lv_at hl 0 rfl) ?_
                    refine lv_iload hx hb dL_best_141 (lv_at hl 6 rfl) ?_
                    refine lv_icmp_lt (tgt := 151) hx hb dL_best_143 (by decide) (fun c_686 => ?_) (fun c_686 => ?_)
                    · refine lv_iload_n hx hb dL_best_151 rfl (lv_at hl 7 rfl) ?_
                      refine lv_istore_n (lv' := [(3, .int ff), (10, .int (0 + ((vp ((3 * pl) + b2)) + 1))), (9, .int 0), (8, .int (lfd (((3 * pl) + b2) / 3) ((lwy vp vb vg ((3 * pl) + b2) cn) - 10))), (7, .int ((lwy vp vb vg ((3 * pl) + b2) cn) - 10)), (6, .int (nI ((3 * pl) + b2))), (5, .int (nI b2)), (4, .int mm), (0, .ref yp), (1, .ref yb), (2, .ref yg)]) hx hb dL_best_152 rfl hl (by decide) rfl (fun ls hl => ?_)
                      refine lv_iload hx hb dL_best_153 (lv_at hl 1 rfl) ?_
                      refine lv_iload hx hb dL_best_155 (lv_at hl 7 rfl) ?_
                      refine lv_icmp_lt (tgt := 165) hx hb dL_best_157 (by decide) (fun c_687 => ?_) (fun c_687 => ?_)
                      · refine lv_iload hx hb dL_best_165 (lv_at hl 7 rfl) ?_
                        refine lv_istore (lv' := [(4, .int mm), (3, .int ff), (10, .int (0 + ((vp ((3 * pl) + b2)) + 1))), (9, .int 0), (8, .int (lfd (((3 * pl) + b2) / 3) ((lwy vp vb vg ((3 * pl) + b2) cn) - 10))), (7, .int ((lwy vp vb vg ((3 * pl) + b2) cn) - 10)), (6, .int (nI ((3 * pl) + b2))), (5, .int (nI b2)), (0, .ref yp), (1, .ref yb), (2, .ref yg)]) hx hb dL_best_167 hl (by decide) rfl (fun ls hl => ?_)
                        refine lv_iinc (v := (nI b2) + Int32.ofInt (-1)) (lv' := [(5, .int ((nI b2) + Int32.ofInt (-1))), (4, .int mm), (3, .int ff), (10, .int (0 + ((vp ((3 * pl) + b2)) + 1))), (9, .int 0), (8, .int (lfd (((3 * pl) + b2) / 3) ((lwy vp vb vg ((3 * pl) + b2) cn) - 10))), (7, .int ((lwy vp vb vg ((3 * pl) + b2) cn) - 10)), (6, .int (nI ((3 * pl) + b2))), (0, .ref yp), (1, .ref yb), (2, .ref yg)]) hx hb dL_best_169 hl (k := 7) rfl rfl (by decide) rfl (fun ls hl => ?_)
                        refine lv_goto (tgt := 9) hx hb dL_best_172 (by decide) ?_
                        have erk : lrk vp vb vg pl (3 * pl + b2) cn = 0 + ((vp ((3 * pl) + b2)) + 1) := by rw [lrk, lkd, if_neg c_658, if_neg (fun w => absurd w.2 (by omega)), if_neg (by omega), lph, if_pos c_685]; first | rfl | decide
                        exact ih1 b2 ((nI b2) + Int32.ofInt (-1)) ff mm (by omega) (dec_sub b2) (by rw [show 3 - b2 = (3 - (b2 + 1)) + 1 by omega, lbs, show 2 - (3 - (b2 + 1)) = b2 by omega, ← hf, erk, if_pos (Or.inr c_686)]) (by omega) _ (lv_sub hl [0, 1, 2, 8, 9, 10] rfl)
                      · refine lv_iload hx hb dL_best_160 (lv_at hl 1 rfl) ?_
                        refine lv_goto (tgt := 167) hx hb dL_best_162 (by decide) ?_
                        refine lv_istore (lv' := [(4, .int (0 + ((vp ((3 * pl) + b2)) + 1))), (3, .int ff), (10, .int (0 + ((vp ((3 * pl) + b2)) + 1))), (9, .int 0), (8, .int (lfd (((3 * pl) + b2) / 3) ((lwy vp vb vg ((3 * pl) + b2) cn) - 10))), (7, .int ((lwy vp vb vg ((3 * pl) + b2) cn) - 10)), (6, .int (nI ((3 * pl) + b2))), (5, .int (nI b2)), (0, .ref yp), (1, .ref yb), (2, .ref yg)]) hx hb dL_best_167 hl (by decide) rfl (fun ls hl => ?_)
                        refine lv_iinc (v := (nI b2) + Int32.ofInt (-1)) (lv' := [(5, .int ((nI b2) + Int32.ofInt (-1))), (4, .int (0 + ((vp ((3 * pl) + b2)) + 1))), (3, .int ff), (10, .int (0 + ((vp ((3 * pl) + b2)) + 1))), (9, .int 0), (8, .int (lfd (((3 * pl) + b2) / 3) ((lwy vp vb vg ((3 * pl) + b2) cn) - 10))), (7, .int ((lwy vp vb vg ((3 * pl) + b2) cn) - 10)), (6, .int (nI ((3 * pl) + b2))), (0, .ref yp), (1, .ref yb), (2, .ref yg)]) hx hb dL_best_169 hl (k := 7) rfl rfl (by decide) rfl (fun ls hl => ?_)
                        refine lv_goto (tgt := 9) hx hb dL_best_172 (by decide) ?_
                        have erk : lrk vp vb vg pl (3 * pl + b2) cn = 0 + ((vp ((3 * pl) + b2)) + 1) := by rw [lrk, lkd, if_neg c_658, if_neg (fun w => absurd w.2 (by omega)), if_neg (by omega), lph, if_pos c_685]; first | rfl | decide
                        exact absurd c_686 c_687
                    · refine lv_iload hx hb dL_best_146 (lv_at hl 5 rfl) ?_
                      refine lv_goto (tgt := 152) hx hb dL_best_148 (by decide) ?_
                      refine lv_istore_n (lv' := [(3, .int (nI b2)), (10, .int (0 + ((vp ((3 * pl) + b2)) + 1))), (9, .int 0), (8, .int (lfd (((3 * pl) + b2) / 3) ((lwy vp vb vg ((3 * pl) + b2) cn) - 10))), (7, .int ((lwy vp vb vg ((3 * pl) + b2) cn) - 10)), (6, .int (nI ((3 * pl) + b2))), (5, .int (nI b2)), (4, .int mm), (0, .ref yp), (1, .ref yb), (2, .ref yg)]) hx hb dL_best_152 rfl hl (by decide) rfl (fun ls hl => ?_)
                      refine lv_iload hx hb dL_best_153 (lv_at hl 1 rfl) ?_
                      refine lv_iload hx hb dL_best_155 (lv_at hl 7 rfl) ?_
                      refine lv_icmp_lt (tgt := 165) hx hb dL_best_157 (by decide) (fun c_688 => ?_) (fun c_688 => ?_)
                      · refine lv_iload hx hb dL_best_165 (lv_at hl 7 rfl) ?_
                        refine lv_istore (lv' := [(4, .int mm), (3, .int (nI b2)), (10, .int (0 + ((vp ((3 * pl) + b2)) + 1))), (9, .int 0), (8, .int (lfd (((3 * pl) + b2) / 3) ((lwy vp vb vg ((3 * pl) + b2) cn) - 10))), (7, .int ((lwy vp vb vg ((3 * pl) + b2) cn) - 10)), (6, .int (nI ((3 * pl) + b2))), (5, .int (nI b2)), (0, .ref yp), (1, .ref yb), (2, .ref yg)]) hx hb dL_best_167 hl (by decide) rfl (fun ls hl => ?_)
                        refine lv_iinc (v := (nI b2) + Int32.ofInt (-1)) (lv' := [(5, .int ((nI b2) + Int32.ofInt (-1))), (4, .int mm), (3, .int (nI b2)), (10, .int (0 + ((vp ((3 * pl) + b2)) + 1))), (9, .int 0), (8, .int (lfd (((3 * pl) + b2) / 3) ((lwy vp vb vg ((3 * pl) + b2) cn) - 10))), (7, .int ((lwy vp vb vg ((3 * pl) + b2) cn) - 10)), (6, .int (nI ((3 * pl) + b2))), (0, .ref yp), (1, .ref yb), (2, .ref yg)]) hx hb dL_best_169 hl (k := 7) rfl rfl (by decide) rfl (fun ls hl => ?_)
                        refine lv_goto (tgt := 9) hx hb dL_best_172 (by decide) ?_
                        have erk : lrk vp vb vg pl (3 * pl + b2) cn = 0 + ((vp ((3 * pl) + b2)) + 1) := by rw [lrk, lkd, if_neg c_658, if_neg (fun w => absurd w.2 (by omega)), if_neg (by omega), lph, if_pos c_685]; first | rfl | decide
                        exact absurd c_688 c_686
                      · refine lv_iload hx hb dL_best_160 (lv_at hl 1 rfl) ?_
                        refine lv_goto (tgt := 167) hx hb dL_best_162 (by decide) ?_
                        refine lv_istore (lv' := [(4, .int (0 + ((vp ((3 * pl) + b2)) + 1))), (3, .int (nI b2)), (10, .int (0 + ((vp ((3 * pl) + b2)) + 1))), (9, .int 0), (8, .int (lfd (((3 * pl) + b2) / 3) ((lwy vp vb vg ((3 * pl) + b2) cn) - 10))), (7, .int ((lwy vp vb vg ((3 * pl) + b2) cn) - 10)), (6, .int (nI ((3 * pl) + b2))), (5, .int (nI b2)), (0, .ref yp), (1, .ref yb), (2, .ref yg)]) hx hb dL_best_167 hl (by decide) rfl (fun ls hl => ?_)
                        refine lv_iinc (v := (nI b2) + Int32.ofInt (-1)) (lv' := [(5, .int ((nI b2) + Int32.ofInt (-1))), (4, .int (0 + ((vp ((3 * pl) + b2)) + 1))), (3, .int (nI b2)), (10, .int (0 + ((vp ((3 * pl) + b2)) + 1))), (9, .int 0), (8, .int (lfd (((3 * pl) + b2) / 3) ((lwy vp vb vg ((3 * pl) + b2) cn) - 10))), (7, .int ((lwy vp vb vg ((3 * pl) + b2) cn) - 10)), (6, .int (nI ((3 * pl) + b2))), (0, .ref yp), (1, .ref yb), (2, .ref yg)]) hx hb dL_best_169 hl (k := 7) rfl rfl (by decide) rfl (fun ls hl => ?_)
                        refine lv_goto (tgt := 9) hx hb dL_best_172 (by decide) ?_
                        have erk : lrk vp vb vg pl (3 * pl + b2) cn = 0 + ((vp ((3 * pl) + b2)) + 1) := by rw [lrk, lkd, if_neg c_658, if_neg (fun w => absurd w.2 (by omega)), if_neg (by omega), lph, if_pos c_685]; first | rfl | decide
                        exact ih1 b2 ((nI b2) + Int32.ofInt (-1)) (nI b2) (0 + ((vp ((3 * pl) + b2)) + 1)) (by omega) (dec_sub b2) (by rw [show 3 - b2 = (3 - (b2 + 1)) + 1 by omega, lbs, show 2 - (3 - (b2 + 1)) = b2 by omega, ← hf, erk, if_neg (fun w => w.elim (fun z => absurd c_656 (Int32.not_le.mpr z)) c_686)]) (by omega) _ (lv_sub hl [0, 1, 2, 8, 9, 10] rfl)
                  · refine lv_iconst (v := 0) hx hb dL_best_126 (by decide) ?_
                    refine lv_goto (tgt := 136) hx hb dL_best_127 (by decide) ?_
                    refine zi_add hx hb 0 0 dL_best_136 rfl rfl ?_
                    refine lv_istore (lv' := [(10, .int 0), (9, .int 0), (8, .int (lfd (((3 * pl) + b2) / 3) ((lwy vp vb vg ((3 * pl) + b2) cn) - 10))), (7, .int ((lwy vp vb vg ((3 * pl) + b2) cn) - 10)), (6, .int (nI ((3 * pl) + b2))), (5, .int (nI b2)), (4, .int mm), (3, .int ff), (0, .ref yp), (1, .ref yb), (2, .ref yg)]) hx hb dL_best_137 hl (by decide) rfl (fun ls hl => ?_)
                    refine lv_iload hx hb dL_best_139 (lv_at hl 0 rfl) ?_
                    refine lv_iload hx hb dL_best_141 (lv_at hl 6 rfl) ?_
                    refine lv_icmp_lt (tgt := 151) hx hb dL_best_143 (by decide) (fun c_689 => ?_) (fun c_689 => ?_)
                    · refine lv_iload_n hx hb dL_best_151 rfl (lv_at hl 7 rfl) ?_
                      refine lv_istore_n (lv' := [(3, .int ff), (10, .int 0), (9, .int 0), (8, .int (lfd (((3 * pl) + b2) / 3) ((lwy vp vb vg ((3 * pl) + b2) cn) - 10))), (7, .int ((lwy vp vb vg ((3 * pl) + b2) cn) - 10)), (6, .int (nI ((3 * pl) + b2))), (5, .int (nI b2)), (4, .int mm), (0, .ref yp), (1, .ref yb), (2, .ref yg)]) hx hb dL_best_152 rfl hl (by decide) rfl (fun ls hl => ?_)
                      refine lv_iload hx hb dL_best_153 (lv_at hl 1 rfl) ?_
                      refine lv_iload hx hb dL_best_155 (lv_at hl 7 rfl) ?_
                      refine lv_icmp_lt (tgt := 165) hx hb dL_best_157 (by decide) (fun c_690 => ?_) (fun c_690 => ?_)
                      · refine lv_iload hx hb dL_best_165 (lv_at hl 7 rfl) ?_
                        refine lv_istore (lv' := [(4, .int mm), (3, .int ff), (10, .int 0), (9, .int 0), (8, .int (lfd (((3 * pl) + b2) / 3) ((lwy vp vb vg ((3 * pl) + b2) cn) - 10))), (7, .int ((lwy vp vb vg ((3 * pl) + b2) cn) - 10)), (6, .int (nI ((3 * pl) + b2))), (5, .int (nI b2)), (0, .ref yp), (1, .ref yb), (2, .ref yg)]) hx hb dL_best_167 hl (by decide) rfl (fun ls hl => ?_)
                        refine lv_iinc (v := (nI b2) + Int32.ofInt (-1)) (lv' := [(5, .int ((nI b2) + Int32.ofInt (-1))), (4, .int mm), (3, .int ff), (10, .int 0), (9, .int 0), (8, .int (lfd (((3 * pl) + b2) / 3) ((lwy vp vb vg ((3 * pl) + b2) cn) - 10))), (7, .int ((lwy vp vb vg ((3 * pl) + b2) cn) - 10)), (6, .int (nI ((3 * pl) + b2))), (0, .ref yp), (1, .ref yb), (2, .ref yg)]) hx hb dL_best_169 hl (k := 7) rfl rfl (by decide) rfl (fun ls hl => ?_)
                        refine lv_goto (tgt := 9) hx hb dL_best_172 (by decide) ?_
                        have erk : lrk vp vb vg pl (3 * pl + b2) cn = 0 := by rw [lrk, lkd, if_neg c_658, if_neg (fun w => absurd w.2 (by omega)), if_neg (by omega), lph, if_neg c_685]; first | rfl | decide
                        exact ih1 b2 ((nI b2) + Int32.ofInt (-1)) ff mm (by omega) (dec_sub b2) (by rw [show 3 - b2 = (3 - (b2 + 1)) + 1 by omega, lbs, show 2 - (3 - (b2 + 1)) = b2 by omega, ← hf, erk, if_pos (Or.inr c_689)]) (by omega) _ (lv_sub hl [0, 1, 2, 8, 9, 10] rfl)
                      · refine lv_iload hx hb dL_best_160 (lv_at hl 1 rfl) ?_
                        refine lv_goto (tgt := 167) hx hb dL_best_162 (by decide) ?_
                        refine lv_istore (lv' := [(4, .int 0), (3, .int ff), (10, .int 0), (9, .int 0), (8, .int (lfd (((3 * pl) + b2) / 3) ((lwy vp vb vg ((3 * pl) + b2) cn) - 10))), (7, .int ((lwy vp vb vg ((3 * pl) + b2) cn) - 10)), (6, .int (nI ((3 * pl) + b2))), (5, .int (nI b2)), (0, .ref yp), (1, .ref yb), (2, .ref yg)]) hx hb dL_best_167 hl (by decide) rfl (fun ls hl => ?_)
                        refine lv_iinc (v := (nI b2) + Int32.ofInt (-1)) (lv' := [(5, .int ((nI b2) + Int32.ofInt (-1))), (4, .int 0), (3, .int ff), (10, .int 0), (9, .int 0), (8, .int (lfd (((3 * pl) + b2) / 3) ((lwy vp vb vg ((3 * pl) + b2) cn) - 10))), (7, .int ((lwy vp vb vg ((3 * pl) + b2) cn) - 10)), (6, .int (nI ((3 * pl) + b2))), (0, .ref yp), (1, .ref yb), (2, .ref yg)]) hx hb dL_best_169 hl (k := 7) rfl rfl (by decide) rfl (fun ls hl => ?_)
                        refine lv_goto (tgt := 9) hx hb dL_best_172 (by decide) ?_
                        have erk : lrk vp vb vg pl (3 * pl + b2) cn = 0 := by rw [lrk, lkd, if_neg c_658, if_neg (fun w => absurd w.2 (by omega)), if_neg (by omega), lph, if_neg c_685]; first | rfl | decide
                        exact absurd c_689 c_690
                    · refine lv_iload hx hb dL_best_146 (lv_at hl 5 rfl) ?_
                      refine lv_goto (tgt := 152) hx hb dL_best_148 (by decide) ?_
                      refine lv_istore_n (lv' := [(3, .int (nI b2)), (10, .int 0), (9, .int 0), (8, .int (lfd (((3 * pl) + b2) / 3) ((lwy vp vb vg ((3 * pl) + b2) cn) - 10))), (7, .int ((lwy vp vb vg ((3 * pl) + b2) cn) - 10)), (6, .int (nI ((3 * pl) + b2))), (5, .int (nI b2)), (4, .int mm), (0, .ref yp), (1, .ref yb), (2, .ref yg)]) hx hb dL_best_152 rfl hl (by decide) rfl (fun ls hl => ?_)
                      refine lv_iload hx hb dL_best_153 (lv_at hl 1 rfl) ?_
                      refine lv_iload hx hb dL_best_155 (lv_at hl 7 rfl) ?_
                      refine lv_icmp_lt (tgt := 165) hx hb dL_best_157 (by decide) (fun c_691 => ?_) (fun c_691 => ?_)
                      · refine lv_iload hx hb dL_best_165 (lv_at hl 7 rfl) ?_
                        refine lv_istore (lv' := [(4, .int mm), (3, .int (nI b2)), (10, .int 0), (9, .int 0), (8, .int (lfd (((3 * pl) + b2) / 3) ((lwy vp vb vg ((3 * pl) + b2) cn) - 10))), (7, .int ((lwy vp vb vg ((3 * pl) + b2) cn) - 10)), (6, .int (nI ((3 * pl) + b2))), (5, .int (nI b2)), (0, .ref yp), (1, .ref yb), (2, .ref yg)]) hx hb dL_best_167 hl (by decide) rfl (fun ls hl => ?_)
                        refine lv_iinc (v := (nI b2) + Int32.ofInt (-1)) (lv' := [(5, .int ((nI b2) + Int32.ofInt (-1))), (4, .int mm), (3, .int (nI b2)), (10, .int 0), (9, .int 0), (8, .int (lfd (((3 * pl) + b2) / 3) ((lwy vp vb vg ((3 * pl) + b2) cn) - 10))), (7, .int ((lwy vp vb vg ((3 * pl) + b2) cn) - 10)), (6, .int (nI ((3 * pl) + b2))), (0, .ref yp), (1, .ref yb), (2, .ref yg)]) hx hb dL_best_169 hl (k := 7) rfl rfl (by decide) rfl (fun ls hl => ?_)
                        refine lv_goto (tgt := 9) hx hb dL_best_172 (by decide) ?_
                        have erk : lrk vp vb vg pl (3 * pl + b2) cn = 0 := by rw [lrk, lkd, if_neg c_658, if_neg (fun w => absurd w.2 (by omega)), if_neg (by omega), lph, if_neg c_685]; first | rfl | decide
                        exact absurd c_691 c_689
                      · refine lv_iload hx hb dL_best_160 (lv_at hl 1 rfl) ?_
                        refine lv_goto (tgt := 167) hx hb dL_best_162 (by decide) ?_
                        refine lv_istore (lv' := [(4, .int 0), (3, .int (nI b2)), (10, .int 0), (9, .int 0), (8, .int (lfd (((3 * pl) + b2) / 3) ((lwy vp vb vg ((3 * pl) + b2) cn) - 10))), (7, .int ((lwy vp vb vg ((3 * pl) + b2) cn) - 10)), (6, .int (nI ((3 * pl) + b2))), (5, .int (nI b2)), (0, .ref yp), (1, .ref yb), (2, .ref yg)]) hx hb dL_best_167 hl (by decide) rfl (fun ls hl => ?_)
                        refine lv_iinc (v := (nI b2) + Int32.ofInt (-1)) (lv' := [(5, .int ((nI b2) + Int32.ofInt (-1))), (4, .int 0), (3, .int (nI b2)), (10, .int 0), (9, .int 0), (8, .int (lfd (((3 * pl) + b2) / 3) ((lwy vp vb vg ((3 * pl) + b2) cn) - 10))), (7, .int ((lwy vp vb vg ((3 * pl) + b2) cn) - 10)), (6, .int (nI ((3 * pl) + b2))), (0, .ref yp), (1, .ref yb), (2, .ref yg)]) hx hb dL_best_169 hl (k := 7) rfl rfl (by decide) rfl (fun ls hl => ?_)
                        refine lv_goto (tgt := 9) hx hb dL_best_172 (by decide) ?_
                        have erk : lrk vp vb vg pl (3 * pl + b2) cn = 0 := by rw [lrk, lkd, if_neg c_658, if_neg (fun w => absurd w.2 (by omega)), if_neg (by omega), lph, if_neg c_685]; first | rfl | decide
                        exact ih1 b2 ((nI b2) + Int32.ofInt (-1)) (nI b2) 0 (by omega) (dec_sub b2) (by rw [show 3 - b2 = (3 - (b2 + 1)) + 1 by omega, lbs, show 2 - (3 - (b2 + 1)) = b2 by omega, ← hf, erk, if_neg (fun w => w.elim (fun z => absurd c_656 (Int32.not_le.mpr z)) c_689)]) (by omega) _ (lv_sub hl [0, 1, 2, 8, 9, 10] rfl)
                · refine lv_iconst (v := 1) hx hb dL_best_107 (by decide) ?_
                  refine lv_goto (tgt := 112) hx hb dL_best_108 (by decide) ?_
                  refine lv_istore (lv' := [(9, .int 1), (8, .int (lfd (((3 * pl) + b2) / 3) ((lwy vp vb vg ((3 * pl) + b2) cn) - 10))), (7, .int ((lwy vp vb vg ((3 * pl) + b2) cn) - 10)), (6, .int (nI ((3 * pl) + b2))), (5, .int (nI b2)), (4, .int mm), (3, .int ff), (0, .ref yp), (1, .ref yb), (2, .ref yg)]) hx hb dL_best_112 hl (by decide) rfl (fun ls hl => ?_)
                  refine lv_bipush (v := 64) hx hb dL_best_114 (by decide) ?_
                  refine lv_iload hx hb dL_best_116 (lv_at hl 0 rfl) ?_
                  refine zi_mul hx hb 64 1 dL_best_118 rfl rfl ?_
                  refine lv_aload_n hx hb dL_best_119 rfl (lv_at hl 7 rfl) ?_
                  refine lv_iload hx hb dL_best_120 (lv_at hl 3 rfl) ?_
                  refine za_ld hx hb hK.1 hP 0 0 rfl rfl ((3 * pl) + b2) rfl (by omega) (by decide) dL_best_122 ?_
                  refine lv_if_ge (tgt := 130) hx hb dL_best_123 (by decide) (fun c_692 => ?_) (fun c_692 => ?_)
                  · refine lv_aload_n hx hb dL_best_130 rfl (lv_at hl 7 rfl) ?_
                    refine lv_iload hx hb dL_best_131 (lv_at hl 3 rfl) ?_
                    refine za_ld hx hb hK.1 hP 0 0 rfl rfl ((3 * pl) + b2) rfl (by omega) (by decide) dL_best_133 ?_
                    refine lv_iconst (v := 1) hx hb dL_best_134 (by decide) ?_
                    refine lv_iadd hx hb dL_best_135 ?_
                    refine lv_iadd hx hb dL_best_136 ?_
                    refine lv_istore (lv' := [(10, .int (64 + ((vp ((3 * pl) + b2)) + 1))), (9, .int 1), (8, .int (lfd (((3 * pl) + b2) / 3) ((lwy vp vb vg ((3 * pl) + b2) cn) - 10))), (7, .int ((lwy vp vb vg ((3 * pl) + b2) cn) - 10)), (6, .int (nI ((3 * pl) + b2))), (5, .int (nI b2)), (4, .int mm), (3, .int ff), (0, .ref yp), (1, .ref yb), (2, .ref yg)]) hx hb dL_best_137 hl (by decide) rfl (fun ls hl => ?_)
                    refine lv_iload hx hb dL_best_139 (lv_at hl 0 rfl) ?_
                    refine lv_iload hx hb dL_best_141 (lv_at hl 6 rfl) ?_
                    refine lv_icmp_lt (tgt := 151) hx hb dL_best_143 (by decide) (fun c_693 => ?_) (fun c_693 => ?_)
                    · refine lv_iload_n hx hb dL_best_151 rfl (lv_at hl 7 rfl) ?_
                      refine lv_istore_n (lv' := [(3, .int ff), (10, .int (64 + ((vp ((3 * pl) + b2)) + 1))), (9, .int 1), (8, .int (lfd (((3 * pl) + b2) / 3) ((lwy vp vb vg ((3 * pl) + b2) cn) - 10))), (7, .int ((lwy vp vb vg ((3 * pl) + b2) cn) - 10)), (6, .int (nI ((3 * pl) + b2))), (5, .int (nI b2)), (4, .int mm), (0, .ref yp), (1, .ref yb), (2, .ref yg)]) hx hb dL_best_152 rfl hl (by decide) rfl (fun ls hl => ?_)
                      refine lv_iload hx hb dL_best_153 (lv_at hl 1 rfl) ?_
                      refine lv_iload hx hb dL_best_155 (lv_at hl 7 rfl) ?_
                      refine lv_icmp_lt (tgt := 165) hx hb dL_best_157 (by decide) (fun c_694 => ?_) (fun c_694 => ?_)
                      · refine lv_iload hx hb dL_best_165 (lv_at hl 7 rfl) ?_
                        refine lv_istore (lv' := [(4, .int mm), (3, .int ff), (10, .int (64 + ((vp ((3 * pl) + b2)) + 1))), (9, .int 1), (8, .int (lfd (((3 * pl) + b2) / 3) ((lwy vp vb vg ((3 * pl) + b2) cn) - 10))), (7, .int ((lwy vp vb vg ((3 * pl) + b2) cn) - 10)), (6, .int (nI ((3 * pl) + b2))), (5, .int (nI b2)), (0, .ref yp), (1, .ref yb), (2, .ref yg)]) hx hb dL_best_167 hl (by decide) rfl (fun ls hl => ?_)
                        refine lv_iinc (v := (nI b2) + Int32.ofInt (-1)) (lv' := [(5, .int ((nI b2) + Int32.ofInt (-1))), (4, .int mm), (3, .int ff), (10, .int (64 + ((vp ((3 * pl) + b2)) + 1))), (9, .int 1), (8, .int (lfd (((3 * pl) + b2) / 3) ((lwy vp vb vg ((3 * pl) + b2) cn) - 10))), (7, .int ((lwy vp vb vg ((3 * pl) + b2) cn) - 10)), (6, .int (nI ((3 * pl) + b2))), (0, .ref yp), (1, .ref yb), (2, .ref yg)]) hx hb dL_best_169 hl (k := 7) rfl rfl (by decide) rfl (fun ls hl => ?_)
                        refine lv_goto (tgt := 9) hx hb dL_best_172 (by decide) ?_
                        have erk : lrk vp vb vg pl (3 * pl + b2) cn = 64 + ((vp ((3 * pl) + b2)) + 1) := by rw [lrk, lkd, if_neg c_658, if_neg (fun w => absurd w.2 (by omega)), if_pos c_684, lph, if_pos c_692]; first | rfl | decide
                        exact ih1 b2 ((nI b2) + Int32.ofInt (-1)) ff mm (by omega) (dec_sub b2) (by rw [show 3 - b2 = (3 - (b2 + 1)) + 1 by omega, lbs, show 2 - (3 - (b2 + 1)) = b2 by omega, ← hf, erk, if_pos (Or.inr c_693)]) (by omega) _ (lv_sub hl [0, 1, 2, 8, 9, 10] rfl)
                      · refine lv_iload hx hb dL_best_160 (lv_at hl 1 rfl) ?_
                        refine lv_goto (tgt := 167) hx hb dL_best_162 (by decide) ?_
                        refine lv_istore (lv' := [(4, .int (64 + ((vp ((3 * pl) + b2)) + 1))), (3, .int ff), (10, .int (64 + ((vp ((3 * pl) + b2)) + 1))), (9, .int 1), (8, .int (lfd (((3 * pl) + b2) / 3) ((lwy vp vb vg ((3 * pl) + b2) cn) - 10))), (7, .int ((lwy vp vb vg ((3 * pl) + b2) cn) - 10)), (6, .int (nI ((3 * pl) + b2))), (5, .int (nI b2)), (0, .ref yp), (1, .ref yb), (2, .ref yg)]) hx hb dL_best_167 hl (by decide) rfl (fun ls hl => ?_)
                        refine lv_iinc (v := (nI b2) + Int32.ofInt (-1)) (lv' := [(5, .int ((nI b2) + Int32.ofInt (-1))), (4, .int (64 + ((vp ((3 * pl) + b2)) + 1))), (3, .int ff), (10, .int (64 + ((vp ((3 * pl) + b2)) + 1))), (9, .int 1), (8, .int (lfd (((3 * pl) + b2) / 3) ((lwy vp vb vg ((3 * pl) + b2) cn) - 10))), (7, .int ((lwy vp vb vg ((3 * pl) + b2) cn) - 10)), (6, .int (nI ((3 * pl) + b2))), (0, .ref yp), (1, .ref yb), (2, .ref yg)]) hx hb dL_best_169 hl (k := 7) rfl rfl (by decide) rfl (fun ls hl => ?_)
                        refine lv_goto (tgt := 9) hx hb dL_best_172 (by decide) ?_
                        have erk : lrk vp vb vg pl (3 * pl + b2) cn = 64 + ((vp ((3 * pl) + b2)) + 1) := by rw [lrk, lkd, if_neg c_658, if_neg (fun w => absurd w.2 (by omega)), if_pos c_684, lph, if_pos c_692]; first | rfl | decide
                        exact absurd c_693 c_694
                    · refine lv_iload hx hb dL_best_146 (lv_at hl 5 rfl) ?_
                      refine lv_goto (tgt := 152) hx hb dL_best_148 (by decide) ?_
                      refine lv_istore_n (lv' := [(3, .int (nI b2)), (10, .int (64 + ((vp ((3 * pl) + b2)) + 1))), (9, .int 1), (8, .int (lfd (((3 * pl) + b2) / 3) ((lwy vp vb vg ((3 * pl) + b2) cn) - 10))), (7, .int ((lwy vp vb vg ((3 * pl) + b2) cn) - 10)), (6, .int (nI ((3 * pl) + b2))), (5, .int (nI b2)), (4, .int mm), (0, .ref yp), (1, .ref yb), (2, .ref yg)]) hx hb dL_best_152 rfl hl (by decide) rfl (fun ls hl => ?_)
                      refine lv_iload hx hb dL_best_153 (lv_at hl 1 rfl) ?_
                      refine lv_iload hx hb dL_best_155 (lv_at hl 7 rfl) ?_
                      refine lv_icmp_lt (tgt := 165) hx hb dL_best_157 (by decide) (fun c_695 => ?_) (fun c_695 => ?_)
                      · refine lv_iload hx hb dL_best_165 (lv_at hl 7 rfl) ?_
                        refine lv_istore (lv' := [(4, .int mm), (3, .int (nI b2)), (10, .int (64 + ((vp ((3 * pl) + b2)) + 1))), (9, .int 1), (8, .int (lfd (((3 * pl) + b2) / 3) ((lwy vp vb vg ((3 * pl) + b2) cn) - 10))), (7, .int ((lwy vp vb vg ((3 * pl) + b2) cn) - 10)), (6, .int (nI ((3 * pl) + b2))), (5, .int (nI b2)), (0, .ref yp), (1, .ref yb), (2, .ref yg)]) hx hb dL_best_167 hl (by decide) rfl (fun ls hl => ?_)
                        refine lv_iinc (v := (nI b2) + Int32.ofInt (-1)) (lv' := [(5, .int ((nI b2) + Int32.ofInt (-1))), (4, .int mm), (3, .int (nI b2)), (10, .int (64 + ((vp ((3 * pl) + b2)) + 1))), (9, .int 1), (8, .int (lfd (((3 * pl) + b2) / 3) ((lwy vp vb vg ((3 * pl) + b2) cn) - 10))), (7, .int ((lwy vp vb vg ((3 * pl) + b2) cn) - 10)), (6, .int (nI ((3 * pl) + b2))), (0, .ref yp), (1, .ref yb), (2, .ref yg)]) hx hb dL_best_169 hl (k := 7) rfl rfl (by decide) rfl (fun ls hl => ?_)
                        refine lv_goto (tgt := 9) hx hb dL_best_172 (by decide) ?_
                        have erk : lrk vp vb vg pl (3 * pl + b2) cn = 64 + ((vp ((3 * pl) + b2)) + 1) := by rw [lrk, lkd, if_neg c_658, if_neg (fun w => absurd w.2 (by omega)), if_pos c_684, lph, if_pos c_692]; first | rfl | decide
                        exact absurd c_695 c_693
                      · refine lv_iload hx hb dL_best_160 (lv_at hl 1 rfl) ?_
                        refine lv_goto (tgt := 167) hx hb dL_best_162 (by decide) ?_
                        refine lv_istore (lv' := [(4, .int (64 + ((vp ((3 * pl) + b2)) + 1))), (3, .int (nI b2)), (10, .int (64 + ((vp ((3 * pl) + b2)) + 1))), (9, .int 1), (8, .int (lfd (((3 * pl) + b2) / 3) ((lwy vp vb vg ((3 * pl) + b2) cn) - 10))), (7, .int ((lwy vp vb vg ((3 * pl) + b2) cn) - 10)), (6, .int (nI ((3 * pl) + b2))), (5, .int (nI b2)), (0, .ref yp), (1, .ref yb), (2, .ref yg)]) hx hb dL_best_167 hl (by decide) rfl (fun ls hl => ?_)
                        refine lv_iinc (v := (nI b2) + Int32.ofInt (-1)) (lv' := [(5, .int ((nI b2) + Int32.ofInt (-1))), (4, .int (64 + ((vp ((3 * pl) + b2)) + 1))), (3, .int (nI b2)), (10, .int (64 + ((vp ((3 * pl) + b2)) + 1))), (9, .int 1), (8, .int (lfd (((3 * pl) + b2) / 3) ((lwy vp vb vg ((3 * pl) + b2) cn) - 10))), (7, .int ((lwy vp vb vg ((3 * pl) + b2) cn) - 10)), (6, .int (nI ((3 * pl) + b2))), (0, .ref yp), (1, .ref yb), (2, .ref yg)]) hx hb dL_best_169 hl (k := 7) rfl rfl (by decide) rfl (fun ls hl => ?_)
                        refine lv_goto (tgt := 9) hx hb dL_best_172 (by decide) ?_
                        have erk : lrk vp vb vg pl (3 * pl + b2) cn = 64 + ((vp ((3 * pl) + b2)) + 1) := by rw [lrk, lkd, if_neg c_658, if_neg (fun w => absurd w.2 (by omega)), if_pos c_684, lph, if_pos c_692]; first | rfl | decide
                        exact ih1 b2 ((nI b2) + Int32.ofInt (-1)) (nI b2) (64 + ((vp ((3 * pl) + b2)) + 1)) (by omega) (dec_sub b2) (by rw [show 3 - b2 = (3 - (b2 + 1)) + 1 by omega, lbs, show 2 - (3 - (b2 + 1)) = b2 by omega, ← hf, erk, if_neg (fun w => w.elim (fun z => absurd c_656 (Int32.not_le.mpr z)) c_693)]) (by omega) _ (lv_sub hl [0, 1, 2, 8, 9, 10] rfl)
                  · refine lv_iconst (v := 0) hx hb dL_best_126 (by decide) ?_
                    refine lv_goto (tgt := 136) hx hb dL_best_127 (by decide) ?_
                    refine zi_add hx hb 64 0 dL_best_136 rfl rfl ?_
                    refine lv_istore (lv' := [(10, .int 64), (9, .int 1), (8, .int (lfd (((3 * pl) + b2) / 3) ((lwy vp vb vg ((3 * pl) + b2) cn) - 10))), (7, .int ((lwy vp vb vg ((3 * pl) + b2) cn) - 10)), (6, .int (nI ((3 * pl) + b2))), (5, .int (nI b2)), (4, .int mm), (3, .int ff), (0, .ref yp), (1, .ref yb), (2, .ref yg)]) hx hb dL_best_137 hl (by decide) rfl (fun ls hl => ?_)
                    refine lv_iload hx hb dL_best_139 (lv_at hl 0 rfl) ?_
                    refine lv_iload hx hb dL_best_141 (lv_at hl 6 rfl) ?_
                    refine lv_icmp_lt (tgt := 151) hx hb dL_best_143 (by decide) (fun c_696 => ?_) (fun c_696 => ?_)
                    · refine lv_iload_n hx hb dL_best_151 rfl (lv_at hl 7 rfl) ?_
                      refine lv_istore_n (lv' := [(3, .int ff), (10, .int 64), (9, .int 1), (8, .int (lfd (((3 * pl) + b2) / 3) ((lwy vp vb vg ((3 * pl) + b2) cn) - 10))), (7, .int ((lwy vp vb vg ((3 * pl) + b2) cn) - 10)), (6, .int (nI ((3 * pl) + b2))), (5, .int (nI b2)), (4, .int mm), (0, .ref yp), (1, .ref yb), (2, .ref yg)]) hx hb dL_best_152 rfl hl (by decide) rfl (fun ls hl => ?_)
                      refine lv_iload hx hb dL_best_153 (lv_at hl 1 rfl) ?_
                      refine lv_iload hx hb dL_best_155 (lv_at hl 7 rfl) ?_
                      refine lv_icmp_lt (tgt := 165) hx hb dL_best_157 (by decide) (fun c_697 => ?_) (fun c_697 => ?_)
                      · refine lv_iload hx hb dL_best_165 (lv_at hl 7 rfl) ?_
                        refine lv_istore (lv' := [(4, .int mm), (3, .int ff), (10, .int 64), (9, .int 1), (8, .int (lfd (((3 * pl) + b2) / 3) ((lwy vp vb vg ((3 * pl) + b2) cn) - 10))), (7, .int ((lwy vp vb vg ((3 * pl) + b2) cn) - 10)), (6, .int (nI ((3 * pl) + b2))), (5, .int (nI b2)), (0, .ref yp), (1, .ref yb), (2, .ref yg)]) hx hb dL_best_167 hl (by decide) rfl (fun ls hl => ?_)
                        refine lv_iinc (v := (nI b2) + Int32.ofInt (-1)) (lv' := [(5, .int ((nI b2) + Int32.ofInt (-1))), (4, .int mm), (3, .int ff), (10, .int 64), (9, .int 1), (8, .int (lfd (((3 * pl) + b2) / 3) ((lwy vp vb vg ((3 * pl) + b2) cn) - 10))), (7, .int ((lwy vp vb vg ((3 * pl) + b2) cn) - 10)), (6, .int (nI ((3 * pl) + b2))), (0, .ref yp), (1, .ref yb), (2, .ref yg)]) hx hb dL_best_169 hl (k := 7) rfl rfl (by decide) rfl (fun ls hl => ?_)
                        refine lv_goto (tgt := 9) hx hb dL_best_172 (by decide) ?_
                        have erk : lrk vp vb vg pl (3 * pl + b2) cn = 64 := by rw [lrk, lkd, if_neg c_658, if_neg (fun w => absurd w.2 (by omega)), if_pos c_684, lph, if_neg c_692]; first | rfl | decide
                        exact ih1 b2 ((nI b2) + Int32.ofInt (-1)) ff mm (by omega) (dec_sub b2) (by rw [show 3 - b2 = (3 - (b2 + 1)) + 1 by omega, lbs, show 2 - (3 - (b2 + 1)) = b2 by omega, ← hf, erk, if_pos (Or.inr c_696)]) (by omega) _ (lv_sub hl [0, 1, 2, 8, 9, 10] rfl)
                      · refine lv_iload hx hb dL_best_160 (lv_at hl 1 rfl) ?_
                        refine lv_goto (tgt := 167) hx hb dL_best_162 (by decide) ?_
                        refine lv_istore (lv' := [(4, .int 64), (3, .int ff), (10, .int 64), (9, .int 1), (8, .int (lfd (((3 * pl) + b2) / 3) ((lwy vp vb vg ((3 * pl) + b2) cn) - 10))), (7, .int ((lwy vp vb vg ((3 * pl) + b2) cn) - 10)), (6, .int (nI ((3 * pl) + b2))), (5, .int (nI b2)), (0, .ref yp), (1, .ref yb), (2, .ref yg)]) hx hb dL_best_167 hl (by decide) rfl (fun ls hl => ?_)
                        refine lv_iinc (v := (nI b2) + Int32.ofInt (-1)) (lv' := [(5, .int ((nI b2) + Int32.ofInt (-1))), (4, .int 64), (3, .int ff), (10, .int 64), (9, .int 1), (8, .int (lfd (((3 * pl) + b2) / 3) ((lwy vp vb vg ((3 * pl) + b2) cn) - 10))), (7, .int ((lwy vp vb vg ((3 * pl) + b2) cn) - 10)), (6, .int (nI ((3 * pl) + b2))), (0, .ref yp), (1, .ref yb), (2, .ref yg)]) hx hb dL_best_169 hl (k := 7) rfl rfl (by decide) rfl (fun ls hl => ?_)
                        refine lv_goto (tgt := 9) hx hb dL_best_172 (by decide) ?_
                        have erk : lrk vp vb vg pl (3 * pl + b2) cn = 64 := by rw [lrk, lkd, if_neg c_658, if_neg (fun w => absurd w.2 (by omega)), if_pos c_684, lph, if_neg c_692]; first | rfl | decide
                        exact absurd c_696 c_697
                    · refine lv_iload hx hb dL_best_146 (lv_at hl 5 rfl) ?_
                      refine lv_goto (tgt := 152) hx hb dL_best_148 (by decide) ?_
                      refine lv_istore_n (lv' := [(3, .int (nI b2)), (10, .int 64), (9, .int 1), (8, .int (lfd (((3 * pl) + b2) / 3) ((lwy vp vb vg ((3 * pl) + b2) cn) - 10))), (7, .int ((lwy vp vb vg ((3 * pl) + b2) cn) - 10)), (6, .int (nI ((3 * pl) + b2))), (5, .int (nI b2)), (4, .int mm), (0, .ref yp), (1, .ref yb), (2, .ref yg)]) hx hb dL_best_152 rfl hl (by decide) rfl (fun ls hl => ?_)
                      refine lv_iload hx hb dL_best_153 (lv_at hl 1 rfl) ?_
                      refine lv_iload hx hb dL_best_155 (lv_at hl 7 rfl) ?_
                      refine lv_icmp_lt (tgt := 165) hx hb dL_best_157 (by decide) (fun c_698 => ?_) (fun c_698 => ?_)
                      · refine lv_iload hx hb dL_best_165 (lv_at hl 7 rfl) ?_
                        refine lv_istore (lv' := [(4, .int mm), (3, .int (nI b2)), (10, .int 64), (9, .int 1), (8, .int (lfd (((3 * pl) + b2) / 3) ((lwy vp vb vg ((3 * pl) + b2) cn) - 10))), (7, .int ((lwy vp vb vg ((3 * pl) + b2) cn) - 10)), (6, .int (nI ((3 * pl) + b2))), (5, .int (nI b2)), (0, .ref yp), (1, .ref yb), (2, .ref yg)]) hx hb dL_best_167 hl (by decide) rfl (fun ls hl => ?_)
                        refine lv_iinc (v := (nI b2) + Int32.ofInt (-1)) (lv' := [(5, .int ((nI b2) + Int32.ofInt (-1))), (4, .int mm), (3, .int (nI b2)), (10, .int 64), (9, .int 1), (8, .int (lfd (((3 * pl) + b2) / 3) ((lwy vp vb vg ((3 * pl) + b2) cn) - 10))), (7, .int ((lwy vp vb vg ((3 * pl) + b2) cn) - 10)), (6, .int (nI ((3 * pl) + b2))), (0, .ref yp), (1, .ref yb), (2, .ref yg)]) hx hb dL_best_169 hl (k := 7) rfl rfl (by decide) rfl (fun ls hl => ?_)
                        refine lv_goto (tgt := 9) hx hb dL_best_172 (by decide) ?_
                        have erk : lrk vp vb vg pl (3 * pl + b2) cn = 64 := by rw [lrk, lkd, if_neg c_658, if_neg (fun w => absurd w.2 (by omega)), if_pos c_684, lph, if_neg c_692]; first | rfl | decide
                        exact absurd c_698 c_696
                      · refine lv_iload hx hb dL_best_160 (lv_at hl 1 rfl) ?_
                        refine lv_goto (tgt := 167) hx hb dL_best_162 (by decide) ?_
                        refine lv_istore (lv' := [(4, .int 64), (3, .int (nI b2)), (10, .int 64), (9, .int 1), (8, .int (lfd (((3 * pl) + b2) / 3) ((lwy vp vb vg ((3 * pl) + b2) cn) - 10))), (7, .int ((lwy vp vb vg ((3 * pl) + b2) cn) - 10)), (6, .int (nI ((3 * pl) + b2))), (5, .int (nI b2)), (0, .ref yp), (1, .ref yb), (2, .ref yg)]) hx hb dL_best_167 hl (by decide) rfl (fun ls hl => ?_)
                        refine lv_iinc (v := (nI b2) + Int32.ofInt (-1)) (lv' := [(5, .int ((nI b2) + Int32.ofInt (-1))), (4, .int 64), (3, .int (nI b2)), (10, .int 64), (9, .int 1), (8, .int (lfd (((3 * pl) + b2) / 3) ((lwy vp vb vg ((3 * pl) + b2) cn) - 10))), (7, .int ((lwy vp vb vg ((3 * pl) + b2) cn) - 10)), (6, .int (nI ((3 * pl) + b2))), (0, .ref yp), (1, .ref yb), (2, .ref yg)]) hx hb dL_best_169 hl (k := 7) rfl rfl (by decide) rfl (fun ls hl => ?_)
                        refine lv_goto (tgt := 9) hx hb dL_best_172 (by decide) ?_
                        have erk : lrk vp vb vg pl (3 * pl + b2) cn = 64 := by rw [lrk, lkd, if_neg c_658, if_neg (fun w => absurd w.2 (by omega)), if_pos c_684, lph, if_neg c_692]; first | rfl | decide
                        exact ih1 b2 ((nI b2) + Int32.ofInt (-1)) (nI b2) 64 (by omega) (dec_sub b2) (by rw [show 3 - b2 = (3 - (b2 + 1)) + 1 by omega, lbs, show 2 - (3 - (b2 + 1)) = b2 by omega, ← hf, erk, if_neg (fun w => w.elim (fun z => absurd c_656 (Int32.not_le.mpr z)) c_696)]) (by omega) _ (lv_sub hl [0, 1, 2, 8, 9, 10] rfl)
              · refine lv_iconst (v := 2) hx hb dL_best_91 (by decide) ?_
                refine lv_goto (tgt := 112) hx hb dL_best_92 (by decide) ?_
                refine lv_istore (lv' := [(9, .int 2), (8, .int (lfd (((3 * pl) + b2) / 3) ((lwy vp vb vg ((3 * pl) + b2) cn) - 10))), (7, .int ((lwy vp vb vg ((3 * pl) + b2) cn) - 10)), (6, .int (nI ((3 * pl) + b2))), (5, .int (nI b2)), (4, .int mm), (3, .int ff), (0, .ref yp), (1, .ref yb), (2, .ref yg)]) hx hb dL_best_112 hl (by decide) rfl (fun ls hl => ?_)
                refine lv_bipush (v := 64) hx hb dL_best_114 (by decide) ?_
                refine lv_iload hx hb dL_best_116 (lv_at hl 0 rfl) ?_
                refine zi_mul hx hb 64 2 dL_best_118 rfl rfl ?_
                refine lv_aload_n hx hb dL_best_119 rfl (lv_at hl 7 rfl) ?_
                refine lv_iload hx hb dL_best_120 (lv_at hl 3 rfl) ?_
                refine za_ld hx hb hK.1 hP 0 0 rfl rfl ((3 * pl) + b2) rfl (by omega) (by decide) dL_best_122 ?_
                refine lv_if_ge (tgt := 130) hx hb dL_best_123 (by decide) (fun c_699 => ?_) (fun c_699 => ?_)
                · refine lv_aload_n hx hb dL_best_130 rfl (lv_at hl 7 rfl) ?_
                  refine lv_iload hx hb dL_best_131 (lv_at hl 3 rfl) ?_
                  refine za_ld hx hb hK.1 hP 0 0 rfl rfl ((3 * pl) + b2) rfl (by omega) (by decide) dL_best_133 ?_
                  refine lv_iconst (v := 1) hx hb dL_best_134 (by decide) ?_
                  refine lv_iadd hx hb dL_best_135 ?_
                  refine lv_iadd hx hb dL_best_136 ?_
                  refine lv_istore (lv' := [(10, .int (128 + ((vp ((3 * pl) + b2)) + 1))), (9, .int 2), (8, .int (lfd (((3 * pl) + b2) / 3) ((lwy vp vb vg ((3 * pl) + b2) cn) - 10))), (7, .int ((lwy vp vb vg ((3 * pl) + b2) cn) - 10)), (6, .int (nI ((3 * pl) + b2))), (5, .int (nI b2)), (4, .int mm), (3, .int ff), (0, .ref yp), (1, .ref yb), (2, .ref yg)]) hx hb dL_best_137 hl (by decide) rfl (fun ls hl => ?_)
                  refine lv_iload hx hb dL_best_139 (lv_at hl 0 rfl) ?_
                  refine lv_iload hx hb dL_best_141 (lv_at hl 6 rfl) ?_
                  refine lv_icmp_lt (tgt := 151) hx hb dL_best_143 (by decide) (fun c_700 => ?_) (fun c_700 => ?_)
                  · refine lv_iload_n hx hb dL_best_151 rfl (lv_at hl 7 rfl) ?_
                    refine lv_istore_n (lv' := [(3, .int ff), (10, .int (128 + ((vp ((3 * pl) + b2)) + 1))), (9, .int 2), (8, .int (lfd (((3 * pl) + b2) / 3) ((lwy vp vb vg ((3 * pl) + b2) cn) - 10))), (7, .int ((lwy vp vb vg ((3 * pl) + b2) cn) - 10)), (6, .int (nI ((3 * pl) + b2))), (5, .int (nI b2)), (4, .int mm), (0, .ref yp), (1, .ref yb), (2, .ref yg)]) hx hb dL_best_152 rfl hl (by decide) rfl (fun ls hl => ?_)
                    refine lv_iload hx hb dL_best_153 (lv_at hl 1 rfl) ?_
                    refine lv_iload hx hb dL_best_155 (lv_at hl 7 rfl) ?_
                    refine lv_icmp_lt (tgt := 165) hx hb dL_best_157 (by decide) (fun c_701 => ?_) (fun c_701 => ?_)
                    · refine lv_iload hx hb dL_best_165 (lv_at hl 7 rfl) ?_
                      refine lv_istore (lv' := [(4, .int mm), (3, .int ff), (10, .int (128 + ((vp ((3 * pl) + b2)) + 1))), (9, .int 2), (8, .int (lfd (((3 * pl) + b2) / 3) ((lwy vp vb vg ((3 * pl) + b2) cn) - 10))), (7, .int ((lwy vp vb vg ((3 * pl) + b2) cn) - 10)), (6, .int (nI ((3 * pl) + b2))), (5, .int (nI b2)), (0, .ref yp), (1, .ref yb), (2, .ref yg)]) hx hb dL_best_167 hl (by decide) rfl (fun ls hl => ?_)
                      refine lv_iinc (v := (nI b2) + Int32.ofInt (-1)) (lv' := [(5, .int ((nI b2) + Int32.ofInt (-1))), (4, .int mm), (3, .int ff), (10, .int (128 + ((vp ((3 * pl) + b2)) + 1))), (9, .int 2), (8, .int (lfd (((3 * pl) + b2) / 3) ((lwy vp vb vg ((3 * pl) + b2) cn) - 10))), (7, .int ((lwy vp vb vg ((3 * pl) + b2) cn) - 10)), (6, .int (nI ((3 * pl) + b2))), (0, .ref yp), (1, .ref yb), (2, .ref yg)]) hx hb dL_best_169 hl (k := 7) rfl rfl (by decide) rfl (fun ls hl => ?_)
                      refine lv_goto (tgt := 9) hx hb dL_best_172 (by decide) ?_
                      have erk : lrk vp vb vg pl (3 * pl + b2) cn = 128 + ((vp ((3 * pl) + b2)) + 1) := by rw [lrk, lkd, if_neg c_658, if_pos ⟨c_659, c_681⟩, lph, if_pos c_699]; first | rfl | decide
                      exact ih1 b2 ((nI b2) + Int32.ofInt (-1)) ff mm (by omega) (dec_sub b2) (by rw [show 3 - b2 = (3 - (b2 + 1)) + 1 by omega, lbs, show 2 - (3 - (b2 + 1)) = b2 by omega, ← hf, erk, if_pos (Or.inr c_700)]) (by omega) _ (lv_sub hl [0, 1, 2, 8, 9, 10] rfl)
                    · refine lv_iload hx hb dL_best_160 (lv_at hl 1 rfl) ?_
                      refine lv_goto (tgt := 167) hx hb dL_best_162 (by decide) ?_
                      refine lv_istore (lv' := [(4, .int (128 + ((vp ((3 * pl) + b2)) + 1))), (3, .int ff), (10, .int (128 + ((vp ((3 * pl) + b2)) + 1))), (9, .int 2), (8, .int (lfd (((3 * pl) + b2) / 3) ((lwy vp vb vg ((3 * pl) + b2) cn) - 10))), (7, .int ((lwy vp vb vg ((3 * pl) + b2) cn) - 10)), (6, .int (nI ((3 * pl) + b2))), (5, .int (nI b2)), (0, .ref yp), (1, .ref yb), (2, .ref yg)]) hx hb dL_best_167 hl (by decide) rfl (fun ls hl => ?_)
                      refine lv_iinc (v := (nI b2) + Int32.ofInt (-1)) (lv' := [(5, .int ((nI b2) + Int32.ofInt (-1))), (4, .int (128 + ((vp ((3 * pl) + b2)) + 1))), (3, .int ff), (10, .int (128 + ((vp ((3 * pl) + b2)) + 1))), (9, .int 2), (8, .int (lfd (((3 * pl) + b2) / 3) ((lwy vp vb vg ((3 * pl) + b2) cn) - 10))), (7, .int ((lwy vp vb vg ((3 * pl) + b2) cn) - 10)), (6, .int (nI ((3 * pl) + b2))), (0, .ref yp), (1, .ref yb), (2, .ref yg)]) hx hb dL_best_169 hl (k := 7) rfl rfl (by decide) rfl (fun ls hl => ?_)
                      refine lv_goto (tgt := 9) hx hb dL_best_172 (by decide) ?_
                      have erk : lrk vp vb vg pl (3 * pl + b2) cn = 128 + ((vp ((3 * pl) + b2)) + 1) := by rw [lrk, lkd, if_neg c_658, if_pos ⟨c_659, c_681⟩, lph, if_pos c_699]; first | rfl | decide
                      exact absurd c_700 c_701
                  · refine lv_iload hx hb dL_best_146 (lv_at hl 5 rfl) ?_
                    refine lv_goto (tgt := 152) hx hb dL_best_148 (by decide) ?_
                    refine lv_istore_n (lv' := [(3, .int (nI b2)), (10, .int (128 + ((vp ((3 * pl) + b2)) + 1))), (9, .int 2), (8, .int (lfd (((3 * pl) + b2) / 3) ((lwy vp vb vg ((3 * pl) + b2) cn) - 10))), (7, .int ((lwy vp vb vg ((3 * pl) + b2) cn) - 10)), (6, .int (nI ((3 * pl) + b2))), (5, .int (nI b2)), (4, .int mm), (0, .ref yp), (1, .ref yb), (2, .ref yg)]) hx hb dL_best_152 rfl hl (by decide) rfl (fun ls hl => ?_)
                    refine lv_iload hx hb dL_best_153 (lv_at hl 1 rfl) ?_
                    refine lv_iload hx hb dL_best_155 (lv_at hl 7 rfl) ?_
                    refine lv_icmp_lt (tgt := 165) hx hb dL_best_157 (by decide) (fun c_702 => ?_) (fun c_702 => ?_)
                    · refine lv_iload hx hb dL_best_165 (lv_at hl 7 rfl) ?_
                      refine lv_istore (lv' := [(4, .int mm), (3, .int (nI b2)), (10, .int (128 + ((vp ((3 * pl) + b2)) + 1))), (9, .int 2), (8, .int (lfd (((3 * pl) + b2) / 3) ((lwy vp vb vg ((3 * pl) + b2) cn) - 10))), (7, .int ((lwy vp vb vg ((3 * pl) + b2) cn) - 10)), (6, .int (nI ((3 * pl) + b2))), (5, .int (nI b2)), (0, .ref yp), (1, .ref yb), (2, .ref yg)]) hx hb dL_best_167 hl (by decide) rfl (fun ls hl => ?_)
                      refine lv_iinc (v := (nI b2) + Int32.ofInt (-1)) (lv' := [(5, .int ((nI b2) + Int32.ofInt (-1))), (4, .int mm), (3, .int (nI b2)), (10, .int (128 + ((vp ((3 * pl) + b2)) + 1))), (9, .int 2), (8, .int (lfd (((3 * pl) + b2) / 3) ((lwy vp vb vg ((3 * pl) + b2) cn) - 10))), (7, .int ((lwy vp vb vg ((3 * pl) + b2) cn) - 10)), (6, .int (nI ((3 * pl) + b2))), (0, .ref yp), (1, .ref yb), (2, .ref yg)]) hx hb dL_best_169 hl (k := 7) rfl rfl (by decide) rfl (fun ls hl => ?_)
                      refine lv_goto (tgt := 9) hx hb dL_best_172 (by decide) ?_
                      have erk : lrk vp vb vg pl (3 * pl + b2) cn = 128 + ((vp ((3 * pl) + b2)) + 1) := by rw [lrk, lkd, if_neg c_658, if_pos ⟨c_659, c_681⟩, lph, if_pos c_699]; first | rfl | decide
                      exact absurd c_702 c_700
                    · refine lv_iload hx hb dL_best_160 (lv_at hl 1 rfl) ?_
                      refine lv_goto (tgt := 167) hx hb dL_best_162 (by decide) ?_
                      refine lv_istore (lv' := [(4, .int (128 + ((vp ((3 * pl) + b2)) + 1))), (3, .int (nI b2)), (10, .int (128 + ((vp ((3 * pl) + b2)) + 1))), (9, .int 2), (8, .int (lfd (((3 * pl) + b2) / 3) ((lwy vp vb vg ((3 * pl) + b2) cn) - 10))), (7, .int ((lwy vp vb vg ((3 * pl) + b2) cn) - 10)), (6, .int (nI ((3 * pl) + b2))), (5, .int (nI b2)), (0, .ref yp), (1, .ref yb), (2, .ref yg)]) hx hb dL_best_167 hl (by decide) rfl (fun ls hl => ?_)
                      refine lv_iinc (v := (nI b2) + Int32.ofInt (-1)) (lv' := [(5, .int ((nI b2) + Int32.ofInt (-1))), (4, .int (128 + ((vp ((3 * pl) + b2)) + 1))), (3, .int (nI b2)), (10, .int (128 + ((vp ((3 * pl) + b2)) + 1))), (9, .int 2), (8, .int (lfd (((3 * pl) + b2) / 3) ((lwy vp vb vg ((3 * pl) + b2) cn) - 10))), (7, .int ((lwy vp vb vg ((3 * pl) + b2) cn) - 10)), (6, .int (nI ((3 * pl) + b2))), (0, .ref yp), (1, .ref yb), (2, .ref yg)]) hx hb dL_best_169 hl (k := 7) rfl rfl (by decide) rfl (fun ls hl => ?_)
                      refine lv_goto (tgt := 9) hx hb dL_best_172 (by decide) ?_
                      have erk : lrk vp vb vg pl (3 * pl + b2) cn = 128 + ((vp ((3 * pl) + b2)) + 1) := by rw [lrk, lkd, if_neg c_658, if_pos ⟨c_659, c_681⟩, lph, if_pos c_699]; first | rfl | decide
                      exact ih1 b2 ((nI b2) + Int32.ofInt (-1)) (nI b2) (128 + ((vp ((3 * pl) + b2)) + 1)) (by omega) (dec_sub b2) (by rw [show 3 - b2 = (3 - (b2 + 1)) + 1 by omega, lbs, show 2 - (3 - (b2 + 1)) = b2 by omega, ← hf, erk, if_neg (fun w => w.elim (fun z => absurd c_656 (Int32.not_le.mpr z)) c_700)]) (by omega) _ (lv_sub hl [0, 1, 2, 8, 9, 10] rfl)
                · refine lv_iconst (v := 0) hx hb dL_best_126 (by decide) ?_
                  refine lv_goto (tgt := 136) hx hb dL_best_127 (by decide) ?_
                  refine zi_add hx hb 128 0 dL_best_136 rfl rfl ?_
                  refine lv_istore (lv' := [(10, .int 128), (9, .int 2), (8, .int (lfd (((3 * pl) + b2) / 3) ((lwy vp vb vg ((3 * pl) + b2) cn) - 10))), (7, .int ((lwy vp vb vg ((3 * pl) + b2) cn) - 10)), (6, .int (nI ((3 * pl) + b2))), (5, .int (nI b2)), (4, .int mm), (3, .int ff), (0, .ref yp), (1, .ref yb), (2, .ref yg)]) hx hb dL_best_137 hl (by decide) rfl (fun ls hl => ?_)
                  refine lv_iload hx hb dL_best_139 (lv_at hl 0 rfl) ?_
                  refine lv_iload hx hb dL_best_141 (lv_at hl 6 rfl) ?_
                  refine lv_icmp_lt (tgt := 151) hx hb dL_best_143 (by decide) (fun c_703 => ?_) (fun c_703 => ?_)
                  · refine lv_iload_n hx hb dL_best_151 rfl (lv_at hl 7 rfl) ?_
                    refine lv_istore_n (lv' := [(3, .int ff), (10, .int 128), (9, .int 2), (8, .int (lfd (((3 * pl) + b2) / 3) ((lwy vp vb vg ((3 * pl) + b2) cn) - 10))), (7, .int ((lwy vp vb vg ((3 * pl) + b2) cn) - 10)), (6, .int (nI ((3 * pl) + b2))), (5, .int (nI b2)), (4, .int mm), (0, .ref yp), (1, .ref yb), (2, .ref yg)]) hx hb dL_best_152 rfl hl (by decide) rfl (fun ls hl => ?_)
                    refine lv_iload hx hb dL_best_153 (lv_at hl 1 rfl) ?_
                    refine lv_iload hx hb dL_best_155 (lv_at hl 7 rfl) ?_
                    refine lv_icmp_lt (tgt := 165) hx hb dL_best_157 (by decide) (fun c_704 => ?_) (fun c_704 => ?_)
                    · refine lv_iload hx hb dL_best_165 (lv_at hl 7 rfl) ?_
                      refine lv_istore (lv' := [(4, .int mm), (3, .int ff), (10, .int 128), (9, .int 2), (8, .int (lfd (((3 * pl) + b2) / 3) ((lwy vp vb vg ((3 * pl) + b2) cn) - 10))), (7, .int ((lwy vp vb vg ((3 * pl) + b2) cn) - 10)), (6, .int (nI ((3 * pl) + b2))), (5, .int (nI b2)), (0, .ref yp), (1, .ref yb), (2, .ref yg)]) hx hb dL_best_167 hl (by decide) rfl (fun ls hl => ?_)
                      refine lv_iinc (v := (nI b2) + Int32.ofInt (-1)) (lv' := [(5, .int ((nI b2) + Int32.ofInt (-1))), (4, .int mm), (3, .int ff), (10, .int 128), (9, .int 2), (8, .int (lfd (((3 * pl) + b2) / 3) ((lwy vp vb vg ((3 * pl) + b2) cn) - 10))), (7, .int ((lwy vp vb vg ((3 * pl) + b2) cn) - 10)), (6, .int (nI ((3 * pl) + b2))), (0, .ref yp), (1, .ref yb), (2, .ref yg)]) hx hb dL_best_169 hl (k := 7) rfl rfl (by decide) rfl (fun ls hl => ?_)
                      refine lv_goto (tgt := 9) hx hb dL_best_172 (by decide) ?_
                      have erk : lrk vp vb vg pl (3 * pl + b2) cn = 128 := by rw [lrk, lkd, if_neg c_658, if_pos ⟨c_659, c_681⟩, lph, if_neg c_699]; first | rfl | decide
                      exact ih1 b2 ((nI b2) + Int32.ofInt (-1)) ff mm (by omega) (dec_sub b2) (by rw [show 3 - b2 = (3 - (b2 + 1)) + 1 by omega, lbs, show 2 - (3 - (b2 + 1)) = b2 by omega, ← hf, erk, if_pos (Or.inr c_703)]) (by omega) _ (lv_sub hl [0, 1, 2, 8, 9, 10] rfl)
                    · refine lv_iload hx hb dL_best_160 (lv_at hl 1 rfl) ?_
                      refine lv_goto (tgt := 167) hx hb dL_best_162 (by decide) ?_
                      refine lv_istore (lv' := [(4, .int 128), (3, .int ff), (10, .int 128), (9, .int 2), (8, .int (lfd (((3 * pl) + b2) / 3) ((lwy vp vb vg ((3 * pl) + b2) cn) - 10))), (7, .int ((lwy vp vb vg ((3 * pl) + b2) cn) - 10)), (6, .int (nI ((3 * pl) + b2))), (5, .int (nI b2)), (0, .ref yp), (1, .ref yb), (2, .ref yg)]) hx hb dL_best_167 hl (by decide) rfl (fun ls hl => ?_)
                      refine lv_iinc (v := (nI b2) + Int32.ofInt (-1)) (lv' := [(5, .int ((nI b2) + Int32.ofInt (-1))), (4, .int 128), (3, .int ff), (10, .int 128), (9, .int 2), (8, .int (lfd (((3 * pl) + b2) / 3) ((lwy vp vb vg ((3 * pl) + b2) cn) - 10))), (7, .int ((lwy vp vb vg ((3 * pl) + b2) cn) - 10)), (6, .int (nI ((3 * pl) + b2))), (0, .ref yp), (1, .ref yb), (2, .ref yg)]) hx hb dL_best_169 hl (k := 7) rfl rfl (by decide) rfl (fun ls hl => ?_)
                      refine lv_goto (tgt := 9) hx hb dL_best_172 (by decide) ?_
                      have erk : lrk vp vb vg pl (3 * pl + b2) cn = 128 := by rw [lrk, lkd, if_neg c_658, if_pos ⟨c_659, c_681⟩, lph, if_neg c_699]; first | rfl | decide
                      exact absurd c_703 c_704
                  · refine lv_iload hx hb dL_best_146 (lv_at hl 5 rfl) ?_
                    refine lv_goto (tgt := 152) hx hb dL_best_148 (by decide) ?_
                    refine lv_istore_n (lv' := [(3, .int (nI b2)), (10, .int 128), (9, .int 2), (8, .int (lfd (((3 * pl) + b2) / 3) ((lwy vp vb vg ((3 * pl) + b2) cn) - 10))), (7, .int ((lwy vp vb vg ((3 * pl) + b2) cn) - 10)), (6, .int (nI ((3 * pl) + b2))), (5, .int (nI b2)), (4, .int mm), (0, .ref yp), (1, .ref yb), (2, .ref yg)]) hx hb dL_best_152 rfl hl (by decide) rfl (fun ls hl => ?_)
                    refine lv_iload hx hb dL_best_153 (lv_at hl 1 rfl) ?_
                    refine lv_iload hx hb dL_best_155 (lv_at hl 7 rfl) ?_
                    refine lv_icmp_lt (tgt := 165) hx hb dL_best_157 (by decide) (fun c_705 => ?_) (fun c_705 => ?_)
                    · refine lv_iload hx hb dL_best_165 (lv_at hl 7 rfl) ?_
                      refine lv_istore (lv' := [(4, .int mm), (3, .int (nI b2)), (10, .int 128), (9, .int 2), (8, .int (lfd (((3 * pl) + b2) / 3) ((lwy vp vb vg ((3 * pl) + b2) cn) - 10))), (7, .int ((lwy vp vb vg ((3 * pl) + b2) cn) - 10)), (6, .int (nI ((3 * pl) + b2))), (5, .int (nI b2)), (0, .ref yp), (1, .ref yb), (2, .ref yg)]) hx hb dL_best_167 hl (by decide) rfl (fun ls hl => ?_)
                      refine lv_iinc (v := (nI b2) + Int32.ofInt (-1)) (lv' := [(5, .int ((nI b2) + Int32.ofInt (-1))), (4, .int mm), (3, .int (nI b2)), (10, .int 128), (9, .int 2), (8, .int (lfd (((3 * pl) + b2) / 3) ((lwy vp vb vg ((3 * pl) + b2) cn) - 10))), (7, .int ((lwy vp vb vg ((3 * pl) + b2) cn) - 10)), (6, .int (nI ((3 * pl) + b2))), (0, .ref yp), (1, .ref yb), (2, .ref yg)]) hx hb dL_best_169 hl (k := 7) rfl rfl (by decide) rfl (fun ls hl => ?_)
                      refine lv_goto (tgt := 9) hx hb dL_best_172 (by decide) ?_
                      have erk : lrk vp vb vg pl (3 * pl + b2) cn = 128 := by rw [lrk, lkd, if_neg c_658, if_pos ⟨c_659, c_681⟩, lph, if_neg c_699]; first | rfl | decide
                      exact absurd c_705 c_703
                    · refine lv_iload hx hb dL_best_160 (lv_at hl 1 rfl) ?_
                      refine lv_goto (tgt := 167) hx hb dL_best_162 (by decide) ?_
                      refine lv_istore (lv' := [(4, .int 128), (3, .int (nI b2)), (10, .int 128), (9, .int 2), (8, .int (lfd (((3 * pl) + b2) / 3) ((lwy vp vb vg ((3 * pl) + b2) cn) - 10))), (7, .int ((lwy vp vb vg ((3 * pl) + b2) cn) - 10)), (6, .int (nI ((3 * pl) + b2))), (5, .int (nI b2)), (0, .ref yp), (1, .ref yb), (2, .ref yg)]) hx hb dL_best_167 hl (by decide) rfl (fun ls hl => ?_)
                      refine lv_iinc (v := (nI b2) + Int32.ofInt (-1)) (lv' := [(5, .int ((nI b2) + Int32.ofInt (-1))), (4, .int 128), (3, .int (nI b2)), (10, .int 128), (9, .int 2), (8, .int (lfd (((3 * pl) + b2) / 3) ((lwy vp vb vg ((3 * pl) + b2) cn) - 10))), (7, .int ((lwy vp vb vg ((3 * pl) + b2) cn) - 10)), (6, .int (nI ((3 * pl) + b2))), (0, .ref yp), (1, .ref yb), (2, .ref yg)]) hx hb dL_best_169 hl (k := 7) rfl rfl (by decide) rfl (fun ls hl => ?_)
                      refine lv_goto (tgt := 9) hx hb dL_best_172 (by decide) ?_
                      have erk : lrk vp vb vg pl (3 * pl + b2) cn = 128 := by rw [lrk, lkd, if_neg c_658, if_pos ⟨c_659, c_681⟩, lph, if_neg c_699]; first | rfl | decide
                      exact ih1 b2 ((nI b2) + Int32.ofInt (-1)) (nI b2) 128 (by omega) (dec_sub b2) (by rw [show 3 - b2 = (3 - (b2 + 1)) + 1 by omega, lbs, show 2 - (3 - (b2 + 1)) = b2 by omega, ← hf, erk, if_neg (fun w => w.elim (fun z => absurd c_656 (Int32.not_le.mpr z)) c_703)]) (by omega) _ (lv_sub hl [0, 1, 2, 8, 9, 10] rfl)
          · refine lv_iconst (v := 3) hx hb dL_best_64 (by decide) ?_
            refine lv_goto (tgt := 112) hx hb dL_best_65 (by decide) ?_
            refine lv_istore (lv' := [(9, .int 3), (8, .int (lfd (((3 * pl) + b2) / 3) ((lwy vp vb vg ((3 * pl) + b2) cn) - 10))), (7, .int ((lwy vp vb vg ((3 * pl) + b2) cn) - 10)), (6, .int (nI ((3 * pl) + b2))), (5, .int (nI b2)), (4, .int mm), (3, .int ff), (0, .ref yp), (1, .ref yb), (2, .ref yg)]) hx hb dL_best_112 hl (by decide) rfl (fun ls hl => ?_)
            refine lv_bipush (v := 64) hx hb dL_best_114 (by decide) ?_
            refine lv_iload hx hb dL_best_116 (lv_at hl 0 rfl) ?_
            refine zi_mul hx hb 64 3 dL_best_118 rfl rfl ?_
            refine lv_aload_n hx hb dL_best_119 rfl (lv_at hl 7 rfl) ?_
            refine lv_iload hx hb dL_best_120 (lv_at hl 3 rfl) ?_
            refine za_ld hx hb hK.1 hP 0 0 rfl rfl ((3 * pl) + b2) rfl (by omega) (by decide) dL_best_122 ?_
            refine lv_if_ge (tgt := 130) hx hb dL_best_123 (by decide) (fun c_706 => ?_) (fun c_706 => ?_)
            · refine lv_aload_n hx hb dL_best_130 rfl (lv_at hl 7 rfl) ?_
              refine lv_iload hx hb dL_best_131 (lv_at hl 3 rfl) ?_
              refine za_ld hx hb hK.1 hP 0 0 rfl rfl ((3 * pl) + b2) rfl (by omega) (by decide) dL_best_133 ?_
              refine lv_iconst (v := 1) hx hb dL_best_134 (by decide) ?_
              refine lv_iadd hx hb dL_best_135 ?_
              refine lv_iadd hx hb dL_best_136 ?_
              refine lv_istore (lv' := [(10, .int (192 + ((vp ((3 * pl) + b2)) + 1))), (9, .int 3), (8, .int (lfd (((3 * pl) + b2) / 3) ((lwy vp vb vg ((3 * pl) + b2) cn) - 10))), (7, .int ((lwy vp vb vg ((3 * pl) + b2) cn) - 10)), (6, .int (nI ((3 * pl) + b2))), (5, .int (nI b2)), (4, .int mm), (3, .int ff), (0, .ref yp), (1, .ref yb), (2, .ref yg)]) hx hb dL_best_137 hl (by decide) rfl (fun ls hl => ?_)
              refine lv_iload hx hb dL_best_139 (lv_at hl 0 rfl) ?_
              refine lv_iload hx hb dL_best_141 (lv_at hl 6 rfl) ?_
              refine lv_icmp_lt (tgt := 151) hx hb dL_best_143 (by decide) (fun c_707 => ?_) (fun c_707 => ?_)
              · refine lv_iload_n hx hb dL_best_151 rfl (lv_at hl 7 rfl) ?_
                refine lv_istore_n (lv' := [(3, .int ff), (10, .int (192 + ((vp ((3 * pl) + b2)) + 1))), (9, .int 3), (8, .int (lfd (((3 * pl) + b2) / 3) ((lwy vp vb vg ((3 * pl) + b2) cn) - 10))), (7, .int ((lwy vp vb vg ((3 * pl) + b2) cn) - 10)), (6, .int (nI ((3 * pl) + b2))), (5, .int (nI b2)), (4, .int mm), (0, .ref yp), (1, .ref yb), (2, .ref yg)]) hx hb dL_best_152 rfl hl (by decide) rfl (fun ls hl => ?_)
                refine lv_iload hx hb dL_best_153 (lv_at hl 1 rfl) ?_
                refine lv_iload hx hb dL_best_155 (lv_at hl 7 rfl) ?_
                refine lv_icmp_lt (tgt := 165) hx hb dL_best_157 (by decide) (fun c_708 => ?_) (fun c_708 => ?_)
                · refine lv_iload hx hb dL_best_165 (lv_at hl 7 rfl) ?_
                  refine lv_istore (lv' := [(4, .int mm), (3, .int ff), (10, .int (192 + ((vp ((3 * pl) + b2)) + 1))), (9, .int 3), (8, .int (lfd (((3 * pl) + b2) / 3) ((lwy vp vb vg ((3 * pl) + b2) cn) - 10))), (7, .int ((lwy vp vb vg ((3 * pl) + b2) cn) - 10)), (6, .int (nI ((3 * pl) + b2))), (5, .int (nI b2)), (0, .ref yp), (1, .ref yb), (2, .ref yg)]) hx hb dL_best_167 hl (by decide) rfl (fun ls hl => ?_)
                  refine lv_iinc (v := (nI b2) + Int32.ofInt (-1)) (lv' := [(5, .int ((nI b2) + Int32.ofInt (-1))), (4, .int mm), (3, .int ff), (10, .int (192 + ((vp ((3 * pl) + b2)) + 1))), (9, .int 3), (8, .int (lfd (((3 * pl) + b2) / 3) ((lwy vp vb vg ((3 * pl) + b2) cn) - 10))), (7, .int ((lwy vp vb vg ((3 * pl) + b2) cn) - 10)), (6, .int (nI ((3 * pl) + b2))), (0, .ref yp), (1, .ref yb), (2, .ref yg)]) hx hb dL_best_169 hl (k := 7) rfl rfl (by decide) rfl (fun ls hl => ?_)
                  refine lv_goto (tgt := 9) hx hb dL_best_172 (by decide) ?_
                  have erk : lrk vp vb vg pl (3 * pl + b2) cn = 192 + ((vp ((3 * pl) + b2)) + 1) := by rw [lrk, lkd, if_pos c_658, lph, if_pos c_706]; first | rfl | decide
                  exact ih1 b2 ((nI b2) + Int32.ofInt (-1)) ff mm (by omega) (dec_sub b2) (by rw [show 3 - b2 = (3 - (b2 + 1)) + 1 by omega, lbs, show 2 - (3 - (b2 + 1)) = b2 by omega, ← hf, erk, if_pos (Or.inr c_707)]) (by omega) _ (lv_sub hl [0, 1, 2, 8, 9, 10] rfl)
                · refine lv_iload hx hb dL_best_160 (lv_at hl 1 rfl) ?_
                  refine lv_goto (tgt := 167) hx hb dL_best_162 (by decide) ?_
                  refine lv_istore (lv' := [(4, .int (192 + ((vp ((3 * pl) + b2)) + 1))), (3, .int ff), (10, .int (192 + ((vp ((3 * pl) + b2)) + 1))), (9, .int 3), (8, .int (lfd (((3 * pl) + b2) / 3) ((lwy vp vb vg ((3 * pl) + b2) cn) - 10))), (7, .int ((lwy vp vb vg ((3 * pl) + b2) cn) - 10)), (6, .int (nI ((3 * pl) + b2))), (5, .int (nI b2)), (0, .ref yp), (1, .ref yb), (2, .ref yg)]) hx hb dL_best_167 hl (by decide) rfl (fun ls hl => ?_)
                  refine lv_iinc (v := (nI b2) + Int32.ofInt (-1)) (lv' := [(5, .int ((nI b2) + Int32.ofInt (-1))), (4, .int (192 + ((vp ((3 * pl) + b2)) + 1))), (3, .int ff), (10, .int (192 + ((vp ((3 * pl) + b2)) + 1))), (9, .int 3), (8, .int (lfd (((3 * pl) + b2) / 3) ((lwy vp vb vg ((3 * pl) + b2) cn) - 10))), (7, .int ((lwy vp vb vg ((3 * pl) + b2) cn) - 10)), (6, .int (nI ((3 * pl) + b2))), (0, .ref yp), (1, .ref yb), (2, .ref yg)]) hx hb dL_best_169 hl (k := 7) rfl rfl (by decide) rfl (fun ls hl => ?_)
                  refine lv_goto (tgt := 9) hx hb dL_best_172 (by decide) ?_
                  have erk : lrk vp vb vg pl (3 * pl + b2) cn = 192 + ((vp ((3 * pl) + b2)) + 1) := by rw [lrk, lkd, if_pos c_658, lph, if_pos c_706]; first | rfl | decide
                  exact absurd c_707 c_708
              · refine lv_iload hx hb dL_best_146 (lv_at hl 5 rfl) ?_
                refine lv_goto (tgt := 152) hx hb dL_best_148 (by decide) ?_
                refine lv_istore_n (lv' := [(3, .int (nI b2)), (10, .int (192 + ((vp ((3 * pl) + b2)) + 1))), (9, .int 3), (8, .int (lfd (((3 * pl) + b2) / 3) ((lwy vp vb vg ((3 * pl) + b2) cn) - 10))), (7, .int ((lwy vp vb vg ((3 * pl) + b2) cn) - 10)), (6, .int (nI ((3 * pl) + b2))), (5, .int (nI b2)), (4, .int mm), (0, .ref yp), (1, .ref yb), (2, .ref yg)]) hx hb dL_best_152 rfl hl (by decide) rfl (fun ls hl => ?_)
                refine lv_iload hx hb dL_best_153 (lv_at hl 1 rfl) ?_
                refine lv_iload hx hb dL_best_155 (lv_at hl 7 rfl) ?_
                refine lv_icmp_lt (tgt := 165) hx hb dL_best_157 (by decide) (fun c_709 => ?_) (fun c_709 => ?_)
                · refine lv_iload hx hb dL_best_165 (lv_at hl 7 rfl) ?_
                  refine lv_istore (lv' := [(4, .int mm), (3, .int (nI b2)), (10, .int (192 + ((vp ((3 * pl) + b2)) + 1))), (9, .int 3), (8, .int (lfd (((3 * pl) + b2) / 3) ((lwy vp vb vg ((3 * pl) + b2) cn) - 10))), (7, .int ((lwy vp vb vg ((3 * pl) + b2) cn) - 10)), (6, .int (nI ((3 * pl) + b2))), (5, .int (nI b2)), (0, .ref yp), (1, .ref yb), (2, .ref yg)]) hx hb dL_best_167 hl (by decide) rfl (fun ls hl => ?_)
                  refine lv_iinc (v := (nI b2) + Int32.ofInt (-1)) (lv' := [(5, .int ((nI b2) + Int32.ofInt (-1))), (4, .int mm), (3, .int (nI b2)), (10, .int (192 + ((vp ((3 * pl) + b2)) + 1))), (9, .int 3), (8, .int (lfd (((3 * pl) + b2) / 3) ((lwy vp vb vg ((3 * pl) + b2) cn) - 10))), (7, .int ((lwy vp vb vg ((3 * pl) + b2) cn) - 10)), (6, .int (nI ((3 * pl) + b2))), (0, .ref yp), (1, .ref yb), (2, .ref yg)]) hx hb dL_best_169 hl (k := 7) rfl rfl (by decide) rfl (fun ls hl => ?_)
                  refine lv_goto (tgt := 9) hx hb dL_best_172 (by decide) ?_
                  have erk : lrk vp vb vg pl (3 * pl + b2) cn = 192 + ((vp ((3 * pl) + b2)) + 1) := by rw [lrk, lkd, if_pos c_658, lph, if_pos c_706]; first | rfl | decide
                  exact absurd c_709 c_707
                · refine lv_iload hx hb dL_best_160 (lv_at hl 1 rfl) ?_
                  refine lv_goto (tgt := 167) hx hb dL_best_162 (by decide) ?_
                  refine lv_istore (lv' := [(4, .int (192 + ((vp ((3 * pl) + b2)) + 1))), (3, .int (nI b2)), (10, .int (192 + ((vp ((3 * pl) + b2)) + 1))), (9, .int 3), (8, .int (lfd (((3 * pl) + b2) / 3) ((lwy vp vb vg ((3 * pl) + b2) cn) - 10))), (7, .int ((lwy vp vb vg ((3 * pl) + b2) cn) - 10)), (6, .int (nI ((3 * pl) + b2))), (5, .int (nI b2)), (0, .ref yp), (1, .ref yb), (2, .ref yg)]) hx hb dL_best_167 hl (by decide) rfl (fun ls hl => ?_)
                  refine lv_iinc (v := (nI b2) + Int32.ofInt (-1)) (lv' := [(5, .int ((nI b2) + Int32.ofInt (-1))), (4, .int (192 + ((vp ((3 * pl) + b2)) + 1))), (3, .int (nI b2)), (10, .int (192 + ((vp ((3 * pl) + b2)) + 1))), (9, .int 3), (8, .int (lfd (((3 * pl) + b2) / 3) ((lwy vp vb vg ((3 * pl) + b2) cn) - 10))), (7, .int ((lwy vp vb vg ((3 * pl) + b2) cn) - 10)), (6, .int (nI ((3 * pl) + b2))), (0, .ref yp), (1, .ref yb), (2, .ref yg)]) hx hb dL_best_169 hl (k := 7) rfl rfl (by decide) rfl (fun ls hl => ?_)
                  refine lv_goto (tgt := 9) hx hb dL_best_172 (by decide) ?_
                  have erk : lrk vp vb vg pl (3 * pl + b2) cn = 192 + ((vp ((3 * pl) + b2)) + 1) := by rw [lrk, lkd, if_pos c_658, lph, if_pos c_706]; first | rfl | decide
                  exact ih1 b2 ((nI b2) + Int32.ofInt (-1)) (nI b2) (192 + ((vp ((3 * pl) + b2)) + 1)) (by omega) (dec_sub b2) (by rw [show 3 - b2 = (3 - (b2 + 1)) + 1 by omega, lbs, show 2 - (3 - (b2 + 1)) = b2 by omega, ← hf, erk, if_neg (fun w => w.elim (fun z => absurd c_656 (Int32.not_le.mpr z)) c_707)]) (by omega) _ (lv_sub hl [0, 1, 2, 8, 9, 10] rfl)
            · refine lv_iconst (v := 0) hx hb dL_best_126 (by decide) ?_
              refine lv_goto (tgt := 136) hx hb dL_best_127 (by decide) ?_
              refine zi_add hx hb 192 0 dL_best_136 rfl rfl ?_
              refine lv_istore (lv' := [(10, .int 192), (9, .int 3), (8, .int (lfd (((3 * pl) + b2) / 3) ((lwy vp vb vg ((3 * pl) + b2) cn) - 10))), (7, .int ((lwy vp vb vg ((3 * pl) + b2) cn) - 10)), (6, .int (nI ((3 * pl) + b2))), (5, .int (nI b2)), (4, .int mm), (3, .int ff), (0, .ref yp), (1, .ref yb), (2, .ref yg)]) hx hb dL_best_137 hl (by decide) rfl (fun ls hl => ?_)
              refine lv_iload hx hb dL_best_139 (lv_at hl 0 rfl) ?_
              refine lv_iload hx hb dL_best_141 (lv_at hl 6 rfl) ?_
              refine lv_icmp_lt (tgt := 151) hx hb dL_best_143 (by decide) (fun c_710 => ?_) (fun c_710 => ?_)
              · refine lv_iload_n hx hb dL_best_151 rfl (lv_at hl 7 rfl) ?_
                refine lv_istore_n (lv' := [(3, .int ff), (10, .int 192), (9, .int 3), (8, .int (lfd (((3 * pl) + b2) / 3) ((lwy vp vb vg ((3 * pl) + b2) cn) - 10))), (7, .int ((lwy vp vb vg ((3 * pl) + b2) cn) - 10)), (6, .int (nI ((3 * pl) + b2))), (5, .int (nI b2)), (4, .int mm), (0, .ref yp), (1, .ref yb), (2, .ref yg)]) hx hb dL_best_152 rfl hl (by decide) rfl (fun ls hl => ?_)
                refine lv_iload hx hb dL_best_153 (lv_at hl 1 rfl) ?_
                refine lv_iload hx hb dL_best_155 (lv_at hl 7 rfl) ?_
                refine lv_icmp_lt (tgt := 165) hx hb dL_best_157 (by decide) (fun c_711 => ?_) (fun c_711 => ?_)
                · refine lv_iload hx hb dL_best_165 (lv_at hl 7 rfl) ?_
                  refine lv_istore (lv' := [(4, .int mm), (3, .int ff), (10, .int 192), (9, .int 3), (8, .int (lfd (((3 * pl) + b2) / 3) ((lwy vp vb vg ((3 * pl) + b2) cn) - 10))), (7, .int ((lwy vp vb vg ((3 * pl) + b2) cn) - 10)), (6, .int (nI ((3 * pl) + b2))), (5, .int (nI b2)), (0, .ref yp), (1, .ref yb), (2, .ref yg)]) hx hb dL_best_167 hl (by decide) rfl (fun ls hl => ?_)
                  refine lv_iinc (v := (nI b2) + Int32.ofInt (-1)) (lv' := [(5, .int ((nI b2) + Int32.ofInt (-1))), (4, .int mm), (3, .int ff), (10, .int 192), (9, .int 3), (8, .int (lfd (((3 * pl) + b2) / 3) ((lwy vp vb vg ((3 * pl) + b2) cn) - 10))), (7, .int ((lwy vp vb vg ((3 * pl) + b2) cn) - 10)), (6, .int (nI ((3 * pl) + b2))), (0, .ref yp), (1, .ref yb), (2, .ref yg)]) hx hb dL_best_169 hl (k := 7) rfl rfl (by decide) rfl (fun ls hl => ?_)
                  refine lv_goto (tgt := 9) hx hb dL_best_172 (by decide) ?_
                  have erk : lrk vp vb vg pl (3 * pl + b2) cn = 192 := by rw [lrk, lkd, if_pos c_658, lph, if_neg c_706]; first | rfl | decide
                  exact ih1 b2 ((nI b2) + Int32.ofInt (-1)) ff mm (by omega) (dec_sub b2) (by rw [show 3 - b2 = (3 - (b2 + 1)) + 1 by omega, lbs, show 2 - (3 - (b2 + 1)) = b2 by omega, ← hf, erk, if_pos (Or.inr c_710)]) (by omega) _ (lv_sub hl [0, 1, 2, 8, 9, 10] rfl)
                · refine lv_iload hx hb dL_best_160 (lv_at hl 1 rfl) ?_
                  refine lv_goto (tgt := 167) hx hb dL_best_162 (by decide) ?_
                  refine lv_istore (lv' := [(4, .int 192), (3, .int ff), (10, .int 192), (9, .int 3), (8, .int (lfd (((3 * pl) + b2) / 3) ((lwy vp vb vg ((3 * pl) + b2) cn) - 10))), (7, .int ((lwy vp vb vg ((3 * pl) + b2) cn) - 10)), (6, .int (nI ((3 * pl) + b2))), (5, .int (nI b2)), (0, .ref yp), (1, .ref yb), (2, .ref yg)]) hx hb dL_best_167 hl (by decide) rfl (fun ls hl => ?_)
                  refine lv_iinc (v := (nI b2) + Int32.ofInt (-1)) (lv' := [(5, .int ((nI b2) + Int32.ofInt (-1))), (4, .int 192), (3, .int ff), (10, .int 192), (9, .int 3), (8, .int (lfd (((3 * pl) + b2) / 3) ((lwy vp vb vg ((3 * pl) + b2) cn) - 10))), (7, .int ((lwy vp vb vg ((3 * pl) + b2) cn) - 10)), (6, .int (nI ((3 * pl) + b2))), (0, .ref yp), (1, .ref yb), (2, .ref yg)]) hx hb dL_best_169 hl (k := 7) rfl rfl (by decide) rfl (fun ls hl => ?_)
                  refine lv_goto (tgt := 9) hx hb dL_best_172 (by decide) ?_
                  have erk : lrk vp vb vg pl (3 * pl + b2) cn = 192 := by rw [lrk, lkd, if_pos c_658, lph, if_neg c_706]; first | rfl | decide
                  exact absurd c_710 c_711
              · refine lv_iload hx hb dL_best_146 (lv_at hl 5 rfl) ?_
                refine lv_goto (tgt := 152) hx hb dL_best_148 (by decide) ?_
                refine lv_istore_n (lv' := [(3, .int (nI b2)), (10, .int 192), (9, .int 3), (8, .int (lfd (((3 * pl) + b2) / 3) ((lwy vp vb vg ((3 * pl) + b2) cn) - 10))), (7, .int ((lwy vp vb vg ((3 * pl) + b2) cn) - 10)), (6, .int (nI ((3 * pl) + b2))), (5, .int (nI b2)), (4, .int mm), (0, .ref yp), (1, .ref yb), (2, .ref yg)]) hx hb dL_best_152 rfl hl (by decide) rfl (fun ls hl => ?_)
                refine lv_iload hx hb dL_best_153 (lv_at hl 1 rfl) ?_
                refine lv_iload hx hb dL_best_155 (lv_at hl 7 rfl) ?_
                refine lv_icmp_lt (tgt := 165) hx hb dL_best_157 (by decide) (fun c_712 => ?_) (fun c_712 => ?_)
                · refine lv_iload hx hb dL_best_165 (lv_at hl 7 rfl) ?_
                  refine lv_istore (lv' := [(4, .int mm), (3, .int (nI b2)), (10, .int 192), (9, .int 3), (8, .int (lfd (((3 * pl) + b2) / 3) ((lwy vp vb vg ((3 * pl) + b2) cn) - 10))), (7, .int ((lwy vp vb vg ((3 * pl) + b2) cn) - 10)), (6, .int (nI ((3 * pl) + b2))), (5, .int (nI b2)), (0, .ref yp), (1, .ref yb), (2, .ref yg)]) hx hb dL_best_167 hl (by decide) rfl (fun ls hl => ?_)
                  refine lv_iinc (v := (nI b2) + Int32.ofInt (-1)) (lv' := [(5, .int ((nI b2) + Int32.ofInt (-1))), (4, .int mm), (3, .int (nI b2)), (10, .int 192), (9, .int 3), (8, .int (lfd (((3 * pl) + b2) / 3) ((lwy vp vb vg ((3 * pl) + b2) cn) - 10))), (7, .int ((lwy vp vb vg ((3 * pl) + b2) cn) - 10)), (6, .int (nI ((3 * pl) + b2))), (0, .ref yp), (1, .ref yb), (2, .ref yg)]) hx hb dL_best_169 hl (k := 7) rfl rfl (by decide) rfl (fun ls hl => ?_)
                  refine lv_goto (tgt := 9) hx hb dL_best_172 (by decide) ?_
                  have erk : lrk vp vb vg pl (3 * pl + b2) cn = 192 := by rw [lrk, lkd, if_pos c_658, lph, if_neg c_706]; first | rfl | decide
                  exact absurd c_712 c_710
                · refine lv_iload hx hb dL_best_160 (lv_at hl 1 rfl) ?_
                  refine lv_goto (tgt := 167) hx hb dL_best_162 (by decide) ?_
                  refine lv_istore (lv' := [(4, .int 192), (3, .int (nI b2)), (10, .int 192), (9, .int 3), (8, .int (lfd (((3 * pl) + b2) / 3) ((lwy vp vb vg ((3 * pl) + b2) cn) - 10))), (7, .int ((lwy vp vb vg ((3 * pl) + b2) cn) - 10)), (6, .int (nI ((3 * pl) + b2))), (5, .int (nI b2)), (0, .ref yp), (1, .ref yb), (2, .ref yg)]) hx hb dL_best_167 hl (by decide) rfl (fun ls hl => ?_)
                  refine lv_iinc (v := (nI b2) + Int32.ofInt (-1)) (lv' := [(5, .int ((nI b2) + Int32.ofInt (-1))), (4, .int 192), (3, .int (nI b2)), (10, .int 192), (9, .int 3), (8, .int (lfd (((3 * pl) + b2) / 3) ((lwy vp vb vg ((3 * pl) + b2) cn) - 10))), (7, .int ((lwy vp vb vg ((3 * pl) + b2) cn) - 10)), (6, .int (nI ((3 * pl) + b2))), (0, .ref yp), (1, .ref yb), (2, .ref yg)]) hx hb dL_best_169 hl (k := 7) rfl rfl (by decide) rfl (fun ls hl => ?_)
                  refine lv_goto (tgt := 9) hx hb dL_best_172 (by decide) ?_
                  have erk : lrk vp vb vg pl (3 * pl + b2) cn = 192 := by rw [lrk, lkd, if_pos c_658, lph, if_neg c_706]; first | rfl | decide
                  exact ih1 b2 ((nI b2) + Int32.ofInt (-1)) (nI b2) 192 (by omega) (dec_sub b2) (by rw [show 3 - b2 = (3 - (b2 + 1)) + 1 by omega, lbs, show 2 - (3 - (b2 + 1)) = b2 by omega, ← hf, erk, if_neg (fun w => w.elim (fun z => absurd c_656 (Int32.not_le.mpr z)) c_710)]) (by omega) _ (lv_sub hl [0, 1, 2, 8, 9, 10] rfl)
        · refine lv_goto (tgt := 169) hx hb dL_best_45 (by decide) ?_
          refine lv_iinc (v := (nI b2) + Int32.ofInt (-1)) (lv' := [(5, .int ((nI b2) + Int32.ofInt (-1))), (7, .int ((lwy vp vb vg ((3 * pl) + b2) cn) - 10)), (6, .int (nI ((3 * pl) + b2))), (4, .int mm), (3, .int ff), (0, .ref yp), (1, .ref yb), (2, .ref yg)]) hx hb dL_best_169 hl (k := 2) rfl rfl (by decide) rfl (fun ls hl => ?_)
          refine lv_goto (tgt := 9) hx hb dL_best_172 (by decide) ?_
          exact ih1 b2 ((nI b2) + Int32.ofInt (-1)) ff mm (by omega) (dec_sub b2) (by rw [show 3 - b2 = (3 - (b2 + 1)) + 1 by omega, lbs, show 2 - (3 - (b2 + 1)) = b2 by omega, ← hf, if_pos (Or.inl (Int32.not_le.mp c_656))]) (by omega) _ (lv_sub hl [0, 3, 4, 5, 6, 7] rfl)
  exact L1 4 3 2 (-6) (-1) (by decide) (by decide) rfl (by decide) _ (lv_sub hl [0, 1, 2, 3, 4, 5] rfl)

abbrev rm_L_plays : Room := { frames := 5, cells := 0, slots := 0, locals := 125 }
theorem cf_RL_47 {R : Room} {s : State} {args : Array Value} (ht : ∀ w ∈ wsL_law, w.before args s = true) (hR : rm_L_draw.frames + 1 ≤ R.frames ∧ 8 + (1 + 11) + rm_L_draw.locals ≤ R.locals) : CallB R s args RL 47 yL_draw cL_draw 1 (some .int) (.code yL_draw cL_draw 1 (some .int) :: wsL_law) rm_L_draw 0 0 1 ∧ (Cond.static yL_draw).before args s = true := ⟨cw_B 1 ht wd227 wd72 wd229 (by decide +kernel) rfl rfl hR, ht _ wd228⟩
theorem cf_RL_50 {R : Room} {s : State} {args : Array Value} (ht : ∀ w ∈ wsL_law, w.before args s = true) (hR : rm_L_best.frames + 1 ≤ R.frames ∧ 8 + (11 + 11) + rm_L_best.locals ≤ R.locals) : CallB R s args RL 50 yL_best cL_best 11 (some .int) (.code yL_best cL_best 11 (some .int) :: wsL_law) rm_L_best 0 0 3 ∧ (Cond.static yL_best).before args s = true := ⟨cw_B 3 ht wd184 wd72 wd186 (by decide +kernel) rfl rfl hR, ht _ wd185⟩
theorem cf_RL_58 {R : Room} {s : State} {args : Array Value} (ht : ∀ w ∈ wsL_law, w.before args s = true) (hR : rm_L_ends.frames + 1 ≤ R.frames ∧ 8 + (5 + 11) + rm_L_ends.locals ≤ R.locals) : CallB R s args RL 58 yL_ends cL_ends 5 none (.code yL_ends cL_ends 5 none :: wsL_law) rm_L_ends 0 0 3 ∧ (Cond.static yL_ends).before args s = true := ⟨cw_B 3 ht wd256 wd72 wd258 (by decide +kernel) rfl rfl hR, ht _ wd257⟩
theorem cf_RL_54 {R : Room} {s : State} {args : Array Value} (ht : ∀ w ∈ wsL_law, w.before args s = true) (hR : rm_L_go.frames + 1 ≤ R.frames ∧ 8 + (8 + 11) + rm_L_go.locals ≤ R.locals) : CallB R s args RL 54 yL_go cL_go 8 none (.code yL_go cL_go 8 none :: wsL_law) rm_L_go 0 0 6 ∧ (Cond.static yL_go).before args s = true := ⟨cw_B 6 ht wd250 wd72 wd252 (by decide +kernel) rfl rfl hR, ht _ wd251⟩
set_option maxHeartbeats 1000000 in
set_option maxRecDepth 100000 in
theorem c_L_plays (l : Launch) (G : va_G) (cI cC cZ cG : ClassId) (sz : Nat) (yp ys yb yg : Nat) (vp vs vb vg : IA) (pl : Nat) (hpr : ∀ k, k < 12 → okv (vp k)) (hx0 : ¬ vg 3 < 0) (h4 : vg 4 = nI pl) (hpl : pl < 4) : Met l yL_plays (.code yL_plays cL_plays 5 none :: wsL_law) rm_L_plays (va_Pc [.ref yp, .ref ys, .ref yb, .ref yg] (bw G cI cC cZ cG false sz [(yp, .inl (cI, 12, .inl vp)), (ys, .inl (cI, 12, .inl vs)), (yb, .inl (cI, 12, .inl vb)), (yg, .inl (cI, 10, .inl vg))])) (va_Qv (fun (u : IA × IA × IA × IA) => u.1 = (lpS (vp, vs, vb, vg)).1 ∧ u.2.1 = (lpS (vp, vs, vb, vg)).2.1 ∧ u.2.2.1 = (lpS (vp, vs, vb, vg)).2.2.1 ∧ u.2.2.2 = (lpS (vp, vs, vb, vg)).2.2.2) (fun (u : IA × IA × IA × IA) t => va_P G vwCl [(yp, .inl (cI, 12, .inl u.1)), (ys, .inl (cI, 12, .inl u.2.1)), (yb, .inl (cI, 12, .inl u.2.2.1)), (yg, .inl (cI, 10, .inl u.2.2.2))] t.heap ∧ va_D (va_A [(yp, .inl (cI, 12, .inl vp)), (ys, .inl (cI, 12, .inl vs)), (yb, .inl (cI, 12, .inl vb)), (yg, .inl (cI, 10, .inl vg))] sz) [(yp, .inl (cI, 12, .inl u.1)), (ys, .inl (cI, 12, .inl u.2.1)), (yb, .inl (cI, 12, .inl u.2.2.1)), (yg, .inl (cI, 10, .inl u.2.2.2))]) (va_A [(yp, .inl (cI, 12, .inl vp)), (ys, .inl (cI, 12, .inl vs)), (yb, .inl (cI, 12, .inl vb)), (yg, .inl (cI, 10, .inl vg))] sz)) 0 0 (va_A [(yp, .inl (cI, 12, .inl vp)), (ys, .inl (cI, 12, .inl vs)), (yb, .inl (cI, 12, .inl vb)), (yg, .inl (cI, 10, .inl vg))] sz) := by
  refine met_bw rfl (Nat.le_of_ble_eq_true rfl) ?_
  intro p e s m below meth c ls hx hb hr hml hown hts hlocks hin hsz hP hK hD0 hX0 hl
  have hown : s.vm.findClass RL = some m.cls := hown
  have hl : lv_has ls 5 [(0, .ref yp), (1, .ref ys), (2, .ref yb), (3, .ref yg)] := hl
  subst hsz
  have hD := hD0.self (sz := s.heap.size)
  generalize hAe : va_A [(yp, .inl (cI, 12, .inl vp)), (ys, .inl (cI, 12, .inl vs)), (yb, .inl (cI, 12, .inl vb)), (yg, .inl (cI, 10, .inl vg))] s.heap.size = A at hD ⊢
  have hA : ∀ q : Nat, s.heap.size ≤ q → A q := fun q h => by rw [← hAe]; exact Or.inr h
  have hS : va_S A s.heap s.heap [] := va_S.rf
  refine lv_aload_n hx hb dL_plays_0 rfl (lv_at hl 3 rfl) ?_
  refine lv_iconst (v := 5) hx hb dL_plays_1 (by decide) ?_
  refine lv_aload_n hx hb dL_plays_2 rfl (lv_at hl 3 rfl) ?_
  have hPc := hP.sub (ws' := [(yg, .inl (cI, 10, .inl vg))]) [3] rfl
  have hDc := (hD.sub (ws' := [(yg, .inl (cI, 10, .inl vg))]) [3] (by decide) rfl).tt
  have hFc := va_free (wc := [(yg, .inl (cI, 10, .inl vg))]) hD hS hA [3] rfl
  refine va_calli (va_runS (As := [.ref yg]) (rest := [.int 5, .ref yg]) ⟨hx, hb, hml, hown, hts⟩ (c_L_draw l G cI cC cZ cG s.heap.size yg vg hx0) (cf_RL_47 hts ⟨Nat.le_of_ble_eq_true rfl, Nat.le_of_ble_eq_true rfl⟩) (pre_S hK hPc hDc) rfl rfl hl.1 rfl (lv_room (Nat.le_of_ble_eq_true rfl)) dL_plays_3 ⟨Nat.le_of_ble_eq_true rfl, Nat.le_of_ble_eq_true rfl⟩) hS (fun q _ h => hFc q h) hFc (fun r713 u713 t713 H713 locs713 ht713 hvm713 hw713 hB713 hz713 hk713 hS => ?_)
  obtain ⟨vg713, rfl⟩ : ∃ z, z = u713 := ⟨_, rfl⟩
  obtain ⟨hP1, hD1⟩ := hB713
  rw [ht713] at hP1
  try dsimp only at hw713
  obtain ⟨hr713, hw713⟩ := hw713
  subst hr713
  obtain rfl := hw713
  obtain ⟨hP, hD⟩ := va_join (wr := [(yp, .inl (cI, 12, .inl vp)), (ys, .inl (cI, 12, .inl vs)), (yb, .inl (cI, 12, .inl vb))]) (w1 := [(yg, .inl (cI, 10, .inl (upd vg 3 (nx (vg 3)))))]) hP hD [3] [0, 1, 2] rfl rfl (by decide) (by decide) hk713 hFc hP1 hD1
  have hP : va_P G vwCl [(yp, .inl (cI, 12, .inl vp)), (ys, .inl (cI, 12, .inl vs)), (yb, .inl (cI, 12, .inl vb)), (yg, .inl (cI, 10, .inl (upd vg 3 (nx (vg 3)))))] H713 := hP
  have hD : va_D A [(yp, .inl (cI, 12, .inl vp)), (ys, .inl (cI, 12, .inl vs)), (yb, .inl (cI, 12, .inl vb)), (yg, .inl (cI, 10, .inl (upd vg 3 (nx (vg 3)))))] := hD
  obtain ⟨cn, hc1, hc, ecn⟩ := co_ok (nx_nn hx0)
  refine za_st hx hb hK.1 hP hD hS 3 0 rfl rfl 5 rfl (by decide) (by decide) dL_plays_6 (fun H714 locs714 hP hD hS => ?_)
  have hP : va_P G vwCl [(yp, .inl (cI, 12, .inl vp)), (ys, .inl (cI, 12, .inl vs)), (yb, .inl (cI, 12, .inl vb)), (yg, .inl (cI, 10, .inl (upd (upd vg 3 (nx (vg 3))) 5 (co (nx (vg 3))))))] H714 := hP
  have hD : va_D A [(yp, .inl (cI, 12, .inl vp)), (ys, .inl (cI, 12, .inl vs)), (yb, .inl (cI, 12, .inl vb)), (yg, .inl (cI, 10, .inl (upd (upd vg 3 (nx (vg 3))) 5 (co (nx (vg 3))))))] := hD
  refine lv_aload_n hx hb dL_plays_7 rfl (lv_at hl 3 rfl) ?_
  refine lv_bipush (v := 7) hx hb dL_plays_8 (by decide) ?_
  refine lv_dup2_11 hx hb dL_plays_10 rfl rfl ?_
  refine za_ld hx hb hK.1 hP 3 0 rfl rfl 7 rfl (by decide) (by decide) dL_plays_11 ?_
  refine lv_iconst (v := 1) hx hb dL_plays_12 (by decide) ?_
  refine lv_iadd hx hb dL_plays_13 ?_
  refine za_st hx hb hK.1 hP hD hS 3 0 rfl rfl 7 rfl (by decide) (by decide) dL_plays_14 (fun H715 locs715 hP hD hS => ?_)
  have hP : va_P G vwCl [(yp, .inl (cI, 12, .inl vp)), (ys, .inl (cI, 12, .inl vs)), (yb, .inl (cI, 12, .inl vb)), (yg, .inl (cI, 10, .inl (upd (upd (upd vg 3 (nx (vg 3))) 5 (co (nx (vg 3)))) 7 ((vg 7) + 1))))] H715 := hP
  have hD : va_D A [(yp, .inl (cI, 12, .inl vp)), (ys, .inl (cI, 12, .inl vs)), (yb, .inl (cI, 12, .inl vb)), (yg, .inl (cI, 10, .inl (upd (upd (upd vg 3 (nx (vg 3))) 5 (co (nx (vg 3)))) 7 ((vg 7) + 1))))] := hD
  have eg : upd (upd (upd vg 3 (nx (vg 3))) 5 (co (nx (vg 3)))) 7 ((vg 7) + 1) = lpG vg := rfl
  rw [eg] at hP hD
  have hP : va_P G vwCl [(yp, .inl (cI, 12, .inl vp)), (ys, .inl (cI, 12, .inl vs)), (yb, .inl (cI, 12, .inl vb)), (yg, .inl (cI, 10, .inl (lpG vg)))] H715 := hP
  have hD : va_D A [(yp, .inl (cI, 12, .inl vp)), (ys, .inl (cI, 12, .inl vs)), (yb, .inl (cI, 12, .inl vb)), (yg, .inl (cI, 10, .inl (lpG vg)))] := hD
  have h4' : lpG vg 4 = nI pl := by rw [lpG, upd_ne (by decide), upd_ne (by decide), upd_ne (by decide)]; exact h4
  have h5' : lpG vg 5 = nI cn := by rw [lpG, upd_ne (by decide), upd_eq]; exact ecn
  refine lv_aload_n hx hb dL_plays_15 rfl (lv_at hl 0 rfl) ?_
  refine lv_aload_n hx hb dL_plays_16 rfl (lv_at hl 2 rfl) ?_
  refine lv_aload_n hx hb dL_plays_17 rfl (lv_at hl 3 rfl) ?_
  have hPc := hP.sub (ws' := [(yp, .inl (cI, 12, .inl vp)), (yb, .inl (cI, 12, .inl vb)), (yg, .inl (cI, 10, .inl (lpG vg)))]) [0, 2, 3] rfl
  have hDc := (hD.sub (ws' := [(yp, .inl (cI, 12, .inl vp)), (yb, .inl (cI, 12, .inl vb)), (yg, .inl (cI, 10, .inl (lpG vg)))]) [0, 2, 3] (by decide) rfl).tt
  refine vp_callSi (va_Run.run (va_runS (As := [.ref yp, .ref yb, .ref yg]) (rest := []) ⟨hx, hb, hml, hown, hts⟩ (c_L_best l G cI cC cZ cG H715.size yp yb yg vp vb (lpG vg) pl cn hpr h4' hpl h5' hc1 hc) (cf_RL_50 hts ⟨Nat.le_of_ble_eq_true rfl, Nat.le_of_ble_eq_true rfl⟩) (pre_S hK hPc hDc) rfl rfl hl.1 rfl (lv_room (Nat.le_of_ble_eq_true rfl)) dL_plays_18 ⟨Nat.le_of_ble_eq_true rfl, Nat.le_of_ble_eq_true rfl⟩)) (fun r716 hr716 => ?_)
  subst hr716
  refine lv_istore (lv' := [(4, .int (lbe vp vb (lpG vg) pl cn)), (0, .ref yp), (1, .ref ys), (2, .ref yb), (3, .ref yg)]) hx hb dL_plays_21 hl (by decide) rfl (fun ls hl => ?_)
  refine lv_iload hx hb dL_plays_23 (lv_at hl 0 rfl) ?_
  refine lv_if_lt (tgt := 63) hx hb dL_plays_25 (by decide) (fun c_717 => ?_) (fun c_717 => ?_)
  · refine lv_aload_n hx hb dL_plays_63 rfl (lv_at hl 1 rfl) ?_
    refine lv_aload_n hx hb dL_plays_64 rfl (lv_at hl 3 rfl) ?_
    refine lv_aload_n hx hb dL_plays_65 rfl (lv_at hl 4 rfl) ?_
    have hPc := hP.sub (ws' := [(yp, .inl (cI, 12, .inl vp)), (yb, .inl (cI, 12, .inl vb)), (yg, .inl (cI, 10, .inl (lpG vg)))]) [0, 2, 3] rfl
    have hDc := (hD.sub (ws' := [(yp, .inl (cI, 12, .inl vp)), (yb, .inl (cI, 12, .inl vb)), (yg, .inl (cI, 10, .inl (lpG vg)))]) [0, 2, 3] (by decide) rfl).tt
    have hFc := va_free (wc := [(yp, .inl (cI, 12, .inl vp)), (yb, .inl (cI, 12, .inl vb)), (yg, .inl (cI, 10, .inl (lpG vg)))]) hD hS hA [0, 2, 3] rfl
    refine va_callv (va_runS (As := [.ref yp, .ref yb, .ref yg]) (rest := []) ⟨hx, hb, hml, hown, hts⟩ (c_L_ends l G cI cC cZ cG H715.size yp yb yg vp vb (lpG vg)) (cf_RL_58 hts ⟨Nat.le_of_ble_eq_true rfl, Nat.le_of_ble_eq_true rfl⟩) (pre_S hK hPc hDc) rfl rfl hl.1 rfl (lv_room (Nat.le_of_ble_eq_true rfl)) dL_plays_66 ⟨Nat.le_of_ble_eq_true rfl, Nat.le_of_ble_eq_true rfl⟩) hS (fun q _ h => hFc q h) hFc (fun u718 t718 H718 locs718 ht718 hvm718 hw718 hB718 hz718 hk718 hS => ?_)
    obtain ⟨vb718, vg718⟩ := u718
    obtain ⟨hP1, hD1⟩ := hB718
    rw [ht718] at hP1
    try dsimp only at hw718
    obtain ⟨rfl, rfl⟩ := hw718
    obtain ⟨hP, hD⟩ := va_join (wr := [(ys, .inl (cI, 12, .inl vs))]) (w1 := [(yp, .inl (cI, 12, .inl vp)), (yb, .inl (cI, 12, .inl ((lnS vp vb (lpG vg)).1))), (yg, .inl (cI, 10, .inl ((lnS vp vb (lpG vg)).2)))]) hP hD [0, 2, 3] [1] rfl rfl (by decide) (by decide) hk718 hFc hP1 hD1
    have hP : va_P G vwCl [(ys, .inl (cI, 12, .inl vs)), (yp, .inl (cI, 12, .inl vp)), (yb, .inl (cI, 12, .inl ((lnS vp vb (lpG vg)).1))), (yg, .inl (cI, 10, .inl ((lnS vp vb (lpG vg)).2)))] H718 := hP
    have hD : va_D A [(ys, .inl (cI, 12, .inl vs)), (yp, .inl (cI, 12, .inl vp)), (yb, .inl (cI, 12, .inl ((lnS vp vb (lpG vg)).1))), (yg, .inl (cI, 10, .inl ((lnS vp vb (lpG vg)).2)))] := hD
    have hP := hP.sub (ws' := [(yp, .inl (cI, 12, .inl vp)), (ys, .inl (cI, 12, .inl vs)), (yb, .inl (cI, 12, .inl ((lnS vp vb (lpG vg)).1))), (yg, .inl (cI, 10, .inl ((lnS vp vb (lpG vg)).2)))]) [1, 0, 2, 3] rfl
    have hD := hD.sub (ws' := [(yp, .inl (cI, 12, .inl vp)), (ys, .inl (cI, 12, .inl vs)), (yb, .inl (cI, 12, .inl ((lnS vp vb (lpG vg)).1))), (yg, .inl (cI, 10, .inl ((lnS vp vb (lpG vg)).2)))]) [1, 0, 2, 3] (by decide) rfl
    exact W.vret hx hb hr (fun t ht hW => ⟨⟨(vp, vs, ((lnS vp vb (lpG vg)).1), ((lnS vp vb (lpG vg)).2)), rfl, ⟨by rw [lpS_eq, h4, nI_clamp (show pl < 2 ^ 31 by omega), ecn, nI_clamp (show cn < 2 ^ 31 by omega), lpA, if_pos c_717], by rw [lpS_eq, h4, nI_clamp (show pl < 2 ^ 31 by omega), ecn, nI_clamp (show cn < 2 ^ 31 by omega), lpA, if_pos c_717], by rw [lpS_eq, h4, nI_clamp (show pl < 2 ^ 31 by omega), ecn, nI_clamp (show cn < 2 ^ 31 by omega), lpA, if_pos c_717], by rw [lpS_eq, h4, nI_clamp (show pl < 2 ^ 31 by omega), ecn, nI_clamp (show cn < 2 ^ 31 by omega), lpA, if_pos c_717]⟩, by rw [ht]; exact hP, hD⟩, hS.F ht⟩) hS.2.2 dL_plays_69
  · obtain ⟨j, hj, ej, hwj⟩ := lbe_ok (Int32.not_lt.mpr (Int32.not_lt.mp c_717))
    rw [ej] at hl
    refine lv_aload_n hx hb dL_plays_28 rfl (lv_at hl 1 rfl) ?_
    refine lv_aload_n hx hb dL_plays_29 rfl (lv_at hl 2 rfl) ?_
    refine lv_aload_n hx hb dL_plays_30 rfl (lv_at hl 3 rfl) ?_
    refine lv_aload_n hx hb dL_plays_31 rfl (lv_at hl 4 rfl) ?_
    refine lv_iconst (v := 3) hx hb dL_plays_32 (by decide) ?_
    refine lv_aload_n hx hb dL_plays_33 rfl (lv_at hl 4 rfl) ?_
    refine lv_iconst (v := 4) hx hb dL_plays_34 (by decide) ?_
    refine za_ld hx hb hK.1 hP 3 0 rfl rfl 4 rfl (by decide) (by decide) dL_plays_35 ?_
    refine zi_mul hx hb 3 pl dL_plays_36 rfl h4' ?_
    refine lv_iload hx hb dL_plays_37 (lv_at hl 0 rfl) ?_
    refine zi_add hx hb (3 * pl) j dL_plays_39 rfl rfl ?_
    refine lv_aload_n hx hb dL_plays_40 rfl (lv_at hl 1 rfl) ?_
    refine lv_aload_n hx hb dL_plays_41 rfl (lv_at hl 3 rfl) ?_
    refine lv_aload_n hx hb dL_plays_42 rfl (lv_at hl 4 rfl) ?_
    refine lv_iconst (v := 3) hx hb dL_plays_43 (by decide) ?_
    refine lv_aload_n hx hb dL_plays_44 rfl (lv_at hl 4 rfl) ?_
    refine lv_iconst (v := 4) hx hb dL_plays_45 (by decide) ?_
    refine za_ld hx hb hK.1 hP 3 0 rfl rfl 4 rfl (by decide) (by decide) dL_plays_46 ?_
    refine zi_mul hx hb 3 pl dL_plays_47 rfl h4' ?_
    refine lv_iload hx hb dL_plays_48 (lv_at hl 0 rfl) ?_
    refine zi_add hx hb (3 * pl) j dL_plays_50 rfl rfl ?_
    refine lv_aload_n hx hb dL_plays_51 rfl (lv_at hl 4 rfl) ?_
    refine lv_iconst (v := 5) hx hb dL_plays_52 (by decide) ?_
    refine za_ld hx hb hK.1 hP 3 0 rfl rfl 5 rfl (by decide) (by decide) dL_plays_53 ?_
    rw [h5']
    have hPc := hP.sub (ws' := [(yp, .inl (cI, 12, .inl vp)), (yb, .inl (cI, 12, .inl vb)), (yg, .inl (cI, 10, .inl (lpG vg)))]) [0, 2, 3] rfl
    have hDc := (hD.sub (ws' := [(yp, .inl (cI, 12, .inl vp)), (yb, .inl (cI, 12, .inl vb)), (yg, .inl (cI, 10, .inl (lpG vg)))]) [0, 2, 3] (by decide) rfl).tt
    refine vp_callSi (va_Run.run (va_runS (As := [.ref yp, .ref yb, .ref yg, .int (nI ((3 * pl) + j)), .int (nI cn)]) (rest := [.int (nI ((3 * pl) + j)), .ref yg, .ref yb, .ref ys, .ref yp]) ⟨hx, hb, hml, hown, hts⟩ (c_L_why l G cI cC cZ cG H715.size yp yb yg vp vb (lpG vg) ((3 * pl) + j) cn hpr (by omega) (by omega) (by omega)) (cf_RL_43 hts ⟨Nat.le_of_ble_eq_true rfl, Nat.le_of_ble_eq_true rfl⟩) (pre_S hK hPc hDc) rfl rfl hl.1 rfl (lv_room (Nat.le_of_ble_eq_true rfl)) dL_plays_54 ⟨Nat.le_of_ble_eq_true rfl, Nat.le_of_ble_eq_true rfl⟩)) (fun r719 hr719 => ?_)
    subst hr719
    refine lv_bipush (v := 10) hx hb dL_plays_57 (by decide) ?_
    refine lv_isub hx hb dL_plays_59 ?_
    have hPc : va_P G vwCl [(yp, .inl (cI, 12, .inl vp)), (ys, .inl (cI, 12, .inl vs)), (yb, .inl (cI, 12, .inl vb)), (yg, .inl (cI, 10, .inl (lpG vg)))] H715 := hP
    have hDc := hD.tt
    have hFc := va_free (wc := [(yp, .inl (cI, 12, .inl vp)), (ys, .inl (cI, 12, .inl vs)), (yb, .inl (cI, 12, .inl vb)), (yg, .inl (cI, 10, .inl (lpG vg)))]) hD hS hA [0, 1, 2, 3] rfl
    refine va_callv (va_runS (As := [.ref yp, .ref ys, .ref yb, .ref yg, .int (nI ((3 * pl) + j)), .int ((lwy vp vb (lpG vg) ((3 * pl) + j) cn) - 10)]) (rest := []) ⟨hx, hb, hml, hown, hts⟩ (c_L_go l G cI cC cZ cG H715.size yp ys yb yg vp vs vb (lpG vg) ((3 * pl) + j) ((lwy vp vb (lpG vg) ((3 * pl) + j) cn) - 10) (by omega)) (cf_RL_54 hts ⟨Nat.le_of_ble_eq_true rfl, Nat.le_of_ble_eq_true rfl⟩) (pre_S hK hPc hDc) rfl rfl hl.1 rfl (lv_room (Nat.le_of_ble_eq_true rfl)) dL_plays_60 ⟨Nat.le_of_ble_eq_true rfl, Nat.le_of_ble_eq_true rfl⟩) hS (fun q _ h => hFc q h) hFc (fun u720 t720 H720 locs720 ht720 hvm720 hw720 hB720 hz720 hk720 hS => ?_)
    obtain ⟨vp720, vs720, vb720, vg720⟩ := u720
    obtain ⟨hP1, hD1⟩ := hB720
    rw [ht720] at hP1
    try dsimp only at hw720
    obtain ⟨rfl, rfl, rfl, rfl⟩ := hw720
    obtain ⟨hP, hD⟩ := va_join (wr := []) (w1 := [(yp, .inl (cI, 12, .inl ((lgS vp vs vb (lpG vg) ((3 * pl) + j) ((lwy vp vb (lpG vg) ((3 * pl) + j) cn) - 10)).1))), (ys, .inl (cI, 12, .inl ((lgS vp vs vb (lpG vg) ((3 * pl) + j) ((lwy vp vb (lpG vg) ((3 * pl) + j) cn) - 10)).2.1))), (yb, .inl (cI, 12, .inl ((lgS vp vs vb (lpG vg) ((3 * pl) + j) ((lwy vp vb (lpG vg) ((3 * pl) + j) cn) - 10)).2.2.1))), (yg, .inl (cI, 10, .inl ((lgS vp vs vb (lpG vg) ((3 * pl) + j) ((lwy vp vb (lpG vg) ((3 * pl) + j) cn) - 10)).2.2.2)))]) hP hD [0, 1, 2, 3] [] rfl rfl (by decide) (by decide) hk720 hFc hP1 hD1
    have hP : va_P G vwCl [(yp, .inl (cI, 12, .inl ((lgS vp vs vb (lpG vg) ((3 * pl) + j) ((lwy vp vb (lpG vg) ((3 * pl) + j) cn) - 10)).1))), (ys, .inl (cI, 12, .inl ((lgS vp vs vb (lpG vg) ((3 * pl) + j) ((lwy vp vb (lpG vg) ((3 * pl) + j) cn) - 10)).2.1))), (yb, .inl (cI, 12, .inl ((lgS vp vs vb (lpG vg) ((3 * pl) + j) ((lwy vp vb (lpG vg) ((3 * pl) + j) cn) - 10)).2.2.1))), (yg, .inl (cI, 10, .inl ((lgS vp vs vb (lpG vg) ((3 * pl) + j) ((lwy vp vb (lpG vg) ((3 * pl) + j) cn) - 10)).2.2.2)))] H720 := hP
    have hD : va_D A [(yp, .inl (cI, 12, .inl ((lgS vp vs vb (lpG vg) ((3 * pl) + j) ((lwy vp vb (lpG vg) ((3 * pl) + j) cn) - 10)).1))), (ys, .inl (cI, 12, .inl ((lgS vp vs vb (lpG vg) ((3 * pl) + j) ((lwy vp vb (lpG vg) ((3 * pl) + j) cn) - 10)).2.1))), (yb, .inl (cI, 12, .inl ((lgS vp vs vb (lpG vg) ((3 * pl) + j) ((lwy vp vb (lpG vg) ((3 * pl) + j) cn) - 10)).2.2.1))), (yg, .inl (cI, 10, .inl ((lgS vp vs vb (lpG vg) ((3 * pl) + j) ((lwy vp vb (lpG vg) ((3 * pl) + j) cn) - 10)).2.2.2)))] := hD
    refine lv_aload_n hx hb dL_plays_63 rfl (lv_at hl 1 rfl) ?_
    refine lv_aload_n hx hb dL_plays_64 rfl (lv_at hl 3 rfl) ?_
    refine lv_aload_n hx hb dL_plays_65 rfl (lv_at hl 4 rfl) ?_
    have hPc := hP.sub (ws' := [(yp, .inl (cI, 12, .inl ((lgS vp vs vb (lpG vg) ((3 * pl) + j) ((lwy vp vb (lpG vg) ((3 * pl) + j) cn) - 10)).1))), (yb, .inl (cI, 12, .inl ((lgS vp vs vb (lpG vg) ((3 * pl) + j) ((lwy vp vb (lpG vg) ((3 * pl) + j) cn) - 10)).2.2.1))), (yg, .inl (cI, 10, .inl ((lgS vp vs vb (lpG vg) ((3 * pl) + j) ((lwy vp vb (lpG vg) ((3 * pl) + j) cn) - 10)).2.2.2)))]) [0, 2, 3] rfl
    have hDc := (hD.sub (ws' := [(yp, .inl (cI, 12, .inl ((lgS vp vs vb (lpG vg) ((3 * pl) + j) ((lwy vp vb (lpG vg) ((3 * pl) + j) cn) - 10)).1))), (yb, .inl (cI, 12, .inl ((lgS vp vs vb (lpG vg) ((3 * pl) + j) ((lwy vp vb (lpG vg) ((3 * pl) + j) cn) - 10)).2.2.1))), (yg, .inl (cI, 10, .inl ((lgS vp vs vb (lpG vg) ((3 * pl) + j) ((lwy vp vb (lpG vg) ((3 * pl) + j) cn) - 10)).2.2.2)))]) [0, 2, 3] (by decide) rfl).tt
    have hFc := va_free (wc := [(yp, .inl (cI, 12, .inl ((lgS vp vs vb (lpG vg) ((3 * pl) + j) ((lwy vp vb (lpG vg) ((3 * pl) + j) cn) - 10)).1))), (yb, .inl (cI, 12, .inl ((lgS vp vs vb (lpG vg) ((3 * pl) + j) ((lwy vp vb (lpG vg) ((3 * pl) + j) cn) - 10)).2.2.1))), (yg, .inl (cI, 10, .inl ((lgS vp vs vb (lpG vg) ((3 * pl) + j) ((lwy vp vb (lpG vg) ((3 * pl) + j) cn) - 10)).2.2.2)))]) hD hS hA [0, 2, 3] rfl
    refine va_callv (va_runS (As := [.ref yp, .ref yb, .ref yg]) (rest := []) ⟨hx, hb, hml, hown, hts⟩ (c_L_ends l G cI cC cZ cG H720.size yp yb yg ((lgS vp vs vb (lpG vg) ((3 * pl) + j) ((lwy vp vb (lpG vg) ((3 * pl) + j) cn) - 10)).1) ((lgS vp vs vb (lpG vg) ((3 * pl) + j) ((lwy vp vb (lpG vg) ((3 * pl) + j) cn) - 10)).2.2.1) ((lgS vp vs vb (lpG vg) ((3 * pl) + j) ((lwy vp vb (lpG vg) ((3 * pl) + j) cn) - 10)).2.2.2)) (cf_RL_58 hts ⟨Nat.le_of_ble_eq_true rfl, Nat.le_of_ble_eq_true rfl⟩) (pre_S hK hPc hDc) rfl rfl hl.1 rfl (lv_room (Nat.le_of_ble_eq_true rfl)) dL_plays_66 ⟨Nat.le_of_ble_eq_true rfl, Nat.le_of_ble_eq_true rfl⟩) hS (fun q _ h => hFc q h) hFc (fun u721 t721 H721 locs721 ht721 hvm721 hw721 hB721 hz721 hk721 hS => ?_)
    obtain ⟨vb721, vg721⟩ := u721
    obtain ⟨hP1, hD1⟩ := hB721
    rw [ht721] at hP1
    try dsimp only at hw721
    obtain ⟨rfl, rfl⟩ := hw721
    obtain ⟨hP, hD⟩ := va_join (wr := [(ys, .inl (cI, 12, .inl ((lgS vp vs vb (lpG vg) ((3 * pl) + j) ((lwy vp vb (lpG vg) ((3 * pl) + j) cn) - 10)).2.1)))]) (w1 := [(yp, .inl (cI, 12, .inl ((lgS vp vs vb (lpG vg) ((3 * pl) + j) ((lwy vp vb (lpG vg) ((3 * pl) + j) cn) - 10)).1))), (yb, .inl (cI, 12, .inl ((lnS ((lgS vp vs vb (lpG vg) ((3 * pl) + j) ((lwy vp vb (lpG vg) ((3 * pl) + j) cn) - 10)).1) ((lgS vp vs vb (lpG vg) ((3 * pl) + j) ((lwy vp vb (lpG vg) ((3 * pl) + j) cn) - 10)).2.2.1) ((lgS vp vs vb (lpG vg) ((3 * pl) + j) ((lwy vp vb (lpG vg) ((3 * pl) + j) cn) - 10)).2.2.2)).1))), (yg, .inl (cI, 10, .inl ((lnS ((lgS vp vs vb (lpG vg) ((3 * pl) + j) ((lwy vp vb (lpG vg) ((3 * pl) + j) cn) - 10)).1) ((lgS vp vs vb (lpG vg) ((3 * pl) + j) ((lwy vp vb (lpG vg) ((3 * pl) + j) cn) - 10)).2.2.1) ((lgS vp vs vb (lpG vg) ((3 * pl) + j) ((lwy vp vb (lpG vg) ((3 * pl) + j) cn) - 10)).2.2.2)).2)))]) hP hD [0, 2, 3] [1] rfl rfl (by decide) (by decide) hk721 hFc hP1 hD1
    have hP : va_P G vwCl [(ys, .inl (cI, 12, .inl ((lgS vp vs vb (lpG vg) ((3 * pl) + j) ((lwy vp vb (lpG vg) ((3 * pl) + j) cn) - 10)).2.1))), (yp, .inl (cI, 12, .inl ((lgS vp vs vb (lpG vg) ((3 * pl) + j) ((lwy vp vb (lpG vg) ((3 * pl) + j) cn) - 10)).1))), (yb, .inl (cI, 12, .inl ((lnS ((lgS vp vs vb (lpG vg) ((3 * pl) + j) ((lwy vp vb (lpG vg) ((3 * pl) + j) cn) - 10)).1) ((lgS vp vs vb (lpG vg) ((3 * pl) + j) ((lwy vp vb (lpG vg) ((3 * pl) + j) cn) - 10)).2.2.1) ((lgS vp vs vb (lpG vg) ((3 * pl) + j) ((lwy vp vb (lpG vg) ((3 * pl) + j) cn) - 10)).2.2.2)).1))), (yg, .inl (cI, 10, .inl ((lnS ((lgS vp vs vb (lpG vg) ((3 * pl) + j) ((lwy vp vb (lpG vg) ((3 * pl) + j) cn) - 10)).1) ((lgS vp vs vb (lpG vg) ((3 * pl) + j) ((lwy vp vb (lpG vg) ((3 * pl) + j) cn) - 10)).2.2.1) ((lgS vp vs vb (lpG vg) ((3 * pl) + j) ((lwy vp vb (lpG vg) ((3 * pl) + j) cn) - 10)).2.2.2)).2)))] H721 := hP
    have hD : va_D A [(ys, .inl (cI, 12, .inl ((lgS vp vs vb (lpG vg) ((3 * pl) + j) ((lwy vp vb (lpG vg) ((3 * pl) + j) cn) - 10)).2.1))), (yp, .inl (cI, 12, .inl ((lgS vp vs vb (lpG vg) ((3 * pl) + j) ((lwy vp vb (lpG vg) ((3 * pl) + j) cn) - 10)).1))), (yb, .inl (cI, 12, .inl ((lnS ((lgS vp vs vb (lpG vg) ((3 * pl) + j) ((lwy vp vb (lpG vg) ((3 * pl) + j) cn) - 10)).1) ((lgS vp vs vb (lpG vg) ((3 * pl) + j) ((lwy vp vb (lpG vg) ((3 * pl) + j) cn) - 10)).2.2.1) ((lgS vp vs vb (lpG vg) ((3 * pl) + j) ((lwy vp vb (lpG vg) ((3 * pl) + j) cn) - 10)).2.2.2)).1))), (yg, .inl (cI, 10, .inl ((lnS ((lgS vp vs vb (lpG vg) ((3 * pl) + j) ((lwy vp vb (lpG vg) ((3 * pl) + j) cn) - 10)).1) ((lgS vp vs vb (lpG vg) ((3 * pl) + j) ((lwy vp vb (lpG vg) ((3 * pl) + j) cn) - 10)).2.2.1) ((lgS vp vs vb (lpG vg) ((3 * pl) + j) ((lwy vp vb (lpG vg) ((3 * pl) + j) cn) - 10)).2.2.2)).2)))] := hD
    have hP := hP.sub (ws' := [(yp, .inl (cI, 12, .inl ((lgS vp vs vb (lpG vg) ((3 * pl) + j) ((lwy vp vb (lpG vg) ((3 * pl) + j) cn) - 10)).1))), (ys, .inl (cI, 12, .inl ((lgS vp vs vb (lpG vg) ((3 * pl) + j) ((lwy vp vb (lpG vg) ((3 * pl) + j) cn) - 10)).2.1))), (yb, .inl (cI, 12, .inl ((lnS ((lgS vp vs vb (lpG vg) ((3 * pl) + j) ((lwy vp vb (lpG vg) ((3 * pl) + j) cn) - 10)).1) ((lgS vp vs vb (lpG vg) ((3 * pl) + j) ((lwy vp vb (lpG vg) ((3 * pl) + j) cn) - 10)).2.2.1) ((lgS vp vs vb (lpG vg) ((3 * pl) + j) ((lwy vp vb (lpG vg) ((3 * pl) + j) cn) - 10)).2.2.2)).1))), (yg, .inl (cI, 10, .inl ((lnS ((lgS vp vs vb (lpG vg) ((3 * pl) + j) ((lwy vp vb (lpG vg) ((3 * pl) + j) cn) - 10)).1) ((lgS vp vs vb (lpG vg) ((3 * pl) + j) ((lwy vp vb (lpG vg) ((3 * pl) + j) cn) - 10)).2.2.1) ((lgS vp vs vb (lpG vg) ((3 * pl) + j) ((lwy vp vb (lpG vg) ((3 * pl) + j) cn) - 10)).2.2.2)).2)))]) [1, 0, 2, 3] rfl
    have hD := hD.sub (ws' := [(yp, .inl (cI, 12, .inl ((lgS vp vs vb (lpG vg) ((3 * pl) + j) ((lwy vp vb (lpG vg) ((3 * pl) + j) cn) - 10)).1))), (ys, .inl (cI, 12, .inl ((lgS vp vs vb (lpG vg) ((3 * pl) + j) ((lwy vp vb (lpG vg) ((3 * pl) + j) cn) - 10)).2.1))), (yb, .inl (cI, 12, .inl ((lnS ((lgS vp vs vb (lpG vg) ((3 * pl) + j) ((lwy vp vb (lpG vg) ((3 * pl) + j) cn) - 10)).1) ((lgS vp vs vb (lpG vg) ((3 * pl) + j) ((lwy vp vb (lpG vg) ((3 * pl) + j) cn) - 10)).2.2.1) ((lgS vp vs vb (lpG vg) ((3 * pl) + j) ((lwy vp vb (lpG vg) ((3 * pl) + j) cn) - 10)).2.2.2)).1))), (yg, .inl (cI, 10, .inl ((lnS ((lgS vp vs vb (lpG vg) ((3 * pl) + j) ((lwy vp vb (lpG vg) ((3 * pl) + j) cn) - 10)).1) ((lgS vp vs vb (lpG vg) ((3 * pl) + j) ((lwy vp vb (lpG vg) ((3 * pl) + j) cn) - 10)).2.2.1) ((lgS vp vs vb (lpG vg) ((3 * pl) + j) ((lwy vp vb (lpG vg) ((3 * pl) + j) cn) - 10)).2.2.2)).2)))]) [1, 0, 2, 3] (by decide) rfl
    exact W.vret hx hb hr (fun t ht hW => ⟨⟨(((lgS vp vs vb (lpG vg) ((3 * pl) + j) ((lwy vp vb (lpG vg) ((3 * pl) + j) cn) - 10)).1), ((lgS vp vs vb (lpG vg) ((3 * pl) + j) ((lwy vp vb (lpG vg) ((3 * pl) + j) cn) - 10)).2.1), ((lnS ((lgS vp vs vb (lpG vg) ((3 * pl) + j) ((lwy vp vb (lpG vg) ((3 * pl) + j) cn) - 10)).1) ((lgS vp vs vb (lpG vg) ((3 * pl) + j) ((lwy vp vb (lpG vg) ((3 * pl) + j) cn) - 10)).2.2.1) ((lgS vp vs vb (lpG vg) ((3 * pl) + j) ((lwy vp vb (lpG vg) ((3 * pl) + j) cn) - 10)).2.2.2)).1), ((lnS ((lgS vp vs vb (lpG vg) ((3 * pl) + j) ((lwy vp vb (lpG vg) ((3 * pl) + j) cn) - 10)).1) ((lgS vp vs vb (lpG vg) ((3 * pl) + j) ((lwy vp vb (lpG vg) ((3 * pl) + j) cn) - 10)).2.2.1) ((lgS vp vs vb (lpG vg) ((3 * pl) + j) ((lwy vp vb (lpG vg) ((3 * pl) + j) cn) - 10)).2.2.2)).2)), rfl, ⟨by rw [lpS_eq, h4, nI_clamp (show pl < 2 ^ 31 by omega), ecn, nI_clamp (show cn < 2 ^ 31 by omega), lpA, if_neg c_717, ej, nI_clamp (show j < 2 ^ 31 by omega), lmS], by rw [lpS_eq, h4, nI_clamp (show pl < 2 ^ 31 by omega), ecn, nI_clamp (show cn < 2 ^ 31 by omega), lpA, if_neg c_717, ej, nI_clamp (show j < 2 ^ 31 by omega), lmS], by rw [lpS_eq, h4, nI_clamp (show pl < 2 ^ 31 by omega), ecn, nI_clamp (show cn < 2 ^ 31 by omega), lpA, if_neg c_717, ej, nI_clamp (show j < 2 ^ 31 by omega), lmS], by rw [lpS_eq, h4, nI_clamp (show pl < 2 ^ 31 by omega), ecn, nI_clamp (show cn < 2 ^ 31 by omega), lpA, if_neg c_717, ej, nI_clamp (show j < 2 ^ 31 by omega), lmS]⟩, by rw [ht]; exact hP, hD⟩, hS.F ht⟩) hS.2.2 dL_plays_69
