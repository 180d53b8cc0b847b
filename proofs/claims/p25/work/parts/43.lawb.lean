abbrev rm_L_needs : Room := { frames := 2, cells := 0, slots := 0, locals := 47 }
set_option maxHeartbeats 1000000 in
set_option maxRecDepth 100000 in
theorem c_L_needs (l : Launch) (G : va_G) (cI cC cZ cG : ClassId) (sz : Nat) (yp yb : Nat) (vp vb : IA) (k : Nat) (hpr : ∀ k, k < 12 → okv (vp k)) (hk : k < 12) : Met l yL_needs (.code yL_needs cL_needs 11 (some .int) :: wsL_law) rm_L_needs (va_Pc [.ref yp, .ref yb, .int (nI k)] (bw G cI cC cZ cG false sz [(yp, .inl (cI, 12, .inl vp)), (yb, .inl (cI, 12, .inl vb))])) (vp_Si (fun r => r = nI (lnd vp vb k))) 0 0 (fun _ => False) := by
  refine met_bw rfl (Nat.le_of_ble_eq_true rfl) ?_
  intro p e s m below meth c ls hx hb hr hml hown hts hlocks hin hsz hP hK hD0 hX0 hl
  have hown : s.vm.findClass RL = some m.cls := hown
  have hl : lv_has ls 11 [(0, .ref yp), (1, .ref yb), (2, .int (nI k))] := hl
  generalize hQ : MQ below (vp_Si (fun r => r = nI (lnd vp vb k))) ([.ref yp, .ref yb, .int (nI k)] : List Value).toArray s 0 0 (fun _ => False) = Q
  generalize hag : ([.ref yp, .ref yb, .int (nI k)] : List Value).toArray = ag at hts hQ ⊢
  rcases hpr k hk with ea | ⟨ak, hak, ea⟩
  · refine lv_aload_n hx hb dL_needs_0 rfl (lv_at hl 0 rfl) ?_
    refine lv_iload_n hx hb dL_needs_1 rfl (lv_at hl 2 rfl) ?_
    refine za_ld hx hb hK.1 hP 0 0 rfl rfl k rfl (by omega) (by decide) dL_needs_2 ?_
    refine lv_if_ge (tgt := 10) hx hb dL_needs_3 (by decide) (fun c_722 => ?_) (fun c_722 => ?_)
    · exact absurd c_722 (by rw [ea]; decide)
    · refine lv_lconst (v := 1) hx hb dL_needs_6 (by decide) ?_
      refine lv_goto (tgt := 15) hx hb dL_needs_7 (by decide) ?_
      refine lv_lstore_n (lv' := [(3, .long 1), (0, .ref yp), (1, .ref yb), (2, .int (nI k))]) hx hb dL_needs_15 rfl hl (by decide) rfl (fun ls hl => ?_)
      refine lv_aload_n hx hb dL_needs_16 rfl (lv_at hl 1 rfl) ?_
      refine lv_iload_n hx hb dL_needs_17 rfl (lv_at hl 3 rfl) ?_
      refine za_ld hx hb hK.1 hP 0 0 rfl rfl k rfl (by omega) (by decide) dL_needs_18 ?_
      refine lv_if_ge (tgt := 26) hx hb dL_needs_19 (by decide) (fun c_723 => ?_) (fun c_723 => ?_)
      · exact absurd c_723 (by rw [ea]; decide)
      · refine lv_iconst (v := 1) hx hb dL_needs_22 (by decide) ?_
        refine lv_goto (tgt := 27) hx hb dL_needs_23 (by decide) ?_
        refine lv_istore (lv' := [(5, .int 1), (3, .long 1), (0, .ref yp), (1, .ref yb), (2, .int (nI k))]) hx hb dL_needs_27 hl (by decide) rfl (fun ls hl => ?_)
        have L1 : ∀ (n : Nat), ∀ (now : Int64), ∀ (n0 : Nat), ∀ (hLJ : LJ (fbN vb (k / 3)) (lnd vp vb k) now n0), ∀ (hn : (lnd vp vb k) + 1 ≤ n0 + n), ∀ (ls : Array Slot), lv_has ls 11 [(5, .int (nI n0)), (3, .long now), (0, .ref yp), (1, .ref yb), (2, .int (nI k))] → W p l e rm_L_needs s m ag below meth c s.heap [] 0 0 Q (F0 m 29 ls []) := by
          intro n
          induction n with
          | zero =>
            intro now n0 hLJ hn ls hl
            exact absurd (LJ_le hLJ) (by omega)
          | succ n ih1 =>
            intro now n0 hLJ hn ls hl
            refine lv_lload_n hx hb dL_needs_29 rfl (lv_at hl 1 rfl) ?_
            refine lv_bipush (v := 35) hx hb dL_needs_30 (by decide) ?_
            refine lv_lshr hx hb dL_needs_32 rfl ?_
            refine lv_lconst (v := 1) hx hb dL_needs_33 (by decide) ?_
            refine lv_land hx hb dL_needs_34 ?_
            refine lv_lconst (v := 0) hx hb dL_needs_35 (by decide) ?_
            refine W.lcmp hx hb dL_needs_36 ?_
            refine lv_if_ne (tgt := 127) hx hb dL_needs_37 (by decide) (fun c_725 => ?_) (fun c_725 => ?_)
            · refine lv_iload hx hb dL_needs_127 (lv_at hl 0 rfl) ?_
              subst hQ
              exact W.iret (v := nI n0) hx hb hr (fun t ht hW => ⟨nI n0, rfl, congrArg nI (LJ_end hLJ (fun z => c_725 ((bt_t (a := 35) rfl (by decide)).mpr z))), ht⟩) (fun _ h => absurd h List.not_mem_nil) dL_needs_129
            · refine lv_lconst (v := 0) hx hb dL_needs_40 (by decide) ?_
              refine lv_lstore (lv' := [(6, .long 0), (5, .int (nI n0)), (3, .long now), (0, .ref yp), (1, .ref yb), (2, .int (nI k))]) hx hb dL_needs_41 hl (by decide) rfl (fun ls hl => ?_)
              refine lv_iconst (v := 0) hx hb dL_needs_43 (by decide) ?_
              refine lv_istore (lv' := [(8, .int 0), (6, .long 0), (5, .int (nI n0)), (3, .long now), (0, .ref yp), (1, .ref yb), (2, .int (nI k))]) hx hb dL_needs_44 hl (by decide) rfl (fun ls hl => ?_)
              have L2 : ∀ (n : Nat), ∀ (a : Nat), ∀ (nx1 : Int64), ∀ (hi : a ≤ 35), ∀ (hN : NX (fbN vb (k / 3)) now nx1 a 1), ∀ (hn2 : 36 ≤ a + n), ∀ (ls : Array Slot), lv_has ls 11 [(8, .int (nI a)), (6, .long nx1), (5, .int (nI n0)), (3, .long now), (0, .ref yp), (1, .ref yb), (2, .int (nI k))] → W p l e rm_L_needs s m ag below meth c s.heap [] 0 0 Q (F0 m 46 ls []) := by
                intro n
                induction n with
                | zero =>
                  intro a nx1 hi hN hn2 ls hl
                  omega
                | succ n ih2 =>
                  intro a nx1 hi hN hn2 ls hl
                  refine lv_iload hx hb dL_needs_46 (lv_at hl 0 rfl) ?_
                  refine lv_bipush (v := 35) hx hb dL_needs_48 (by decide) ?_
                  refine zi_ge (tgt := 118) hx hb a 35 dL_needs_50 (by decide) rfl rfl (by omega) (by decide) (fun c_727 => ?_) (fun c_727 => ?_)
                  · refine lv_lload hx hb dL_needs_118 (lv_at hl 1 rfl) ?_
                    refine lv_lstore_n (lv' := [(3, .long nx1), (8, .int (nI a)), (6, .long nx1), (5, .int (nI n0)), (0, .ref yp), (1, .ref yb), (2, .int (nI k))]) hx hb dL_needs_120 rfl hl (by decide) rfl (fun ls hl => ?_)
                    refine lv_iinc (v := nI (n0 + 1)) (lv' := [(5, .int (nI (n0 + 1))), (3, .long nx1), (8, .int (nI a)), (6, .long nx1), (0, .ref yp), (1, .ref yb), (2, .int (nI k))]) hx hb dL_needs_121 hl (k := 3) rfl (nI_inc n0) (by decide) rfl (fun ls hl => ?_)
                    refine lv_goto (tgt := 29) hx hb dL_needs_124 (by decide) ?_
                    exact ih1 nx1 (n0 + 1) (LJ_st (hF_l (by omega)) hLJ ((bt_t (a := 35) rfl (by decide)).mp c_725) (by rw [← show a = 35 by omega]; exact hN)) (by omega) _ (lv_sub hl [0, 1, 4, 5, 6] rfl)
                  · refine lv_lload_n hx hb dL_needs_53 rfl (lv_at hl 3 rfl) ?_
                    refine lv_iload hx hb dL_needs_54 (lv_at hl 0 rfl) ?_
                    refine lv_lshr hx hb dL_needs_56 rfl ?_
                    refine lv_lconst (v := 1) hx hb dL_needs_57 (by decide) ?_
                    refine lv_land hx hb dL_needs_58 ?_
                    refine lv_lconst (v := 0) hx hb dL_needs_59 (by decide) ?_
                    refine W.lcmp hx hb dL_needs_60 ?_
                    refine lv_if_ne (tgt := 67) hx hb dL_needs_61 (by decide) (fun c_728 => ?_) (fun c_728 => ?_)
                    · refine lv_iconst (v := 1) hx hb dL_needs_67 (by decide) ?_
                      refine lv_istore (lv' := [(9, .int 1), (8, .int (nI a)), (6, .long nx1), (5, .int (nI n0)), (3, .long now), (0, .ref yp), (1, .ref yb), (2, .int (nI k))]) hx hb dL_needs_68 hl (by decide) rfl (fun ls hl => ?_)
                      have L3 : ∀ (n : Nat), ∀ (c0 : Nat), ∀ (ny : Int64), ∀ (h1 : 1 ≤ c0), ∀ (h7 : c0 ≤ 7), ∀ (hM : NX (fbN vb (k / 3)) now ny a c0), ∀ (hn3 : 8 ≤ c0 + n), ∀ (ls : Array Slot), lv_has ls 11 [(9, .int (nI c0)), (8, .int (nI a)), (6, .long ny), (5, .int (nI n0)), (3, .long now), (0, .ref yp), (1, .ref yb), (2, .int (nI k))] → W p l e rm_L_needs s m ag below meth c s.heap [] 0 0 Q (F0 m 70 ls []) := by
                        intro n
                        induction n with
                        | zero =>
                          intro c0 ny h1 h7 hM hn3 ls hl
                          omega
                        | succ n ih3 =>
                          intro c0 ny h1 h7 hM hn3 ls hl
                          refine lv_iload hx hb dL_needs_70 (lv_at hl 0 rfl) ?_
                          refine lv_bipush (v := 7) hx hb dL_needs_72 (by decide) ?_
                          refine zi_ge (tgt := 112) hx hb c0 7 dL_needs_74 (by decide) rfl rfl (by omega) (by decide) (fun c_730 => ?_) (fun c_730 => ?_)
                          · refine lv_iinc (v := nI (a + 1)) (lv' := [(8, .int (nI (a + 1))), (9, .int (nI c0)), (6, .long ny), (5, .int (nI n0)), (3, .long now), (0, .ref yp), (1, .ref yb), (2, .int (nI k))]) hx hb dL_needs_112 hl (k := 1) rfl (nI_inc a) (by decide) rfl (fun ls hl => ?_)
                            refine lv_goto (tgt := 46) hx hb dL_needs_115 (by decide) ?_
                            exact ih2 (a + 1) ny (by omega) (NX_up hM (by omega)) (by omega) _ (lv_sub hl [0, 2, 3, 4, 5, 6, 7] rfl)
                          · refine lv_aload_n hx hb dL_needs_77 rfl (lv_at hl 6 rfl) ?_
                            refine lv_iload_n hx hb dL_needs_78 rfl (lv_at hl 7 rfl) ?_
                            refine lv_iload hx hb dL_needs_79 (lv_at hl 1 rfl) ?_
                            refine lv_iload hx hb dL_needs_81 (lv_at hl 0 rfl) ?_
                            have hPc := hP.sub (ws' := [(yb, .inl (cI, 12, .inl vb))]) [1] rfl
                            have hDc := (hD0.sub (ws' := [(yb, .inl (cI, 12, .inl vb))]) [1] (by decide) rfl).tt
                            refine vp_callSi (va_Run.run (va_runS (As := [.ref yb, .int (nI k), .int (nI a), .int (nI c0)]) (rest := []) ⟨hx, hb, hml, hown, hts⟩ (c_L_leads l G cI cC cZ cG s.heap.size yb vb k a c0 (by omega) (by omega) (by omega)) (cf_RL_25 hts ⟨Nat.le_of_ble_eq_true rfl, Nat.le_of_ble_eq_true rfl⟩) (pre_S hK hPc hDc) rfl rfl hl.1 rfl (lv_room (Nat.le_of_ble_eq_true rfl)) dL_needs_83 ⟨Nat.le_of_ble_eq_true rfl, Nat.le_of_ble_eq_true rfl⟩)) (fun r731 hr731 => ?_)
                            subst hr731
                            refine lv_istore (lv' := [(10, .int (ldG (fbN vb (k / 3)) a c0)), (9, .int (nI c0)), (8, .int (nI a)), (6, .long ny), (5, .int (nI n0)), (3, .long now), (0, .ref yp), (1, .ref yb), (2, .int (nI k))]) hx hb dL_needs_86 hl (by decide) rfl (fun ls hl => ?_)
                            refine lv_lload hx hb dL_needs_88 (lv_at hl 3 rfl) ?_
                            refine lv_iload hx hb dL_needs_90 (lv_at hl 0 rfl) ?_
                            refine lv_if_ge (tgt := 99) hx hb dL_needs_92 (by decide) (fun c_732 => ?_) (fun c_732 => ?_)
                            · obtain ⟨tv, htv, etv, _⟩ := ld_ok (by omega) (Int32.not_lt.mpr c_732)
                              rw [etv] at hl
                              refine lv_lconst (v := 1) hx hb dL_needs_99 (by decide) ?_
                              refine lv_iload hx hb dL_needs_100 (lv_at hl 0 rfl) ?_
                              refine lv_lshl hx hb dL_needs_102 rfl ?_
                              refine lv_lor hx hb dL_needs_103 ?_
                              refine lv_lstore (lv' := [(6, .long (ny ||| (1 <<< ((nI tv).toInt64 &&& 63)))), (10, .int (nI tv)), (9, .int (nI c0)), (8, .int (nI a)), (5, .int (nI n0)), (3, .long now), (0, .ref yp), (1, .ref yb), (2, .int (nI k))]) hx hb dL_needs_104 hl (by decide) rfl (fun ls hl => ?_)
                              refine lv_iinc (v := nI (c0 + 1)) (lv' := [(9, .int (nI (c0 + 1))), (6, .long (ny ||| (1 <<< ((nI tv).toInt64 &&& 63)))), (10, .int (nI tv)), (8, .int (nI a)), (5, .int (nI n0)), (3, .long now), (0, .ref yp), (1, .ref yb), (2, .int (nI k))]) hx hb dL_needs_106 hl (k := 2) rfl (nI_inc c0) (by decide) rfl (fun ls hl => ?_)
                              refine lv_goto (tgt := 70) hx hb dL_needs_109 (by decide) ?_
                              exact ih3 (c0 + 1) (ny ||| (1 <<< ((nI tv).toInt64 &&& 63))) (by omega) (by omega) (NX_t hM (Bool.not_eq_false _ |>.mp (fun z => c_728 ((bt_t rfl (by omega)).mpr z))) (by omega) (by omega) (by omega) htv etv) (by omega) _ (lv_sub hl [0, 3, 1, 4, 5, 6, 7, 8] rfl)
                            · refine lv_lconst (v := 0) hx hb dL_needs_95 (by decide) ?_
                              refine lv_goto (tgt := 103) hx hb dL_needs_96 (by decide) ?_
                              refine lv_lor hx hb dL_needs_103 ?_
                              refine lv_lstore (lv' := [(6, .long (ny ||| 0)), (10, .int (ldG (fbN vb (k / 3)) a c0)), (9, .int (nI c0)), (8, .int (nI a)), (5, .int (nI n0)), (3, .long now), (0, .ref yp), (1, .ref yb), (2, .int (nI k))]) hx hb dL_needs_104 hl (by decide) rfl (fun ls hl => ?_)
                              refine lv_iinc (v := nI (c0 + 1)) (lv' := [(9, .int (nI (c0 + 1))), (6, .long (ny ||| 0)), (10, .int (ldG (fbN vb (k / 3)) a c0)), (8, .int (nI a)), (5, .int (nI n0)), (3, .long now), (0, .ref yp), (1, .ref yb), (2, .int (nI k))]) hx hb dL_needs_106 hl (k := 2) rfl (nI_inc c0) (by decide) rfl (fun ls hl => ?_)
                              refine lv_goto (tgt := 70) hx hb dL_needs_109 (by decide) ?_
                              exact ih3 (c0 + 1) (ny ||| 0) (by omega) (by omega) (NX_n hM (Int32.not_le.mp c_732)) (by omega) _ (lv_sub hl [0, 3, 1, 4, 5, 6, 7, 8] rfl)
                      exact L3 8 1 nx1 (by decide) (by decide) hN (by decide) _ (lv_sub hl [0, 1, 2, 3, 4, 5, 6, 7] rfl)
                    · refine lv_goto (tgt := 112) hx hb dL_needs_64 (by decide) ?_
                      refine lv_iinc (v := nI (a + 1)) (lv' := [(8, .int (nI (a + 1))), (6, .long nx1), (5, .int (nI n0)), (3, .long now), (0, .ref yp), (1, .ref yb), (2, .int (nI k))]) hx hb dL_needs_112 hl (k := 0) rfl (nI_inc a) (by decide) rfl (fun ls hl => ?_)
                      refine lv_goto (tgt := 46) hx hb dL_needs_115 (by decide) ?_
                      exact ih2 (a + 1) nx1 (by omega) (NX_sk hN ((bt_t rfl (by omega)).mp c_728)) (by omega) _ (lv_sub hl [0, 1, 2, 3, 4, 5, 6] rfl)
              exact L2 36 0 0 (by decide) NX_0 (by decide) _ (lv_sub hl [0, 1, 2, 3, 4, 5, 6] rfl)
        exact L1 ((lnd vp vb k) + 1) 1 1 (by rw [lnd, if_pos ea]; exact LJ_0 (a := 0) (n := 1) (by decide)) (by omega) _ (lv_sub hl [0, 1, 2, 3, 4] rfl)
  · refine lv_aload_n hx hb dL_needs_0 rfl (lv_at hl 0 rfl) ?_
    refine lv_iload_n hx hb dL_needs_1 rfl (lv_at hl 2 rfl) ?_
    refine za_ld hx hb hK.1 hP 0 0 rfl rfl k rfl (by omega) (by decide) dL_needs_2 ?_
    refine z0_ge (tgt := 10) hx hb ak dL_needs_3 (by decide) ea (by omega) ?_
    refine lv_lconst (v := 1) hx hb dL_needs_10 (by decide) ?_
    refine lv_aload_n hx hb dL_needs_11 rfl (lv_at hl 0 rfl) ?_
    refine lv_iload_n hx hb dL_needs_12 rfl (lv_at hl 2 rfl) ?_
    refine za_ld hx hb hK.1 hP 0 0 rfl rfl k rfl (by omega) (by decide) dL_needs_13 ?_
    refine lv_lshl hx hb dL_needs_14 rfl ?_
    refine lv_lstore_n (lv' := [(3, .long (1 <<< ((vp k).toInt64 &&& 63))), (0, .ref yp), (1, .ref yb), (2, .int (nI k))]) hx hb dL_needs_15 rfl hl (by decide) rfl (fun ls hl => ?_)
    refine lv_aload_n hx hb dL_needs_16 rfl (lv_at hl 1 rfl) ?_
    refine lv_iload_n hx hb dL_needs_17 rfl (lv_at hl 3 rfl) ?_
    refine za_ld hx hb hK.1 hP 0 0 rfl rfl k rfl (by omega) (by decide) dL_needs_18 ?_
    refine z0_ge (tgt := 26) hx hb ak dL_needs_19 (by decide) ea (by omega) ?_
    refine lv_iconst (v := 0) hx hb dL_needs_26 (by decide) ?_
    refine lv_istore (lv' := [(5, .int 0), (3, .long (1 <<< ((vp k).toInt64 &&& 63))), (0, .ref yp), (1, .ref yb), (2, .int (nI k))]) hx hb dL_needs_27 hl (by decide) rfl (fun ls hl => ?_)
    have L4 : ∀ (n : Nat), ∀ (now : Int64), ∀ (n0 : Nat), ∀ (hLJ : LJ (fbN vb (k / 3)) (lnd vp vb k) now n0), ∀ (hn : (lnd vp vb k) + 1 ≤ n0 + n), ∀ (ls : Array Slot), lv_has ls 11 [(5, .int (nI n0)), (3, .long now), (0, .ref yp), (1, .ref yb), (2, .int (nI k))] → W p l e rm_L_needs s m ag below meth c s.heap [] 0 0 Q (F0 m 29 ls []) := by
      intro n
      induction n with
      | zero =>
        intro now n0 hLJ hn ls hl
        exact absurd (LJ_le hLJ) (by omega)
      | succ n ih4 =>
        intro now n0 hLJ hn ls hl
        refine lv_lload_n hx hb dL_needs_29 rfl (lv_at hl 1 rfl) ?_
        refine lv_bipush (v := 35) hx hb dL_needs_30 (by decide) ?_
        refine lv_lshr hx hb dL_needs_32 rfl ?_
        refine lv_lconst (v := 1) hx hb dL_needs_33 (by decide) ?_
        refine lv_land hx hb dL_needs_34 ?_
        refine lv_lconst (v := 0) hx hb dL_needs_35 (by decide) ?_
        refine W.lcmp hx hb dL_needs_36 ?_
        refine lv_if_ne (tgt := 127) hx hb dL_needs_37 (by decide) (fun c_736 => ?_) (fun c_736 => ?_)
        · refine lv_iload hx hb dL_needs_127 (lv_at hl 0 rfl) ?_
          subst hQ
          exact W.iret (v := nI n0) hx hb hr (fun t ht hW => ⟨nI n0, rfl, congrArg nI (LJ_end hLJ (fun z => c_736 ((bt_t (a := 35) rfl (by decide)).mpr z))), ht⟩) (fun _ h => absurd h List.not_mem_nil) dL_needs_129
        · refine lv_lconst (v := 0) hx hb dL_needs_40 (by decide) ?_
          refine lv_lstore (lv' := [(6, .long 0), (5, .int (nI n0)), (3, .long now), (0, .ref yp), (1, .ref yb), (2, .int (nI k))]) hx hb dL_needs_41 hl (by decide) rfl (fun ls hl => ?_)
          refine lv_iconst (v := 0) hx hb dL_needs_43 (by decide) ?_
          refine lv_istore (lv' := [(8, .int 0), (6, .long 0), (5, .int (nI n0)), (3, .long now), (0, .ref yp), (1, .ref yb), (2, .int (nI k))]) hx hb dL_needs_44 hl (by decide) rfl (fun ls hl => ?_)
          have L5 : ∀ (n : Nat), ∀ (a : Nat), ∀ (nx1 : Int64), ∀ (hi : a ≤ 35), ∀ (hN : NX (fbN vb (k / 3)) now nx1 a 1), ∀ (hn2 : 36 ≤ a + n), ∀ (ls : Array Slot), lv_has ls 11 [(8, .int (nI a)), (6, .long nx1), (5, .int (nI n0)), (3, .long now), (0, .ref yp), (1, .ref yb), (2, .int (nI k))] → W p l e rm_L_needs s m ag below meth c s.heap [] 0 0 Q (F0 m 46 ls []) := by
            intro n
            induction n with
            | zero =>
              intro a nx1 hi hN hn2 ls hl
              omega
            | succ n ih5 =>
              intro a nx1 hi hN hn2 ls hl
              refine lv_iload hx hb dL_needs_46 (lv_at hl 0 rfl) ?_
              refine lv_bipush (v := 35) hx hb dL_needs_48 (by decide) ?_
              refine zi_ge (tgt := 118) hx hb a 35 dL_needs_50 (by decide) rfl rfl (by omega) (by decide) (fun c_738 => ?_) (fun c_738 => ?_)
              · refine lv_lload hx hb dL_needs_118 (lv_at hl 1 rfl) ?_
                refine lv_lstore_n (lv' := [(3, .long nx1), (8, .int (nI a)), (6, .long nx1), (5, .int (nI n0)), (0, .ref yp), (1, .ref yb), (2, .int (nI k))]) hx hb dL_needs_120 rfl hl (by decide) rfl (fun ls hl => ?_)
                refine lv_iinc (v := nI (n0 + 1)) (lv' := [(5, .int (nI (n0 + 1))), (3, .long nx1), (8, .int (nI a)), (6, .long nx1), (0, .ref yp), (1, .ref yb), (2, .int (nI k))]) hx hb dL_needs_121 hl (k := 3) rfl (nI_inc n0) (by decide) rfl (fun ls hl => ?_)
                refine lv_goto (tgt := 29) hx hb dL_needs_124 (by decide) ?_
                exact ih4 nx1 (n0 + 1) (LJ_st (hF_l (by omega)) hLJ ((bt_t (a := 35) rfl (by decide)).mp c_736) (by rw [← show a = 35 by omega]; exact hN)) (by omega) _ (lv_sub hl [0, 1, 4, 5, 6] rfl)
              · refine lv_lload_n hx hb dL_needs_53 rfl (lv_at hl 3 rfl) ?_
                refine lv_iload hx hb dL_needs_54 (lv_at hl 0 rfl) ?_
                refine lv_lshr hx hb dL_needs_56 rfl ?_
                refine lv_lconst (v := 1) hx hb dL_needs_57 (by decide) ?_
                refine lv_land hx hb dL_needs_58 ?_
                refine lv_lconst (v := 0) hx hb dL_needs_59 (by decide) ?_
                refine W.lcmp hx hb dL_needs_60 ?_
                refine lv_if_ne (tgt := 67) hx hb dL_needs_61 (by decide) (fun c_739 => ?_) (fun c_739 => ?_)
                · refine lv_iconst (v := 1) hx hb dL_needs_67 (by decide) ?_
                  refine lv_istore (lv' := [(9, .int 1), (8, .int (nI a)), (6, .long nx1), (5, .int (nI n0)), (3, .long now), (0, .ref yp), (1, .ref yb), (2, .int (nI k))]) hx hb dL_needs_68 hl (by decide) rfl (fun ls hl => ?_)
                  have L6 : ∀ (n : Nat), ∀ (c0 : Nat), ∀ (ny : Int64), ∀ (h1 : 1 ≤ c0), ∀ (h7 : c0 ≤ 7), ∀ (hM : NX (fbN vb (k / 3)) now ny a c0), ∀ (hn3 : 8 ≤ c0 + n), ∀ (ls : Array Slot), lv_has ls 11 [(9, .int (nI c0)), (8, .int (nI a)), (6, .long ny), (5, .int (nI n0)), (3, .long now), (0, .ref yp), (1, .ref yb), (2, .int (nI k))] → W p l e rm_L_needs s m ag below meth c s.heap [] 0 0 Q (F0 m 70 ls []) := by
                    intro n
                    induction n with
                    | zero =>
                      intro c0 ny h1 h7 hM hn3 ls hl
                      omega
                    | succ n ih6 =>
                      intro c0 ny h1 h7 hM hn3 ls hl
                      refine lv_iload hx hb dL_needs_70 (lv_at hl 0 rfl) ?_
                      refine lv_bipush (v := 7) hx hb dL_needs_72 (by decide) ?_
                      refine zi_ge (tgt := 112) hx hb c0 7 dL_needs_74 (by decide) rfl rfl (by omega) (by decide) (fun c_741 => ?_) (fun c_741 => ?_)
                      · refine lv_iinc (v := nI (a + 1)) (lv' := [(8, .int (nI (a + 1))), (9, .int (nI c0)), (6, .long ny), (5, .int (nI n0)), (3, .long now), (0, .ref yp), (1, .ref yb), (2, .int (nI k))]) hx hb dL_needs_112 hl (k := 1) rfl (nI_inc a) (by decide) rfl (fun ls hl => ?_)
                        refine lv_goto (tgt := 46) hx hb dL_needs_115 (by decide) ?_
                        exact ih5 (a + 1) ny (by omega) (NX_up hM (by omega)) (by omega) _ (lv_sub hl [0, 2, 3, 4, 5, 6, 7] rfl)
                      · refine lv_aload_n hx hb dL_needs_77 rfl (lv_at hl 6 rfl) ?_
                        refine lv_iload_n hx hb dL_needs_78 rfl (lv_at hl 7 rfl) ?_
                        refine lv_iload hx hb dL_needs_79 (lv_at hl 1 rfl) ?_
                        refine lv_iload hx hb dL_needs_81 (lv_at hl 0 rfl) ?_
                        have hPc := hP.sub (ws' := [(yb, .inl (cI, 12, .inl vb))]) [1] rfl
                        have hDc := (hD0.sub (ws' := [(yb, .inl (cI, 12, .inl vb))]) [1] (by decide) rfl).tt
                        refine vp_callSi (va_Run.run (va_runS (As := [.ref yb, .int (nI k), .int (nI a), .int (nI c0)]) (rest := []) ⟨hx, hb, hml, hown, hts⟩ (c_L_leads l G cI cC cZ cG s.heap.size yb vb k a c0 (by omega) (by omega) (by omega)) (cf_RL_25 hts ⟨Nat.le_of_ble_eq_true rfl, Nat.le_of_ble_eq_true rfl⟩) (pre_S hK hPc hDc) rfl rfl hl.1 rfl (lv_room (Nat.le_of_ble_eq_true rfl)) dL_needs_83 ⟨Nat.le_of_ble_eq_true rfl, Nat.le_of_ble_eq_true rfl⟩)) (fun r742 hr742 => ?_)
                        subst hr742
                        refine lv_istore (lv' := [(10, .int (ldG (fbN vb (k / 3)) a c0)), (9, .int (nI c0)), (8, .int (nI a)), (6, .long ny), (5, .int (nI n0)), (3, .long now), (0, .ref yp), (1, .ref yb), (2, .int (nI k))]) hx hb dL_needs_86 hl (by decide) rfl (fun ls hl => ?_)
                        refine lv_lload hx hb dL_needs_88 (lv_at hl 3 rfl) ?_
                        refine lv_iload hx hb dL_needs_90 (lv_at hl 0 rfl) ?_
                        refine lv_if_ge (tgt := 99) hx hb dL_needs_92 (by decide) (fun c_743 => ?_) (fun c_743 => ?_)
                        · obtain ⟨tv, htv, etv, _⟩ := ld_ok (by omega) (Int32.not_lt.mpr c_743)
                          rw [etv] at hl
                          refine lv_lconst (v := 1) hx hb dL_needs_99 (by decide) ?_
                          refine lv_iload hx hb dL_needs_100 (lv_at hl 0 rfl) ?_
                          refine lv_lshl hx hb dL_needs_102 rfl ?_
                          refine lv_lor hx hb dL_needs_103 ?_
                          refine lv_lstore (lv' := [(6, .long (ny ||| (1 <<< ((nI tv).toInt64 &&& 63)))), (10, .int (nI tv)), (9, .int (nI c0)), (8, .int (nI a)), (5, .int (nI n0)), (3, .long now), (0, .ref yp), (1, .ref yb), (2, .int (nI k))]) hx hb dL_needs_104 hl (by decide) rfl (fun ls hl => ?_)
                          refine lv_iinc (v := nI (c0 + 1)) (lv' := [(9, .int (nI (c0 + 1))), (6, .long (ny ||| (1 <<< ((nI tv).toInt64 &&& 63)))), (10, .int (nI tv)), (8, .int (nI a)), (5, .int (nI n0)), (3, .long now), (0, .ref yp), (1, .ref yb), (2, .int (nI k))]) hx hb dL_needs_106 hl (k := 2) rfl (nI_inc c0) (by decide) rfl (fun ls hl => ?_)
                          refine lv_goto (tgt := 70) hx hb dL_needs_109 (by decide) ?_
                          exact ih6 (c0 + 1) (ny ||| (1 <<< ((nI tv).toInt64 &&& 63))) (by omega) (by omega) (NX_t hM (Bool.not_eq_false _ |>.mp (fun z => c_739 ((bt_t rfl (by omega)).mpr z))) (by omega) (by omega) (by omega) htv etv) (by omega) _ (lv_sub hl [0, 3, 1, 4, 5, 6, 7, 8] rfl)
                        · refine lv_lconst (v := 0) hx hb dL_needs_95 (by decide) ?_
                          refine lv_goto (tgt := 103) hx hb dL_needs_96 (by decide) ?_
                          refine lv_lor hx hb dL_needs_103 ?_
                          refine lv_lstore (lv' := [(6, .long (ny ||| 0)), (10, .int (ldG (fbN vb (k / 3)) a c0)), (9, .int (nI c0)), (8, .int (nI a)), (5, .int (nI n0)), (3, .long now), (0, .ref yp), (1, .ref yb), (2, .int (nI k))]) hx hb dL_needs_104 hl (by decide) rfl (fun ls hl => ?_)
                          refine lv_iinc (v := nI (c0 + 1)) (lv' := [(9, .int (nI (c0 + 1))), (6, .long (ny ||| 0)), (10, .int (ldG (fbN vb (k / 3)) a c0)), (8, .int (nI a)), (5, .int (nI n0)), (3, .long now), (0, .ref yp), (1, .ref yb), (2, .int (nI k))]) hx hb dL_needs_106 hl (k := 2) rfl (nI_inc c0) (by decide) rfl (fun ls hl => ?_)
                          refine lv_goto (tgt := 70) hx hb dL_needs_109 (by decide) ?_
                          exact ih6 (c0 + 1) (ny ||| 0) (by omega) (by omega) (NX_n hM (Int32.not_le.mp c_743)) (by omega) _ (lv_sub hl [0, 3, 1, 4, 5, 6, 7, 8] rfl)
                  exact L6 8 1 nx1 (by decide) (by decide) hN (by decide) _ (lv_sub hl [0, 1, 2, 3, 4, 5, 6, 7] rfl)
                · refine lv_goto (tgt := 112) hx hb dL_needs_64 (by decide) ?_
                  refine lv_iinc (v := nI (a + 1)) (lv' := [(8, .int (nI (a + 1))), (6, .long nx1), (5, .int (nI n0)), (3, .long now), (0, .ref yp), (1, .ref yb), (2, .int (nI k))]) hx hb dL_needs_112 hl (k := 0) rfl (nI_inc a) (by decide) rfl (fun ls hl => ?_)
                  refine lv_goto (tgt := 46) hx hb dL_needs_115 (by decide) ?_
                  exact ih5 (a + 1) nx1 (by omega) (NX_sk hN ((bt_t rfl (by omega)).mp c_739)) (by omega) _ (lv_sub hl [0, 1, 2, 3, 4, 5, 6] rfl)
          exact L5 36 0 0 (by decide) NX_0 (by decide) _ (lv_sub hl [0, 1, 2, 3, 4, 5, 6] rfl)
    exact L4 ((lnd vp vb k) + 1) (1 <<< ((vp k).toInt64 &&& 63)) 0 (by rw [lnd, if_neg (by rw [ea]; exact nI_neg (by omega) (by decide)), ea, nI_clamp (by omega), sl_t ak (by omega)]; exact LJ_0 (n := 0) hak) (by omega) _ (lv_sub hl [0, 1, 2, 3, 4] rfl)

abbrev rm_L_copy : Room := { frames := 0, cells := 0, slots := 0, locals := 0 }
set_option maxHeartbeats 1000000 in
set_option maxRecDepth 100000 in
theorem c_L_copy (l : Launch) (G : va_G) (cI cC cZ cG : ClassId) (sz : Nat) (yx yy nn : Nat) (fx fy : IA) (hn0 : nn < 2 ^ 31) : Met l yL_copy (.code yL_copy cL_copy 3 none :: wsL_law) rm_L_copy (va_Pc [.ref yx, .ref yy] (bw G cI cC cZ cG false sz [(yx, .inl (cI, nn, .inl fx)), (yy, .inl (cI, nn, .inl fy))])) (va_Qv (fun (u : IA) => u = cpz fy fx 0 0 nn) (fun (u : IA) t => va_P G vwCl [(yx, .inl (cI, nn, .inl fx)), (yy, .inl (cI, nn, .inl u))] t.heap ∧ va_D (va_A [(yx, .inl (cI, nn, .inl fx)), (yy, .inl (cI, nn, .inl fy))] sz) [(yx, .inl (cI, nn, .inl fx)), (yy, .inl (cI, nn, .inl u))]) (va_A [(yx, .inl (cI, nn, .inl fx)), (yy, .inl (cI, nn, .inl fy))] sz)) 0 0 (va_A [(yx, .inl (cI, nn, .inl fx)), (yy, .inl (cI, nn, .inl fy))] sz) := by
  refine met_bw rfl (Nat.le_of_ble_eq_true rfl) ?_
  intro p e s m below meth c ls hx hb hr hml hown hts hlocks hin hsz hP hK hD0 hX0 hl
  have hown : s.vm.findClass RL = some m.cls := hown
  have hl : lv_has ls 3 [(0, .ref yx), (1, .ref yy)] := hl
  subst hsz
  have hD := hD0.self (sz := s.heap.size)
  generalize hAe : va_A [(yx, .inl (cI, nn, .inl fx)), (yy, .inl (cI, nn, .inl fy))] s.heap.size = A at hD ⊢
  have hA : ∀ q : Nat, s.heap.size ≤ q → A q := fun q h => by rw [← hAe]; exact Or.inr h
  have hS : va_S A s.heap s.heap [] := va_S.rf
  generalize hQ : MQ below (va_Qv (fun (u : IA) => u = cpz fy fx 0 0 nn) (fun (u : IA) t => va_P G vwCl [(yx, .inl (cI, nn, .inl fx)), (yy, .inl (cI, nn, .inl u))] t.heap ∧ va_D A [(yx, .inl (cI, nn, .inl fx)), (yy, .inl (cI, nn, .inl u))]) A) ([.ref yx, .ref yy] : List Value).toArray s 0 0 A = Q
  generalize hag : ([.ref yx, .ref yy] : List Value).toArray = ag at hts hQ ⊢
  refine lv_iconst (v := 0) hx hb dL_copy_0 (by decide) ?_
  refine lv_istore_n (lv' := [(2, .int 0), (0, .ref yx), (1, .ref yy)]) hx hb dL_copy_1 rfl hl (by decide) rfl (fun ls hl => ?_)
  have L1 : ∀ (n : Nat), ∀ (i : Nat), ∀ (zc : IA), ∀ (hi : i ≤ nn), ∀ (hf : zc = cpz fy fx 0 0 i), ∀ (hn : nn + 1 ≤ i + n), ∀ (H744 : Heap) (locs744 : List Loc), va_P G vwCl [(yx, .inl (cI, nn, .inl fx)), (yy, .inl (cI, nn, .inl zc))] H744 → va_D A [(yx, .inl (cI, nn, .inl fx)), (yy, .inl (cI, nn, .inl zc))] → va_S A s.heap H744 locs744 → ∀ (ls : Array Slot), lv_has ls 3 [(2, .int (nI i)), (0, .ref yx), (1, .ref yy)] → W p l e rm_L_copy s m ag below meth c H744 locs744 0 0 Q (F0 m 2 ls []) := by
    intro n
    induction n with
    | zero =>
      intro i zc hi hf hn H744 locs744 hP hD hS ls hl
      omega
    | succ n ih1 =>
      intro i zc hi hf hn H744 locs744 hP hD hS ls hl
      refine lv_iload_n hx hb dL_copy_2 rfl (lv_at hl 0 rfl) ?_
      refine lv_aload_n hx hb dL_copy_3 rfl (lv_at hl 1 rfl) ?_
      refine va_alen hx hb hK.1 hP 0 0 rfl rfl (v := nI nn) rfl dL_copy_4 ?_
      refine zi_ge (tgt := 20) hx hb i nn dL_copy_5 (by decide) rfl rfl (by omega) (by omega) (fun c_745 => ?_) (fun c_745 => ?_)
      · subst hQ
        exact W.vret hx hb hr (fun t ht hW => ⟨⟨zc, rfl, by rw [hf, show i = nn by omega], by rw [ht]; exact hP, hD⟩, hS.F ht⟩) hS.2.2 dL_copy_20
      · refine lv_aload_n hx hb dL_copy_8 rfl (lv_at hl 2 rfl) ?_
        refine lv_iload_n hx hb dL_copy_9 rfl (lv_at hl 0 rfl) ?_
        refine lv_aload_n hx hb dL_copy_10 rfl (lv_at hl 1 rfl) ?_
        refine lv_iload_n hx hb dL_copy_11 rfl (lv_at hl 0 rfl) ?_
        refine za_ld hx hb hK.1 hP 0 0 rfl rfl i rfl (by omega) (by omega) dL_copy_12 ?_
        refine za_st hx hb hK.1 hP hD hS 1 0 rfl rfl i rfl (by omega) (by omega) dL_copy_13 (fun H746 locs746 hP hD hS => ?_)
        have hP : va_P G vwCl [(yx, .inl (cI, nn, .inl fx)), (yy, .inl (cI, nn, .inl (upd zc i (fx i))))] H746 := hP
        have hD : va_D A [(yx, .inl (cI, nn, .inl fx)), (yy, .inl (cI, nn, .inl (upd zc i (fx i))))] := hD
        refine lv_iinc (v := nI (i + 1)) (lv' := [(2, .int (nI (i + 1))), (0, .ref yx), (1, .ref yy)]) hx hb dL_copy_14 hl (k := 0) rfl (nI_inc i) (by decide) rfl (fun ls hl => ?_)
        refine lv_goto (tgt := 2) hx hb dL_copy_17 (by decide) ?_
        exact ih1 (i + 1) (upd zc i (fx i)) (by omega) (cpz_s hf) (by omega) H746 locs746 hP hD hS _ (lv_sub hl [0, 1, 2] rfl)
  exact L1 (nn + 1) 0 fy (Nat.zero_le _) rfl (by omega) s.heap [] hP hD hS _ (lv_sub hl [0, 1, 2] rfl)

abbrev rm_L_cell : Room := { frames := 0, cells := 0, slots := 0, locals := 0 }
def pcX (b L : Nat) (xs : Nat → Int32) (U : State) : Prop := va_X b L xs U U.heap ∧ b < U.heap.size
theorem pre_X {b L : Nat} {xs : Nat → Int32} {av : List Value} {s : State} {H H0 : Heap} {A : Nat → Prop} {locs : List Loc} (hX : va_X b L xs s H0) (hbl : b < H0.size) (hbA : ¬ A b) (hS : va_S A H0 H locs) : PreS s H (va_Pc av (pcX b L xs)) av :=
  ⟨fun a U g mk h => ⟨h.1, va_X.moved (u := U) (U := U.calling g mk a) (Vm.Alike.refl U.vm) h.2.1, h.2.2⟩, fun U hU hW => ⟨rfl, by rw [pcX, hU]; exact ⟨(hX.moved hW.alike).kept (hS.2.1 b hbl hbA), Nat.lt_of_lt_of_le hbl hS.1⟩⟩⟩
set_option maxHeartbeats 1000000 in
theorem c_L_cell (l : Launch) (b L : Nat) (xs : Nat → Int32) (kn : Nat) (hL : L ≤ 260) (hk : kn < 1000) : Met l yL_cell (.code yL_cell cL_cell 2 (some .int) :: wsL_law) rm_L_cell (va_Pc [.ref b, .int (nI kn)] (pcX b L xs)) (vp_Si (fun r => r = lce L xs kn)) 0 0 (fun _ => False) := by
  refine Met.ofW (cc := cL_cell) (maxL := 2) (ret := (some .int)) rfl rfl ?_
  intro p e s m args below meth c s₁ B hml hv
  obtain ⟨rfl, hXs, hbl⟩ := hv
  have hts0 := atoms_spec (ws := .code yL_cell cL_cell 2 (some .int) :: wsL_law) B.pre
  have hts : ∀ w ∈ wsL_law, w.before ([.ref b, .int (nI kn)] : List Value).toArray s = true := fun w h => hts0 w (List.mem_cons_of_mem _ h)
  have hx := B.exec
  have hb := B.bytes
  have hr := B.returns
  have hown : s.vm.findClass RL = some m.cls := findClass_of_methodNamed B.named
  have hbA : ¬ (fun _ : Nat => False) b := fun h => h
  have hS : va_S (fun _ => False) s.heap s.heap [] := va_S.rf
  rw [lg_entry_eq]
  have hl := lv_entry ([.ref b, .int (nI kn)] : List Value) (n := 2) (Nat.le_of_ble_eq_true rfl)
  generalize (lg_sl ([.ref b, .int (nI kn)] : List Value) ++ List.replicate (2 - (lg_sl ([.ref b, .int (nI kn)] : List Value)).length) Slot.unset).toArray = ls at hl ⊢
  have hl : lv_has ls 2 [(0, .ref b), (1, .int (nI kn))] := hl
  refine lv_iload_n hx hb dL_cell_0 rfl (lv_at hl 1 rfl) ?_
  refine lv_aload_n hx hb dL_cell_1 rfl (lv_at hl 0 rfl) ?_
  refine va_slen hx hb hXs hbl hbA hS dL_cell_2 ?_
  refine zi_ge (tgt := 12) hx hb kn L dL_cell_3 (by decide) rfl rfl (by omega) (by omega) (fun c1 => ?_) (fun c1 => ?_)
  · refine lv_ldc hx hb hown (hts _ wd330) dL_cell_12 ?_
    refine lv_iload_n hx hb dL_cell_14 rfl (lv_at hl 1 rfl) ?_
    refine lv_iconst (v := 1) hx hb dL_cell_15 (by decide) ?_
    refine lv_iadd hx hb dL_cell_16 ?_
    refine lv_imul hx hb dL_cell_17 ?_
    exact W.iret (v := 659060556 * (nI kn + 1)) hx hb hr (fun t ht hW => ⟨659060556 * (nI kn + 1), rfl, by rw [lce, if_neg (by omega)], ht⟩) (fun _ h => absurd h List.not_mem_nil) dL_cell_18
  · refine lv_aload_n hx hb dL_cell_6 rfl (lv_at hl 0 rfl) ?_
    refine lv_iload_n hx hb dL_cell_7 rfl (lv_at hl 1 rfl) ?_
    refine va_sld hx hb hXs hbl hbA hS (vp_in_nI c1 (by omega)) dL_cell_8 ?_
    refine lv_goto (tgt := 18) hx hb dL_cell_9 (by decide) ?_
    exact W.iret (v := xs (nI kn).toNatClampNeg) hx hb hr (fun t ht hW => ⟨xs (nI kn).toNatClampNeg, rfl, by rw [lce, if_pos c1, nI_clamp (by omega)], ht⟩) (fun _ h => absurd h List.not_mem_nil) dL_cell_18
