abbrev rm_X6_findFault : Room := { frames := 1, cells := 0, slots := 0, locals := 22 }
set_option maxHeartbeats 1000000 in
set_option maxRecDepth 100000 in
theorem c_X6_findFault (l : Launch) (G : va_G) (cI cC cZ cG : ClassId) (sz : Nat) (qm qz qa qe qs qv qp qn : Nat) (z as be sl sv pd nd : IA) (sts len : Nat) (go : Int32) (hln : len ≤ 60) : Met l yX6_findFault (.code yX6_findFault cX6_findFault 3 (some .int) :: wsL_law) rm_X6_findFault (va_Pc [.ref qm] (bw G cI cC cZ cG false sz [(qm, .inr (6, [.ref qz, .ref qa, .ref qe, .int (nI sts), .ref qs, .ref qv, .ref qp, .int (nI len), .int go, .ref qn])), (qz, .inl (cI, 46, .inl z)), (qa, .inl (cI, 46, .inl as)), (qe, .inl (cI, 276, .inl be)), (qs, .inl (cI, 92, .inl sl)), (qv, .inl (cZ, 2, .inl sv)), (qp, .inl (cI, 60, .inl pd)), (qn, .inl (cI, 36, .inl nd))])) (vp_Si (fun r => r = ffM pd len)) 0 0 (fun _ => False) := by
  refine met_bw rfl (Nat.le_of_ble_eq_true rfl) ?_
  intro p e s m below meth c ls hx hb hr hml hown hts hlocks hin hsz hP hK hD0 hX0 hl
  have hown : s.vm.findClass RX6 = some m.cls := hown
  have hl : lv_has ls 3 [(0, .ref qm)] := hl
  generalize hQ : MQ below (vp_Si (fun r => r = ffM pd len)) ([.ref qm] : List Value).toArray s 0 0 (fun _ => False) = Q
  generalize hag : ([.ref qm] : List Value).toArray = ag at hts hQ ⊢
  refine lv_iconst (v := 0) hx hb dX6_findFault_0 (by decide) ?_
  refine lv_istore_n (lv' := [(1, .int 0), (0, .ref qm)]) hx hb dX6_findFault_1 rfl hl (by decide) rfl (fun ls hl => ?_)
  have L1 : ∀ (n : Nat), ∀ (i : Nat), ∀ (hi : i ≤ len), ∀ (hf2 : fxs (badM pd) (ffE len) 0 len = fxs (badM pd) (ffE len) i (len - i)), ∀ (hn : len + 1 ≤ i + n), ∀ (ls : Array Slot), lv_has ls 3 [(1, .int (nI i)), (0, .ref qm)] → W p l e rm_X6_findFault s m ag below meth c s.heap [] 0 0 Q (F0 m 2 ls []) := by
    intro n
    induction n with
    | zero =>
      intro i hi hf2 hn ls hl
      omega
    | succ n ih1 =>
      intro i hi hf2 hn ls hl
      have he : i < len → len - i = (len - (i + 1)) + 1 := fun h => by omega
      refine lv_iload_n hx hb dX6_findFault_2 rfl (lv_at hl 0 rfl) ?_
      refine lv_aload_n hx hb dX6_findFault_3 rfl (lv_at hl 1 rfl) ?_
      refine va_get (D := G) (ci := 6) (v := .int (nI len)) (C := RX6) (T := TX6) (N := 10) hx hb hts inlX6 hown hK.1 hP 0 rfl rfl 7 (by decide) (hts _ wd402) (fun _ h9 => h9) rfl dX6_findFault_4 ?_
      refine zi_ge (tgt := 77) hx hb i len dX6_findFault_7 (by decide) rfl rfl (by omega) (by omega) (fun c_496 => ?_) (fun c_496 => ?_)
      · refine lv_aload_n hx hb dX6_findFault_77 rfl (lv_at hl 1 rfl) ?_
        refine va_get (D := G) (ci := 6) (v := .int (nI len)) (C := RX6) (T := TX6) (N := 10) hx hb hts inlX6 hown hK.1 hP 0 rfl rfl 7 (by decide) (hts _ wd402) (fun _ h9 => h9) rfl dX6_findFault_78 ?_
        refine lv_iconst (v := 2) hx hb dX6_findFault_81 (by decide) ?_
        refine zi_rem hx hb len 2 dX6_findFault_82 rfl rfl (by omega) (by decide) (by decide) ?_
        refine z0_ne (tgt := 98) hx hb (len % 2) dX6_findFault_83 (by decide) rfl (by omega) (fun c_497 => ?_) (fun c_497 => ?_)
        · refine lv_aload_n hx hb dX6_findFault_98 rfl (lv_at hl 1 rfl) ?_
          refine va_get (D := G) (ci := 6) (v := .int (nI len)) (C := RX6) (T := TX6) (N := 10) hx hb hts inlX6 hown hK.1 hP 0 rfl rfl 7 (by decide) (hts _ wd402) (fun _ h9 => h9) rfl dX6_findFault_99 ?_
          subst hQ
          exact W.iret (v := nI len) hx hb hr (fun t ht hW => ⟨nI len, rfl, by rw [ffM, hf2, show len - i = 0 by omega, fxs, ffE]; simp [c_497]; try omega, ht⟩) (fun _ h => absurd h List.not_mem_nil) dX6_findFault_102
        · refine lv_aload_n hx hb dX6_findFault_86 rfl (lv_at hl 1 rfl) ?_
          refine va_get (D := G) (ci := 6) (v := .int (nI len)) (C := RX6) (T := TX6) (N := 10) hx hb hts inlX6 hown hK.1 hP 0 rfl rfl 7 (by decide) (hts _ wd402) (fun _ h9 => h9) rfl dX6_findFault_87 ?_
          refine z0_le (tgt := 98) hx hb len dX6_findFault_90 (by decide) rfl (by omega) (fun c_498 => ?_) (fun c_498 => ?_)
          · refine lv_aload_n hx hb dX6_findFault_98 rfl (lv_at hl 1 rfl) ?_
            refine va_get (D := G) (ci := 6) (v := .int (nI len)) (C := RX6) (T := TX6) (N := 10) hx hb hts inlX6 hown hK.1 hP 0 rfl rfl 7 (by decide) (hts _ wd402) (fun _ h9 => h9) rfl dX6_findFault_99 ?_
            subst hQ
            exact W.iret (v := nI len) hx hb hr (fun t ht hW => ⟨nI len, rfl, by rw [ffM, hf2, show len - i = 0 by omega, fxs, ffE]; simp [c_497, c_498]; try omega, ht⟩) (fun _ h => absurd h List.not_mem_nil) dX6_findFault_102
          · refine lv_bipush (v := (-6)) hx hb dX6_findFault_93 (by decide) ?_
            refine lv_goto (tgt := 102) hx hb dX6_findFault_95 (by decide) ?_
            subst hQ
            exact W.iret (v := (-6)) hx hb hr (fun t ht hW => ⟨(-6), rfl, by rw [ffM, hf2, show len - i = 0 by omega, fxs, ffE]; simp [c_497, c_498]; try omega, ht⟩) (fun _ h => absurd h List.not_mem_nil) dX6_findFault_102
      · refine lv_iload_n hx hb dX6_findFault_10 rfl (lv_at hl 0 rfl) ?_
        refine lv_iconst (v := 2) hx hb dX6_findFault_11 (by decide) ?_
        refine zi_rem hx hb i 2 dX6_findFault_12 rfl rfl (by omega) (by decide) (by decide) ?_
        refine z0_ne (tgt := 32) hx hb (i % 2) dX6_findFault_13 (by decide) rfl (by omega) (fun c_499 => ?_) (fun c_499 => ?_)
        · refine lv_aload_n hx hb dX6_findFault_32 rfl (lv_at hl 1 rfl) ?_
          refine va_get (D := G) (ci := 6) (v := .ref qp) (C := RX6) (T := TX6) (N := 10) hx hb hts inlX6 hown hK.1 hP 0 rfl rfl 6 (by decide) (hts _ wd84) (fun _ h9 => h9) rfl dX6_findFault_33 ?_
          refine lv_iload_n hx hb dX6_findFault_36 rfl (lv_at hl 0 rfl) ?_
          refine za_ld hx hb hK.1 hP 6 0 rfl rfl i rfl (by omega) (by decide) dX6_findFault_37 ?_
          refine lv_bipush (v := 97) hx hb dX6_findFault_38 (by decide) ?_
          refine lv_bipush (v := 99) hx hb dX6_findFault_40 (by decide) ?_
          refine vp_callSi (va_Run.run (va_runS (As := [.int (pd i), .int 97, .int 99]) (rest := []) ⟨hx, hb, hml, hown, hts⟩ (c_X6_in l (pd i) 97 99) (cf_RX6_32 hts ⟨Nat.le_of_ble_eq_true rfl, Nat.le_of_ble_eq_true rfl⟩) pre_P rfl rfl hl.1 rfl (lv_room (Nat.le_of_ble_eq_true rfl)) dX6_findFault_42 ⟨Nat.le_of_ble_eq_true rfl, Nat.le_of_ble_eq_true rfl⟩)) (fun r500 hr500 => ?_)
          subst hr500
          refine zb_ne (tgt := 59) hx hb dX6_findFault_45 (by decide) (fun c_501 => ?_) (fun c_501 => ?_)
          · refine lv_iconst (v := 1) hx hb dX6_findFault_59 (by decide) ?_
            refine lv_goto (tgt := 64) hx hb dX6_findFault_60 (by decide) ?_
            refine lv_istore_n (lv' := [(2, .int 1), (1, .int (nI i)), (0, .ref qm)]) hx hb dX6_findFault_64 rfl hl (by decide) rfl (fun ls hl => ?_)
            refine lv_iload_n hx hb dX6_findFault_65 rfl (lv_at hl 0 rfl) ?_
            refine lv_if_ne (tgt := 71) hx hb dX6_findFault_66 (by decide) (fun c_502 => ?_) (fun c_502 => ?_)
            · refine lv_iinc (v := nI (i + 1)) (lv' := [(1, .int (nI (i + 1))), (2, .int 1), (0, .ref qm)]) hx hb dX6_findFault_71 hl (k := 1) rfl (nI_inc i) (by decide) rfl (fun ls hl => ?_)
              refine lv_goto (tgt := 2) hx hb dX6_findFault_74 (by decide) ?_
              exact ih1 (i + 1) (by omega) (by rw [hf2, he c_496]; simp [fxs, badM, c_499, c_501, c_502]) (by omega) _ (lv_sub hl [0, 2] rfl)
            · exact absurd c_502 (by decide)
          · refine lv_aload_n hx hb dX6_findFault_48 rfl (lv_at hl 1 rfl) ?_
            refine va_get (D := G) (ci := 6) (v := .ref qp) (C := RX6) (T := TX6) (N := 10) hx hb hts inlX6 hown hK.1 hP 0 rfl rfl 6 (by decide) (hts _ wd84) (fun _ h9 => h9) rfl dX6_findFault_49 ?_
            refine lv_iload_n hx hb dX6_findFault_52 rfl (lv_at hl 0 rfl) ?_
            refine za_ld hx hb hK.1 hP 6 0 rfl rfl i rfl (by omega) (by decide) dX6_findFault_53 ?_
            refine lv_bipush (v := 45) hx hb dX6_findFault_54 (by decide) ?_
            refine lv_icmp_ne (tgt := 63) hx hb dX6_findFault_56 (by decide) (fun c_503 => ?_) (fun c_503 => ?_)
            · refine lv_iconst (v := 0) hx hb dX6_findFault_63 (by decide) ?_
              refine lv_istore_n (lv' := [(2, .int 0), (1, .int (nI i)), (0, .ref qm)]) hx hb dX6_findFault_64 rfl hl (by decide) rfl (fun ls hl => ?_)
              refine lv_iload_n hx hb dX6_findFault_65 rfl (lv_at hl 0 rfl) ?_
              refine lv_if_ne (tgt := 71) hx hb dX6_findFault_66 (by decide) (fun c_504 => ?_) (fun c_504 => ?_)
              · exact absurd c_504 (by decide)
              · refine lv_iload_n hx hb dX6_findFault_69 rfl (lv_at hl 1 rfl) ?_
                subst hQ
                exact W.iret (v := nI i) hx hb hr (fun t ht hW => ⟨nI i, rfl, by rw [ffM, hf2, he c_496]; simp [fxs, badM, c_499, c_501, c_503, c_504], ht⟩) (fun _ h => absurd h List.not_mem_nil) dX6_findFault_70
            · refine lv_iconst (v := 1) hx hb dX6_findFault_59 (by decide) ?_
              refine lv_goto (tgt := 64) hx hb dX6_findFault_60 (by decide) ?_
              refine lv_istore_n (lv' := [(2, .int 1), (1, .int (nI i)), (0, .ref qm)]) hx hb dX6_findFault_64 rfl hl (by decide) rfl (fun ls hl => ?_)
              refine lv_iload_n hx hb dX6_findFault_65 rfl (lv_at hl 0 rfl) ?_
              refine lv_if_ne (tgt := 71) hx hb dX6_findFault_66 (by decide) (fun c_505 => ?_) (fun c_505 => ?_)
              · refine lv_iinc (v := nI (i + 1)) (lv' := [(1, .int (nI (i + 1))), (2, .int 1), (0, .ref qm)]) hx hb dX6_findFault_71 hl (k := 1) rfl (nI_inc i) (by decide) rfl (fun ls hl => ?_)
                refine lv_goto (tgt := 2) hx hb dX6_findFault_74 (by decide) ?_
                exact ih1 (i + 1) (by omega) (by rw [hf2, he c_496]; simp [fxs, badM, c_499, c_501, c_503, c_505]) (by omega) _ (lv_sub hl [0, 2] rfl)
              · exact absurd c_505 (by decide)
        · refine lv_aload_n hx hb dX6_findFault_16 rfl (lv_at hl 1 rfl) ?_
          refine va_get (D := G) (ci := 6) (v := .ref qp) (C := RX6) (T := TX6) (N := 10) hx hb hts inlX6 hown hK.1 hP 0 rfl rfl 6 (by decide) (hts _ wd84) (fun _ h9 => h9) rfl dX6_findFault_17 ?_
          refine lv_iload_n hx hb dX6_findFault_20 rfl (lv_at hl 0 rfl) ?_
          refine za_ld hx hb hK.1 hP 6 0 rfl rfl i rfl (by omega) (by decide) dX6_findFault_21 ?_
          refine lv_bipush (v := 49) hx hb dX6_findFault_22 (by decide) ?_
          refine lv_bipush (v := 54) hx hb dX6_findFault_24 (by decide) ?_
          refine vp_callSi (va_Run.run (va_runS (As := [.int (pd i), .int 49, .int 54]) (rest := []) ⟨hx, hb, hml, hown, hts⟩ (c_X6_in l (pd i) 49 54) (cf_RX6_32 hts ⟨Nat.le_of_ble_eq_true rfl, Nat.le_of_ble_eq_true rfl⟩) pre_P rfl rfl hl.1 rfl (lv_room (Nat.le_of_ble_eq_true rfl)) dX6_findFault_26 ⟨Nat.le_of_ble_eq_true rfl, Nat.le_of_ble_eq_true rfl⟩)) (fun r506 hr506 => ?_)
          subst hr506
          refine lv_goto (tgt := 64) hx hb dX6_findFault_29 (by decide) ?_
          refine lv_istore_n (lv' := [(2, .int (bz (inQ (pd i) 49 54 = true))), (1, .int (nI i)), (0, .ref qm)]) hx hb dX6_findFault_64 rfl hl (by decide) rfl (fun ls hl => ?_)
          refine lv_iload_n hx hb dX6_findFault_65 rfl (lv_at hl 0 rfl) ?_
          refine zb_ne (tgt := 71) hx hb dX6_findFault_66 (by decide) (fun c_507 => ?_) (fun c_507 => ?_)
          · refine lv_iinc (v := nI (i + 1)) (lv' := [(1, .int (nI (i + 1))), (2, .int (bz (inQ (pd i) 49 54 = true))), (0, .ref qm)]) hx hb dX6_findFault_71 hl (k := 1) rfl (nI_inc i) (by decide) rfl (fun ls hl => ?_)
            refine lv_goto (tgt := 2) hx hb dX6_findFault_74 (by decide) ?_
            exact ih1 (i + 1) (by omega) (by rw [hf2, he c_496]; simp [fxs, badM, c_499, c_507]) (by omega) _ (lv_sub hl [0, 2] rfl)
          · refine lv_iload_n hx hb dX6_findFault_69 rfl (lv_at hl 1 rfl) ?_
            subst hQ
            exact W.iret (v := nI i) hx hb hr (fun t ht hW => ⟨nI i, rfl, by rw [ffM, hf2, he c_496]; simp [fxs, badM, c_499, c_507], ht⟩) (fun _ h => absurd h List.not_mem_nil) dX6_findFault_70
  exact L1 (len + 1) 0 (by omega) (by rw [Nat.sub_zero]) (by omega) _ (lv_sub hl [0, 1] rfl)

abbrev rm_X6_bridgeOn : Room := { frames := 1, cells := 0, slots := 0, locals := 20 }
set_option maxHeartbeats 1000000 in
set_option maxRecDepth 100000 in
theorem c_X6_bridgeOn (l : Launch) (G : va_G) (cI cC cZ cG : ClassId) (sz : Nat) (qm qz qa qe qs qv qp qn : Nat) (z as be sl sv pd nd : IA) (sts len : Nat) (go : Int32) (a : Nat) (ha : a < 32) : Met l yX6_bridgeOn (.code yX6_bridgeOn cX6_bridgeOn 3 (some .int) :: wsL_law) rm_X6_bridgeOn (va_Pc [.ref qm, .int (nI a)] (bw G cI cC cZ cG false sz [(qm, .inr (6, [.ref qz, .ref qa, .ref qe, .int (nI sts), .ref qs, .ref qv, .ref qp, .int (nI len), .int go, .ref qn])), (qz, .inl (cI, 46, .inl z)), (qa, .inl (cI, 46, .inl as)), (qe, .inl (cI, 276, .inl be)), (qs, .inl (cI, 92, .inl sl)), (qv, .inl (cZ, 2, .inl sv)), (qp, .inl (cI, 60, .inl pd)), (qn, .inl (cI, 36, .inl nd))])) (vp_Si (fun r => r = bsM z a)) 0 0 (fun _ => False) := by
  refine met_bw rfl (Nat.le_of_ble_eq_true rfl) ?_
  intro p e s m below meth c ls hx hb hr hml hown hts hlocks hin hsz hP hK hD0 hX0 hl
  have hown : s.vm.findClass RX6 = some m.cls := hown
  have hl : lv_has ls 3 [(0, .ref qm), (1, .int (nI a))] := hl
  refine lv_iload_n hx hb dX6_bridgeOn_0 rfl (lv_at hl 1 rfl) ?_
  refine lv_bipush (v := 8) hx hb dX6_bridgeOn_1 (by decide) ?_
  refine zi_div hx hb a 8 dX6_bridgeOn_3 rfl rfl (by omega) (by decide) (by decide) ?_
  refine lv_istore_n (lv' := [(2, .int (nI (a / 8))), (0, .ref qm), (1, .int (nI a))]) hx hb dX6_bridgeOn_4 rfl hl (by decide) rfl (fun ls hl => ?_)
  refine lv_iload_n hx hb dX6_bridgeOn_5 rfl (lv_at hl 2 rfl) ?_
  refine vp_callSi (va_Run.run (va_runS (As := [.int (nI a)]) (rest := []) ⟨hx, hb, hml, hown, hts⟩ (c_X6_isBridge l (nI a)) (cf_RX6_40 hts ⟨Nat.le_of_ble_eq_true rfl, Nat.le_of_ble_eq_true rfl⟩) pre_P rfl rfl hl.1 rfl (lv_room (Nat.le_of_ble_eq_true rfl)) dX6_bridgeOn_6 ⟨Nat.le_of_ble_eq_true rfl, Nat.le_of_ble_eq_true rfl⟩)) (fun r508 hr508 => ?_)
  subst hr508
  refine zb_ne (tgt := 16) hx hb dX6_bridgeOn_9 (by decide) (fun c_509 => ?_) (fun c_509 => ?_)
  · refine lv_aload_n hx hb dX6_bridgeOn_16 rfl (lv_at hl 1 rfl) ?_
    refine va_get (D := G) (ci := 6) (v := .ref qz) (C := RX6) (T := TX6) (N := 10) hx hb hts inlX6 hown hK.1 hP 0 rfl rfl 0 (by decide) (hts _ wd78) (fun _ h9 => h9) rfl dX6_bridgeOn_17 ?_
    refine lv_bipush (v := 24) hx hb dX6_bridgeOn_20 (by decide) ?_
    refine lv_iload_n hx hb dX6_bridgeOn_22 rfl (lv_at hl 0 rfl) ?_
    refine zi_add hx hb 24 (a / 8) dX6_bridgeOn_23 rfl rfl ?_
    refine za_ld hx hb hK.1 hP 1 0 rfl rfl (24 + (a / 8)) rfl (by omega) (by decide) dX6_bridgeOn_24 ?_
    refine lv_iconst (v := 1) hx hb dX6_bridgeOn_25 (by decide) ?_
    refine lv_icmp_ne (tgt := 33) hx hb dX6_bridgeOn_26 (by decide) (fun c_510 => ?_) (fun c_510 => ?_)
    · refine lv_aload_n hx hb dX6_bridgeOn_33 rfl (lv_at hl 1 rfl) ?_
      refine va_get (D := G) (ci := 6) (v := .ref qz) (C := RX6) (T := TX6) (N := 10) hx hb hts inlX6 hown hK.1 hP 0 rfl rfl 0 (by decide) (hts _ wd78) (fun _ h9 => h9) rfl dX6_bridgeOn_34 ?_
      refine lv_bipush (v := 28) hx hb dX6_bridgeOn_37 (by decide) ?_
      refine lv_iload_n hx hb dX6_bridgeOn_39 rfl (lv_at hl 0 rfl) ?_
      refine zi_add hx hb 28 (a / 8) dX6_bridgeOn_40 rfl rfl ?_
      refine za_ld hx hb hK.1 hP 1 0 rfl rfl (28 + (a / 8)) rfl (by omega) (by decide) dX6_bridgeOn_41 ?_
      refine lv_iconst (v := 1) hx hb dX6_bridgeOn_42 (by decide) ?_
      refine lv_icmp_ne (tgt := 50) hx hb dX6_bridgeOn_43 (by decide) (fun c_511 => ?_) (fun c_511 => ?_)
      · refine lv_iconst (v := 1) hx hb dX6_bridgeOn_50 (by decide) ?_
        exact W.iret (v := 1) hx hb hr (fun t ht hW => ⟨1, rfl, by simp [bsM, c_509, c_510, c_511], ht⟩) (fun _ h => absurd h List.not_mem_nil) dX6_bridgeOn_51
      · refine lv_iconst (v := 2) hx hb dX6_bridgeOn_46 (by decide) ?_
        refine lv_goto (tgt := 51) hx hb dX6_bridgeOn_47 (by decide) ?_
        exact W.iret (v := 2) hx hb hr (fun t ht hW => ⟨2, rfl, by simp [bsM, c_509, c_510, c_511], ht⟩) (fun _ h => absurd h List.not_mem_nil) dX6_bridgeOn_51
    · refine lv_iconst (v := 3) hx hb dX6_bridgeOn_29 (by decide) ?_
      refine lv_goto (tgt := 51) hx hb dX6_bridgeOn_30 (by decide) ?_
      exact W.iret (v := 3) hx hb hr (fun t ht hW => ⟨3, rfl, by simp [bsM, c_509, c_510], ht⟩) (fun _ h => absurd h List.not_mem_nil) dX6_bridgeOn_51
  · refine lv_iconst (v := 0) hx hb dX6_bridgeOn_12 (by decide) ?_
    refine lv_goto (tgt := 51) hx hb dX6_bridgeOn_13 (by decide) ?_
    exact W.iret (v := 0) hx hb hr (fun t ht hW => ⟨0, rfl, by simp [bsM, c_509], ht⟩) (fun _ h => absurd h List.not_mem_nil) dX6_bridgeOn_51

abbrev rm_X6_mendedIn : Room := { frames := 2, cells := 0, slots := 0, locals := 41 }
set_option maxHeartbeats 1000000 in
set_option maxRecDepth 100000 in
theorem c_X6_mendedIn (l : Launch) (G : va_G) (cI cC cZ cG : ClassId) (sz : Nat) (qm qz qa qe qs qv qp qn : Nat) (z as be sl sv pd nd : IA) (sts len : Nat) (go : Int32) (a : Nat) (ha : a < 32) : Met l yX6_mendedIn (.code yX6_mendedIn cX6_mendedIn 3 (some .int) :: wsL_law) rm_X6_mendedIn (va_Pc [.ref qm, .int (nI a)] (bw G cI cC cZ cG false sz [(qm, .inr (6, [.ref qz, .ref qa, .ref qe, .int (nI sts), .ref qs, .ref qv, .ref qp, .int (nI len), .int go, .ref qn])), (qz, .inl (cI, 46, .inl z)), (qa, .inl (cI, 46, .inl as)), (qe, .inl (cI, 276, .inl be)), (qs, .inl (cI, 92, .inl sl)), (qv, .inl (cZ, 2, .inl sv)), (qp, .inl (cI, 60, .inl pd)), (qn, .inl (cI, 36, .inl nd))])) (vp_Si (fun r => r = mdM z a)) 0 0 (fun _ => False) := by
  refine met_bw rfl (Nat.le_of_ble_eq_true rfl) ?_
  intro p e s m below meth c ls hx hb hr hml hown hts hlocks hin hsz hP hK hD0 hX0 hl
  have hown : s.vm.findClass RX6 = some m.cls := hown
  have hl : lv_has ls 3 [(0, .ref qm), (1, .int (nI a))] := hl
  refine lv_aload_n hx hb dX6_mendedIn_0 rfl (lv_at hl 0 rfl) ?_
  refine lv_iload_n hx hb dX6_mendedIn_1 rfl (lv_at hl 1 rfl) ?_
  have hPc : va_P G vwCl [(qm, .inr (6, [.ref qz, .ref qa, .ref qe, .int (nI sts), .ref qs, .ref qv, .ref qp, .int (nI len), .int go, .ref qn])), (qz, .inl (cI, 46, .inl z)), (qa, .inl (cI, 46, .inl as)), (qe, .inl (cI, 276, .inl be)), (qs, .inl (cI, 92, .inl sl)), (qv, .inl (cZ, 2, .inl sv)), (qp, .inl (cI, 60, .inl pd)), (qn, .inl (cI, 36, .inl nd))] s.heap := hP
  have hDc := hD0
  refine vp_callSi (va_Run.run (va_runV (As := [.int (nI a)]) (rest := []) ⟨hx, hb, hml, hown, hts⟩ (c_X6_isFallen l G cI cC cZ cG s.heap.size qm qz qa qe qs qv qp qn z as be sl sv pd nd sts len go (nI a) (Or.inr ⟨a, ha, rfl⟩)) (cf_RX6_71 hts ⟨Nat.le_of_ble_eq_true rfl, Nat.le_of_ble_eq_true rfl⟩) (pre_V hK hPc hDc (ci := 6) (q0 := 0) rfl rfl) rfl rfl hl.1 rfl (lv_room (Nat.le_of_ble_eq_true rfl)) dX6_mendedIn_2 ⟨Nat.le_of_ble_eq_true rfl, Nat.le_of_ble_eq_true rfl⟩)) (fun r512 hr512 => ?_)
  subst hr512
  refine zb_eq (tgt := 18) hx hb dX6_mendedIn_5 (by decide) (fun c_513 => ?_) (fun c_513 => ?_)
  · refine lv_bipush (v := (-6)) hx hb dX6_mendedIn_18 (by decide) ?_
    exact W.iret (v := (-6)) hx hb hr (fun t ht hW => ⟨(-6), rfl, by rw [mdM, if_pos (by simp [c_513])], ht⟩) (fun _ h => absurd h List.not_mem_nil) dX6_mendedIn_20
  · refine lv_aload_n hx hb dX6_mendedIn_8 rfl (lv_at hl 0 rfl) ?_
    refine va_get (D := G) (ci := 6) (v := .ref qz) (C := RX6) (T := TX6) (N := 10) hx hb hts inlX6 hown hK.1 hP 0 rfl rfl 0 (by decide) (hts _ wd78) (fun _ h9 => h9) rfl dX6_mendedIn_9 ?_
    refine lv_bipush (v := 37) hx hb dX6_mendedIn_12 (by decide) ?_
    refine za_ld hx hb hK.1 hP 1 0 rfl rfl 37 rfl (by decide) (by decide) dX6_mendedIn_14 ?_
    refine lv_if_ne (tgt := 21) hx hb dX6_mendedIn_15 (by decide) (fun c_514 => ?_) (fun c_514 => ?_)
    · refine lv_aload_n hx hb dX6_mendedIn_21 rfl (lv_at hl 0 rfl) ?_
      refine va_get (D := G) (ci := 6) (v := .ref qz) (C := RX6) (T := TX6) (N := 10) hx hb hts inlX6 hown hK.1 hP 0 rfl rfl 0 (by decide) (hts _ wd78) (fun _ h9 => h9) rfl dX6_mendedIn_22 ?_
      refine lv_bipush (v := 37) hx hb dX6_mendedIn_25 (by decide) ?_
      refine za_ld hx hb hK.1 hP 1 0 rfl rfl 37 rfl (by decide) (by decide) dX6_mendedIn_27 ?_
      refine lv_aload_n hx hb dX6_mendedIn_28 rfl (lv_at hl 0 rfl) ?_
      refine va_get (D := G) (ci := 6) (v := .ref qz) (C := RX6) (T := TX6) (N := 10) hx hb hts inlX6 hown hK.1 hP 0 rfl rfl 0 (by decide) (hts _ wd78) (fun _ h9 => h9) rfl dX6_mendedIn_29 ?_
      refine lv_bipush (v := 42) hx hb dX6_mendedIn_32 (by decide) ?_
      refine za_ld hx hb hK.1 hP 1 0 rfl rfl 42 rfl (by decide) (by decide) dX6_mendedIn_34 ?_
      refine lv_aload_n hx hb dX6_mendedIn_35 rfl (lv_at hl 0 rfl) ?_
      refine va_get (D := G) (ci := 6) (v := .ref qz) (C := RX6) (T := TX6) (N := 10) hx hb hts inlX6 hown hK.1 hP 0 rfl rfl 0 (by decide) (hts _ wd78) (fun _ h9 => h9) rfl dX6_mendedIn_36 ?_
      refine lv_bipush (v := 32) hx hb dX6_mendedIn_39 (by decide) ?_
      refine lv_iload_n hx hb dX6_mendedIn_41 rfl (lv_at hl 1 rfl) ?_
      refine lv_bipush (v := 8) hx hb dX6_mendedIn_42 (by decide) ?_
      refine zi_div hx hb a 8 dX6_mendedIn_44 rfl rfl (by omega) (by decide) (by decide) ?_
      refine zi_add hx hb 32 (a / 8) dX6_mendedIn_45 rfl rfl ?_
      refine za_ld hx hb hK.1 hP 1 0 rfl rfl (32 + (a / 8)) rfl (by omega) (by decide) dX6_mendedIn_46 ?_
      refine lv_isub hx hb dX6_mendedIn_47 ?_
      refine lv_isub hx hb dX6_mendedIn_48 ?_
      refine lv_istore_n (lv' := [(2, .int ((z 37) - ((z 42) - (z (32 + (a / 8)))))), (0, .ref qm), (1, .int (nI a))]) hx hb dX6_mendedIn_49 rfl hl (by decide) rfl (fun ls hl => ?_)
      refine lv_iload_n hx hb dX6_mendedIn_50 rfl (lv_at hl 0 rfl) ?_
      refine lv_iconst (v := 1) hx hb dX6_mendedIn_51 (by decide) ?_
      refine lv_icmp_ge (tgt := 59) hx hb dX6_mendedIn_52 (by decide) (fun c_515 => ?_) (fun c_515 => ?_)
      · refine lv_iload_n hx hb dX6_mendedIn_59 rfl (lv_at hl 0 rfl) ?_
        exact W.iret (v := (z 37) - ((z 42) - (z (32 + (a / 8))))) hx hb hr (fun t ht hW => ⟨(z 37) - ((z 42) - (z (32 + (a / 8)))), rfl, by rw [mdM, if_neg (by simp [c_513, c_514]), if_pos (show 1 ≤ mdE z a from c_515)]; rfl, ht⟩) (fun _ h => absurd h List.not_mem_nil) dX6_mendedIn_60
      · refine lv_iconst (v := 1) hx hb dX6_mendedIn_55 (by decide) ?_
        refine lv_goto (tgt := 60) hx hb dX6_mendedIn_56 (by decide) ?_
        exact W.iret (v := 1) hx hb hr (fun t ht hW => ⟨1, rfl, by rw [mdM, if_neg (by simp [c_513, c_514]), if_neg (show ¬ 1 ≤ mdE z a from c_515)], ht⟩) (fun _ h => absurd h List.not_mem_nil) dX6_mendedIn_60
    · refine lv_bipush (v := (-6)) hx hb dX6_mendedIn_18 (by decide) ?_
      exact W.iret (v := (-6)) hx hb hr (fun t ht hW => ⟨(-6), rfl, by rw [mdM, if_pos (by simp [c_513, c_514])], ht⟩) (fun _ h => absurd h List.not_mem_nil) dX6_mendedIn_20

abbrev rm_X6_fallenBridges : Room := { frames := 0, cells := 0, slots := 0, locals := 0 }
set_option maxHeartbeats 1000000 in
set_option maxRecDepth 100000 in
theorem c_X6_fallenBridges (l : Launch) (G : va_G) (cI cC cZ cG : ClassId) (sz : Nat) (qm qz qa qe qs qv qp qn : Nat) (z as be sl sv pd nd : IA) (sts len : Nat) (go : Int32) : Met l yX6_fallenBridges (.code yX6_fallenBridges cX6_fallenBridges 3 (some .int) :: wsL_law) rm_X6_fallenBridges (va_Pc [.ref qm] (bw G cI cC cZ cG false sz [(qm, .inr (6, [.ref qz, .ref qa, .ref qe, .int (nI sts), .ref qs, .ref qv, .ref qp, .int (nI len), .int go, .ref qn])), (qz, .inl (cI, 46, .inl z)), (qa, .inl (cI, 46, .inl as)), (qe, .inl (cI, 276, .inl be)), (qs, .inl (cI, 92, .inl sl)), (qv, .inl (cZ, 2, .inl sv)), (qp, .inl (cI, 60, .inl pd)), (qn, .inl (cI, 36, .inl nd))])) (vp_Si (fun r => r = fbM z 4)) 0 0 (fun _ => False) := by
  refine met_bw rfl (Nat.le_of_ble_eq_true rfl) ?_
  intro p e s m below meth c ls hx hb hr hml hown hts hlocks hin hsz hP hK hD0 hX0 hl
  have hown : s.vm.findClass RX6 = some m.cls := hown
  have hl : lv_has ls 3 [(0, .ref qm)] := hl
  generalize hQ : MQ below (vp_Si (fun r => r = fbM z 4)) ([.ref qm] : List Value).toArray s 0 0 (fun _ => False) = Q
  generalize hag : ([.ref qm] : List Value).toArray = ag at hts hQ ⊢
  refine lv_iconst (v := 0) hx hb dX6_fallenBridges_0 (by decide) ?_
  refine lv_istore_n (lv' := [(1, .int 0), (0, .ref qm)]) hx hb dX6_fallenBridges_1 rfl hl (by decide) rfl (fun ls hl => ?_)
  refine lv_iconst (v := 0) hx hb dX6_fallenBridges_2 (by decide) ?_
  refine lv_istore_n (lv' := [(2, .int 0), (1, .int 0), (0, .ref qm)]) hx hb dX6_fallenBridges_3 rfl hl (by decide) rfl (fun ls hl => ?_)
  have L1 : ∀ (n : Nat), ∀ (i : Nat), ∀ (f : Int32), ∀ (hi : i ≤ 4), ∀ (hf2 : f = fbM z i), ∀ (hn : 5 ≤ i + n), ∀ (ls : Array Slot), lv_has ls 3 [(2, .int (nI i)), (1, .int f), (0, .ref qm)] → W p l e rm_X6_fallenBridges s m ag below meth c s.heap [] 0 0 Q (F0 m 4 ls []) := by
    intro n
    induction n with
    | zero =>
      intro i f hi hf2 hn ls hl
      omega
    | succ n ih1 =>
      intro i f hi hf2 hn ls hl
      refine lv_iload_n hx hb dX6_fallenBridges_4 rfl (lv_at hl 0 rfl) ?_
      refine lv_iconst (v := 4) hx hb dX6_fallenBridges_5 (by decide) ?_
      refine zi_ge (tgt := 29) hx hb i 4 dX6_fallenBridges_6 (by decide) rfl rfl (by omega) (by decide) (fun c_517 => ?_) (fun c_517 => ?_)
      · refine lv_iload_n hx hb dX6_fallenBridges_29 rfl (lv_at hl 1 rfl) ?_
        subst hQ
        exact W.iret (v := f) hx hb hr (fun t ht hW => ⟨f, rfl, by rw [hf2, show i = 4 by omega], ht⟩) (fun _ h => absurd h List.not_mem_nil) dX6_fallenBridges_30
      · refine lv_iload_n hx hb dX6_fallenBridges_9 rfl (lv_at hl 1 rfl) ?_
        refine lv_aload_n hx hb dX6_fallenBridges_10 rfl (lv_at hl 2 rfl) ?_
        refine va_get (D := G) (ci := 6) (v := .ref qz) (C := RX6) (T := TX6) (N := 10) hx hb hts inlX6 hown hK.1 hP 0 rfl rfl 0 (by decide) (hts _ wd78) (fun _ h9 => h9) rfl dX6_fallenBridges_11 ?_
        refine lv_bipush (v := 24) hx hb dX6_fallenBridges_14 (by decide) ?_
        refine lv_iload_n hx hb dX6_fallenBridges_16 rfl (lv_at hl 0 rfl) ?_
        refine zi_add hx hb 24 i dX6_fallenBridges_17 rfl rfl ?_
        refine za_ld hx hb hK.1 hP 1 0 rfl rfl (24 + i) rfl (by omega) (by decide) dX6_fallenBridges_18 ?_
        refine lv_iload_n hx hb dX6_fallenBridges_19 rfl (lv_at hl 0 rfl) ?_
        refine lv_ishl hx hb dX6_fallenBridges_20 ?_
        refine lv_ior hx hb dX6_fallenBridges_21 ?_
        refine lv_istore_n (lv' := [(1, .int (f ||| ((z (24 + i)) <<< ((nI i) &&& 31)))), (2, .int (nI i)), (0, .ref qm)]) hx hb dX6_fallenBridges_22 rfl hl (by decide) rfl (fun ls hl => ?_)
        refine lv_iinc (v := nI (i + 1)) (lv' := [(2, .int (nI (i + 1))), (1, .int (f ||| ((z (24 + i)) <<< ((nI i) &&& 31)))), (0, .ref qm)]) hx hb dX6_fallenBridges_23 hl (k := 1) rfl (nI_inc i) (by decide) rfl (fun ls hl => ?_)
        refine lv_goto (tgt := 4) hx hb dX6_fallenBridges_26 (by decide) ?_
        exact ih1 (i + 1) (f ||| ((z (24 + i)) <<< ((nI i) &&& 31))) (by omega) (by rw [fbM, hf2]) (by omega) _ (lv_sub hl [0, 1, 2] rfl)
  exact L1 5 0 0 (by decide) rfl (by decide) _ (lv_sub hl [0, 1, 2] rfl)

abbrev rm_X6_seed : Room := { frames := 1, cells := 0, slots := 0, locals := 21 }
theorem cf_RX6_68 {R : Room} {s : State} {args : Array Value} (ht : ∀ w ∈ wsL_law, w.before args s = true) (hR : rm_X6_record.frames + 1 ≤ R.frames ∧ 8 + (2 + 11) + rm_X6_record.locals ≤ R.locals) : CallW R s args RX6 RX6 68 yX6_record cX6_record 2 none (.code yX6_record cX6_record 2 none :: wsL_law) rm_X6_record 0 0 0 := ⟨cw_B 0 ht wd119 wd5 wd122 (by decide +kernel) rfl rfl hR, ht _ wd120, ht _ wd121⟩
set_option maxHeartbeats 1000000 in
set_option maxRecDepth 100000 in
theorem c_X6_seed (l : Launch) (G : va_G) (cI cC cZ cG : ClassId) (sz : Nat) (qm qz qa qe qs qv qp qn : Nat) (z as be sl sv pd nd : IA) (sts len : Nat) (go : Int32) (pl : Nat) (n0 : Int32) (hz : ∀ k, k < 12 → okv (z k)) (hx0 : ¬ z 39 < 0) (hpl : pl < 4) (h40 : z 40 = nI pl) (h4c : okc (z 41)) (hst : sts ≤ 6) (hln : len ≤ 60) : Met l yX6_seed (.code yX6_seed cX6_seed 3 (some .int) :: wsL_law) rm_X6_seed (va_Pc [.ref qm, .int n0] (bw G cI cC cZ cG false sz [(qm, .inr (6, [.ref qz, .ref qa, .ref qe, .int (nI sts), .ref qs, .ref qv, .ref qp, .int (nI len), .int go, .ref qn])), (qz, .inl (cI, 46, .inl z)), (qa, .inl (cI, 46, .inl as)), (qe, .inl (cI, 276, .inl be)), (qs, .inl (cI, 92, .inl sl)), (qv, .inl (cZ, 2, .inl sv)), (qp, .inl (cI, 60, .inl pd)), (qn, .inl (cI, 36, .inl nd))])) (va_Qi (fun (r : Int32) (u : MS) => r = (m_seed n0 (z, be, sts, sl, sv, pd, len)).1 ∧ cor u = (m_seed n0 (z, be, sts, sl, sv, pd, len)).2) (fun (u : MS) t => va_P G vwCl [(qm, .inr (6, [.ref qz, .ref qa, .ref qe, .int (nI u.2.2.1), .ref qs, .ref qv, .ref qp, .int (nI u.2.2.2.2.2.2.1), .int u.2.2.2.2.2.2.2.2.1, .ref qn])), (qz, .inl (cI, 46, .inl u.1)), (qa, .inl (cI, 46, .inl u.2.2.2.2.2.2.2.1)), (qe, .inl (cI, 276, .inl u.2.1)), (qs, .inl (cI, 92, .inl u.2.2.2.1)), (qv, .inl (cZ, 2, .inl u.2.2.2.2.1)), (qp, .inl (cI, 60, .inl u.2.2.2.2.2.1)), (qn, .inl (cI, 36, .inl u.2.2.2.2.2.2.2.2.2))] t.heap ∧ va_D (va_A [(qm, .inr (6, [.ref qz, .ref qa, .ref qe, .int (nI sts), .ref qs, .ref qv, .ref qp, .int (nI len), .int go, .ref qn])), (qz, .inl (cI, 46, .inl z)), (qa, .inl (cI, 46, .inl as)), (qe, .inl (cI, 276, .inl be)), (qs, .inl (cI, 92, .inl sl)), (qv, .inl (cZ, 2, .inl sv)), (qp, .inl (cI, 60, .inl pd)), (qn, .inl (cI, 36, .inl nd))] sz) [(qm, .inr (6, [.ref qz, .ref qa, .ref qe, .int (nI u.2.2.1), .ref qs, .ref qv, .ref qp, .int (nI u.2.2.2.2.2.2.1), .int u.2.2.2.2.2.2.2.2.1, .ref qn])), (qz, .inl (cI, 46, .inl u.1)), (qa, .inl (cI, 46, .inl u.2.2.2.2.2.2.2.1)), (qe, .inl (cI, 276, .inl u.2.1)), (qs, .inl (cI, 92, .inl u.2.2.2.1)), (qv, .inl (cZ, 2, .inl u.2.2.2.2.1)), (qp, .inl (cI, 60, .inl u.2.2.2.2.2.1)), (qn, .inl (cI, 36, .inl u.2.2.2.2.2.2.2.2.2))]) (va_A [(qm, .inr (6, [.ref qz, .ref qa, .ref qe, .int (nI sts), .ref qs, .ref qv, .ref qp, .int (nI len), .int go, .ref qn])), (qz, .inl (cI, 46, .inl z)), (qa, .inl (cI, 46, .inl as)), (qe, .inl (cI, 276, .inl be)), (qs, .inl (cI, 92, .inl sl)), (qv, .inl (cZ, 2, .inl sv)), (qp, .inl (cI, 60, .inl pd)), (qn, .inl (cI, 36, .inl nd))] sz)) 0 0 (va_A [(qm, .inr (6, [.ref qz, .ref qa, .ref qe, .int (nI sts), .ref qs, .ref qv, .ref qp, .int (nI len), .int go, .ref qn])), (qz, .inl (cI, 46, .inl z)), (qa, .inl (cI, 46, .inl as)), (qe, .inl (cI, 276, .inl be)), (qs, .inl (cI, 92, .inl sl)), (qv, .inl (cZ, 2, .inl sv)), (qp, .inl (cI, 60, .inl pd)), (qn, .inl (cI, 36, .inl nd))] sz) := by
  refine met_bw rfl (Nat.le_of_ble_eq_true rfl) ?_
  intro p e s m below meth c ls hx hb hr hml hown hts hlocks hin hsz hP hK hD0 hX0 hl
  have hown : s.vm.findClass RX6 = some m.cls := hown
  have hl : lv_has ls 3 [(0, .ref qm), (1, .int n0)] := hl
  subst hsz
  have hD := hD0.self (sz := s.heap.size)
  generalize hAe : va_A [(qm, .inr (6, [.ref qz, .ref qa, .ref qe, .int (nI sts), .ref qs, .ref qv, .ref qp, .int (nI len), .int go, .ref qn])), (qz, .inl (cI, 46, .inl z)), (qa, .inl (cI, 46, .inl as)), (qe, .inl (cI, 276, .inl be)), (qs, .inl (cI, 92, .inl sl)), (qv, .inl (cZ, 2, .inl sv)), (qp, .inl (cI, 60, .inl pd)), (qn, .inl (cI, 36, .inl nd))] s.heap.size = A at hD ⊢
  have hA : ∀ q : Nat, s.heap.size ≤ q → A q := fun q h => by rw [← hAe]; exact Or.inr h
  have hS : va_S A s.heap s.heap [] := va_S.rf
  refine lv_iload_n hx hb dX6_seed_0 rfl (lv_at hl 1 rfl) ?_
  refine lv_if_ge (tgt := 7) hx hb dX6_seed_1 (by decide) (fun c_518 => ?_) (fun c_518 => ?_)
  · refine lv_aload_n hx hb dX6_seed_7 rfl (lv_at hl 0 rfl) ?_
    have hPc : va_P G vwCl [(qm, .inr (6, [.ref qz, .ref qa, .ref qe, .int (nI sts), .ref qs, .ref qv, .ref qp, .int (nI len), .int go, .ref qn])), (qz, .inl (cI, 46, .inl z)), (qa, .inl (cI, 46, .inl as)), (qe, .inl (cI, 276, .inl be)), (qs, .inl (cI, 92, .inl sl)), (qv, .inl (cZ, 2, .inl sv)), (qp, .inl (cI, 60, .inl pd)), (qn, .inl (cI, 36, .inl nd))] s.heap := hP
    have hDc := hD.tt
    have hFc := va_free (wc := [(qm, .inr (6, [.ref qz, .ref qa, .ref qe, .int (nI sts), .ref qs, .ref qv, .ref qp, .int (nI len), .int go, .ref qn])), (qz, .inl (cI, 46, .inl z)), (qa, .inl (cI, 46, .inl as)), (qe, .inl (cI, 276, .inl be)), (qs, .inl (cI, 92, .inl sl)), (qv, .inl (cZ, 2, .inl sv)), (qp, .inl (cI, 60, .inl pd)), (qn, .inl (cI, 36, .inl nd))]) hD hS hA [0, 1, 2, 3, 4, 5, 6, 7] rfl
    refine va_callv (va_runV (As := []) (rest := []) ⟨hx, hb, hml, hown, hts⟩ (c_X6_record l G cI cC cZ cG s.heap.size qm qz qa qe qs qv qp qn z as be sl sv pd nd sts len go hst) (cf_RX6_68 hts ⟨Nat.le_of_ble_eq_true rfl, Nat.le_of_ble_eq_true rfl⟩) (pre_V hK hPc hDc (ci := 6) (q0 := 0) rfl rfl) rfl rfl hl.1 rfl (lv_room (Nat.le_of_ble_eq_true rfl)) dX6_seed_8 ⟨Nat.le_of_ble_eq_true rfl, Nat.le_of_ble_eq_true rfl⟩) hS (fun q _ h => hFc q h) hFc (fun u519 t519 H519 locs519 ht519 hvm519 hw519 hB519 hz519 hk519 hS => ?_)
    obtain ⟨q519, rfl⟩ : ∃ z, z = u519 := ⟨_, rfl⟩
    obtain ⟨hP1, hD1⟩ := hB519
    rw [ht519] at hP1
    try dsimp only at hw519
    obtain ⟨hP, hD⟩ := va_join (wr := []) (w1 := [(qm, .inr (6, [.ref qz, .ref qa, .ref qe, .int (nI (rcN sts)), .ref qs, .ref qv, .ref qp, .int (nI len), .int go, .ref qn])), (qz, .inl (cI, 46, .inl z)), (qa, .inl (cI, 46, .inl as)), (qe, .inl (cI, 276, .inl (rcB be z sts))), (qs, .inl (cI, 92, .inl sl)), (qv, .inl (cZ, 2, .inl sv)), (qp, .inl (cI, 60, .inl pd)), (qn, .inl (cI, 36, .inl nd))]) hP hD [0, 1, 2, 3, 4, 5, 6, 7] [] rfl rfl (by decide) (by decide) hk519 hFc hP1 hD1
    have hP : va_P G vwCl [(qm, .inr (6, [.ref qz, .ref qa, .ref qe, .int (nI (rcN sts)), .ref qs, .ref qv, .ref qp, .int (nI len), .int go, .ref qn])), (qz, .inl (cI, 46, .inl z)), (qa, .inl (cI, 46, .inl as)), (qe, .inl (cI, 276, .inl (rcB be z sts))), (qs, .inl (cI, 92, .inl sl)), (qv, .inl (cZ, 2, .inl sv)), (qp, .inl (cI, 60, .inl pd)), (qn, .inl (cI, 36, .inl nd))] H519 := hP
    have hD : va_D A [(qm, .inr (6, [.ref qz, .ref qa, .ref qe, .int (nI (rcN sts)), .ref qs, .ref qv, .ref qp, .int (nI len), .int go, .ref qn])), (qz, .inl (cI, 46, .inl z)), (qa, .inl (cI, 46, .inl as)), (qe, .inl (cI, 276, .inl (rcB be z sts))), (qs, .inl (cI, 92, .inl sl)), (qv, .inl (cZ, 2, .inl sv)), (qp, .inl (cI, 60, .inl pd)), (qn, .inl (cI, 36, .inl nd))] := hD
    refine lv_aload_n hx hb dX6_seed_11 rfl (lv_at hl 0 rfl) ?_
    refine va_get (D := G) (ci := 6) (v := .ref qz) (C := RX6) (T := TX6) (N := 10) hx hb hts inlX6 hown hK.1 hP 0 rfl rfl 0 (by decide) (hts _ wd78) (fun _ h9 => h9) rfl dX6_seed_12 ?_
    refine lv_bipush (v := 39) hx hb dX6_seed_15 (by decide) ?_
    refine za_ld hx hb hK.1 hP 1 0 rfl rfl 39 rfl (by decide) (by decide) dX6_seed_17 ?_
    refine lv_istore_n (lv' := [(2, .int (z 39)), (0, .ref qm), (1, .int n0)]) hx hb dX6_seed_18 rfl hl (by decide) rfl (fun ls hl => ?_)
    refine lv_aload_n hx hb dX6_seed_19 rfl (lv_at hl 1 rfl) ?_
    refine va_get (D := G) (ci := 6) (v := .ref qz) (C := RX6) (T := TX6) (N := 10) hx hb hts inlX6 hown hK.1 hP 0 rfl rfl 0 (by decide) (hts _ wd78) (fun _ h9 => h9) rfl dX6_seed_20 ?_
    refine lv_bipush (v := 39) hx hb dX6_seed_23 (by decide) ?_
    refine lv_iload_n hx hb dX6_seed_25 rfl (lv_at hl 2 rfl) ?_
    refine za_st hx hb hK.1 hP hD hS 1 0 rfl rfl 39 rfl (by decide) (by decide) dX6_seed_26 (fun H520 locs520 hP hD hS => ?_)
    have hP : va_P G vwCl [(qm, .inr (6, [.ref qz, .ref qa, .ref qe, .int (nI (rcN sts)), .ref qs, .ref qv, .ref qp, .int (nI len), .int go, .ref qn])), (qz, .inl (cI, 46, .inl (upd z 39 n0))), (qa, .inl (cI, 46, .inl as)), (qe, .inl (cI, 276, .inl (rcB be z sts))), (qs, .inl (cI, 92, .inl sl)), (qv, .inl (cZ, 2, .inl sv)), (qp, .inl (cI, 60, .inl pd)), (qn, .inl (cI, 36, .inl nd))] H520 := hP
    have hD : va_D A [(qm, .inr (6, [.ref qz, .ref qa, .ref qe, .int (nI (rcN sts)), .ref qs, .ref qv, .ref qp, .int (nI len), .int go, .ref qn])), (qz, .inl (cI, 46, .inl (upd z 39 n0))), (qa, .inl (cI, 46, .inl as)), (qe, .inl (cI, 276, .inl (rcB be z sts))), (qs, .inl (cI, 92, .inl sl)), (qv, .inl (cZ, 2, .inl sv)), (qp, .inl (cI, 60, .inl pd)), (qn, .inl (cI, 36, .inl nd))] := hD
    refine lv_iload_n hx hb dX6_seed_27 rfl (lv_at hl 0 rfl) ?_
    exact W.iret (v := z 39) hx hb hr (fun t ht hW => ⟨⟨z 39, (upd z 39 n0, rcB be z sts, rcN sts, sl, sv, pd, len, as, go, nd), rfl, ⟨by show _ = Prod.fst (_ : Int32 × KS); rw [m_seed, if_pos c_518], by rw [m_seed, if_pos c_518]; rfl⟩, by rw [ht]; exact hP, hD⟩, hS.F ht⟩) hS.2.2 dX6_seed_28
  · refine lv_bipush (v := (-2)) hx hb dX6_seed_4 (by decide) ?_
    exact W.iret (v := (-2)) hx hb hr (fun t ht hW => ⟨⟨(-2), (z, be, sts, sl, sv, pd, len, as, go, nd), rfl, ⟨by show _ = Prod.fst (_ : Int32 × KS); rw [m_seed, if_neg c_518], by rw [m_seed, if_neg c_518]; rfl⟩, by rw [ht]; exact hP, hD⟩, hS.F ht⟩) hS.2.2 dX6_seed_6

abbrev rm_X6_set : Room := { frames := 1, cells := 0, slots := 0, locals := 22 }
theorem cf_RX6_108 {R : Room} {s : State} {args : Array Value} (ht : ∀ w ∈ wsL_law, w.before args s = true) (hR : rm_X6_least.frames + 1 ≤ R.frames ∧ 8 + (1 + 11) + rm_X6_least.locals ≤ R.locals) : CallB R s args RX6 108 yX6_least cX6_least 1 (some .int) (.code yX6_least cX6_least 1 (some .int) :: wsL_law) rm_X6_least 0 0 1 ∧ (Cond.static yX6_least).before args s = true := ⟨cw_B 1 ht wd113 wd5 wd115 (by decide +kernel) rfl rfl hR, ht _ wd114⟩
theorem cf_RX6_111 {R : Room} {s : State} {args : Array Value} (ht : ∀ w ∈ wsL_law, w.before args s = true) (hR : rm_X6_most.frames + 1 ≤ R.frames ∧ 8 + (1 + 11) + rm_X6_most.locals ≤ R.locals) : CallB R s args RX6 111 yX6_most cX6_most 1 (some .int) (.code yX6_most cX6_most 1 (some .int) :: wsL_law) rm_X6_most 0 0 1 ∧ (Cond.static yX6_most).before args s = true := ⟨cw_B 1 ht wd116 wd5 wd118 (by decide +kernel) rfl rfl hR, ht _ wd117⟩
set_option maxHeartbeats 1000000 in
set_option maxRecDepth 100000 in
theorem c_X6_set (l : Launch) (G : va_G) (cI cC cZ cG : ClassId) (sz : Nat) (qm qz qa qe qs qv qp qn : Nat) (z as be sl sv pd nd : IA) (sts len : Nat) (go : Int32) (pl : Nat) (k0 v0 : Int32) (hz : ∀ k, k < 12 → okv (z k)) (hx0 : ¬ z 39 < 0) (hpl : pl < 4) (h40 : z 40 = nI pl) (h4c : okc (z 41)) (hst : sts ≤ 6) (hln : len ≤ 60) : Met l yX6_set (.code yX6_set cX6_set 4 (some .int) :: wsL_law) rm_X6_set (va_Pc [.ref qm, .int k0, .int v0] (bw G cI cC cZ cG false sz [(qm, .inr (6, [.ref qz, .ref qa, .ref qe, .int (nI sts), .ref qs, .ref qv, .ref qp, .int (nI len), .int go, .ref qn])), (qz, .inl (cI, 46, .inl z)), (qa, .inl (cI, 46, .inl as)), (qe, .inl (cI, 276, .inl be)), (qs, .inl (cI, 92, .inl sl)), (qv, .inl (cZ, 2, .inl sv)), (qp, .inl (cI, 60, .inl pd)), (qn, .inl (cI, 36, .inl nd))])) (va_Qi (fun (r : Int32) (u : MS) => r = (m_set k0 v0 (z, be, sts, sl, sv, pd, len)).1 ∧ cor u = (m_set k0 v0 (z, be, sts, sl, sv, pd, len)).2) (fun (u : MS) t => va_P G vwCl [(qm, .inr (6, [.ref qz, .ref qa, .ref qe, .int (nI u.2.2.1), .ref qs, .ref qv, .ref qp, .int (nI u.2.2.2.2.2.2.1), .int u.2.2.2.2.2.2.2.2.1, .ref qn])), (qz, .inl (cI, 46, .inl u.1)), (qa, .inl (cI, 46, .inl u.2.2.2.2.2.2.2.1)), (qe, .inl (cI, 276, .inl u.2.1)), (qs, .inl (cI, 92, .inl u.2.2.2.1)), (qv, .inl (cZ, 2, .inl u.2.2.2.2.1)), (qp, .inl (cI, 60, .inl u.2.2.2.2.2.1)), (qn, .inl (cI, 36, .inl u.2.2.2.2.2.2.2.2.2))] t.heap ∧ va_D (va_A [(qm, .inr (6, [.ref qz, .ref qa, .ref qe, .int (nI sts), .ref qs, .ref qv, .ref qp, .int (nI len), .int go, .ref qn])), (qz, .inl (cI, 46, .inl z)), (qa, .inl (cI, 46, .inl as)), (qe, .inl (cI, 276, .inl be)), (qs, .inl (cI, 92, .inl sl)), (qv, .inl (cZ, 2, .inl sv)), (qp, .inl (cI, 60, .inl pd)), (qn, .inl (cI, 36, .inl nd))] sz) [(qm, .inr (6, [.ref qz, .ref qa, .ref qe, .int (nI u.2.2.1), .ref qs, .ref qv, .ref qp, .int (nI u.2.2.2.2.2.2.1), .int u.2.2.2.2.2.2.2.2.1, .ref qn])), (qz, .inl (cI, 46, .inl u.1)), (qa, .inl (cI, 46, .inl u.2.2.2.2.2.2.2.1)), (qe, .inl (cI, 276, .inl u.2.1)), (qs, .inl (cI, 92, .inl u.2.2.2.1)), (qv, .inl (cZ, 2, .inl u.2.2.2.2.1)), (qp, .inl (cI, 60, .inl u.2.2.2.2.2.1)), (qn, .inl (cI, 36, .inl u.2.2.2.2.2.2.2.2.2))]) (va_A [(qm, .inr (6, [.ref qz, .ref qa, .ref qe, .int (nI sts), .ref qs, .ref qv, .ref qp, .int (nI len), .int go, .ref qn])), (qz, .inl (cI, 46, .inl z)), (qa, .inl (cI, 46, .inl as)), (qe, .inl (cI, 276, .inl be)), (qs, .inl (cI, 92, .inl sl)), (qv, .inl (cZ, 2, .inl sv)), (qp, .inl (cI, 60, .inl pd)), (qn, .inl (cI, 36, .inl nd))] sz)) 0 0 (va_A [(qm, .inr (6, [.ref qz, .ref qa, .ref qe, .int (nI sts), .ref qs, .ref qv, .ref qp, .int (nI len), .int go, .ref qn])), (qz, .inl (cI, 46, .inl z)), (qa, .inl (cI, 46, .inl as)), (qe, .inl (cI, 276, .inl be)), (qs, .inl (cI, 92, .inl sl)), (qv, .inl (cZ, 2, .inl sv)), (qp, .inl (cI, 60, .inl pd)), (qn, .inl (cI, 36, .inl nd))] sz) := by
  refine met_bw rfl (Nat.le_of_ble_eq_true rfl) ?_
  intro p e s m below meth c ls hx hb hr hml hown hts hlocks hin hsz hP hK hD0 hX0 hl
  have hown : s.vm.findClass RX6 = some m.cls := hown
  have hl : lv_has ls 4 [(0, .ref qm), (1, .int k0), (2, .int v0)] := hl
  subst hsz
  have hD := hD0.self (sz := s.heap.size)
  generalize hAe : va_A [(qm, .inr (6, [.ref qz, .ref qa, .ref qe, .int (nI sts), .ref qs, .ref qv, .ref qp, .int (nI len), .int go, .ref qn])), (qz, .inl (cI, 46, .inl z)), (qa, .inl (cI, 46, .inl as)), (qe, .inl (cI, 276, .inl be)), (qs, .inl (cI, 92, .inl sl)), (qv, .inl (cZ, 2, .inl sv)), (qp, .inl (cI, 60, .inl pd)), (qn, .inl (cI, 36, .inl nd))] s.heap.size = A at hD ⊢
  have hA : ∀ q : Nat, s.heap.size ≤ q → A q := fun q h => by rw [← hAe]; exact Or.inr h
  have hS : va_S A s.heap s.heap [] := va_S.rf
  refine lv_iload_n hx hb dX6_set_0 rfl (lv_at hl 1 rfl) ?_
  refine lv_iconst (v := 0) hx hb dX6_set_1 (by decide) ?_
  refine lv_iconst (v := 2) hx hb dX6_set_2 (by decide) ?_
  refine vp_callSi (va_Run.run (va_runS (As := [.int k0, .int 0, .int 2]) (rest := []) ⟨hx, hb, hml, hown, hts⟩ (c_X6_in l k0 0 2) (cf_RX6_32 hts ⟨Nat.le_of_ble_eq_true rfl, Nat.le_of_ble_eq_true rfl⟩) pre_P rfl rfl hl.1 rfl (lv_room (Nat.le_of_ble_eq_true rfl)) dX6_set_3 ⟨Nat.le_of_ble_eq_true rfl, Nat.le_of_ble_eq_true rfl⟩)) (fun r521 hr521 => ?_)
  subst hr521
  refine zb_eq (tgt := 24) hx hb dX6_set_6 (by decide) (fun c_522 => ?_) (fun c_522 => ?_)
  · refine lv_bipush (v := (-2)) hx hb dX6_set_24 (by decide) ?_
    exact W.iret (v := (-2)) hx hb hr (fun t ht hW => ⟨⟨(-2), (z, be, sts, sl, sv, pd, len, as, go, nd), rfl, ⟨by show _ = Prod.fst (_ : Int32 × KS); rw [m_set, if_neg (fun h => c_522 h.1)], by rw [m_set, if_neg (fun h => c_522 h.1)]; rfl⟩, by rw [ht]; exact hP, hD⟩, hS.F ht⟩) hS.2.2 dX6_set_26
  · refine lv_iload_n hx hb dX6_set_9 rfl (lv_at hl 2 rfl) ?_
    refine lv_iload_n hx hb dX6_set_10 rfl (lv_at hl 1 rfl) ?_
    refine vp_callSi (va_Run.run (va_runS (As := [.int k0]) (rest := [.int v0]) ⟨hx, hb, hml, hown, hts⟩ (c_X6_least l k0) (cf_RX6_108 hts ⟨Nat.le_of_ble_eq_true rfl, Nat.le_of_ble_eq_true rfl⟩) pre_P rfl rfl hl.1 rfl (lv_room (Nat.le_of_ble_eq_true rfl)) dX6_set_11 ⟨Nat.le_of_ble_eq_true rfl, Nat.le_of_ble_eq_true rfl⟩)) (fun r523 hr523 => ?_)
    subst hr523
    refine lv_iload_n hx hb dX6_set_14 rfl (lv_at hl 1 rfl) ?_
    refine vp_callSi (va_Run.run (va_runS (As := [.int k0]) (rest := [.int (if k0 = 0 then 1 else 0), .int v0]) ⟨hx, hb, hml, hown, hts⟩ (c_X6_most l k0) (cf_RX6_111 hts ⟨Nat.le_of_ble_eq_true rfl, Nat.le_of_ble_eq_true rfl⟩) pre_P rfl rfl hl.1 rfl (lv_room (Nat.le_of_ble_eq_true rfl)) dX6_set_15 ⟨Nat.le_of_ble_eq_true rfl, Nat.le_of_ble_eq_true rfl⟩)) (fun r524 hr524 => ?_)
    subst hr524
    refine vp_callSi (va_Run.run (va_runS (As := [.int v0, .int (if k0 = 0 then 1 else 0), .int (if k0 = 0 then 6 else if k0 = 1 then 40 else 3)]) (rest := []) ⟨hx, hb, hml, hown, hts⟩ (c_X6_in l v0 (if k0 = 0 then 1 else 0) (if k0 = 0 then 6 else if k0 = 1 then 40 else 3)) (cf_RX6_32 hts ⟨Nat.le_of_ble_eq_true rfl, Nat.le_of_ble_eq_true rfl⟩) pre_P rfl rfl hl.1 rfl (lv_room (Nat.le_of_ble_eq_true rfl)) dX6_set_18 ⟨Nat.le_of_ble_eq_true rfl, Nat.le_of_ble_eq_true rfl⟩)) (fun r525 hr525 => ?_)
    subst hr525
    refine zb_ne (tgt := 27) hx hb dX6_set_21 (by decide) (fun c_526 => ?_) (fun c_526 => ?_)
    · obtain ⟨j, hj0, hj, rfl⟩ := inQ_nI (lo := 0) (hi := 2) (by decide) (by decide) c_522
      refine lv_aload_n hx hb dX6_set_27 rfl (lv_at hl 0 rfl) ?_
      have hPc : va_P G vwCl [(qm, .inr (6, [.ref qz, .ref qa, .ref qe, .int (nI sts), .ref qs, .ref qv, .ref qp, .int (nI len), .int go, .ref qn])), (qz, .inl (cI, 46, .inl z)), (qa, .inl (cI, 46, .inl as)), (qe, .inl (cI, 276, .inl be)), (qs, .inl (cI, 92, .inl sl)), (qv, .inl (cZ, 2, .inl sv)), (qp, .inl (cI, 60, .inl pd)), (qn, .inl (cI, 36, .inl nd))] s.heap := hP
      have hDc := hD.tt
      have hFc := va_free (wc := [(qm, .inr (6, [.ref qz, .ref qa, .ref qe, .int (nI sts), .ref qs, .ref qv, .ref qp, .int (nI len), .int go, .ref qn])), (qz, .inl (cI, 46, .inl z)), (qa, .inl (cI, 46, .inl as)), (qe, .inl (cI, 276, .inl be)), (qs, .inl (cI, 92, .inl sl)), (qv, .inl (cZ, 2, .inl sv)), (qp, .inl (cI, 60, .inl pd)), (qn, .inl (cI, 36, .inl nd))]) hD hS hA [0, 1, 2, 3, 4, 5, 6, 7] rfl
      refine va_callv (va_runV (As := []) (rest := []) ⟨hx, hb, hml, hown, hts⟩ (c_X6_record l G cI cC cZ cG s.heap.size qm qz qa qe qs qv qp qn z as be sl sv pd nd sts len go hst) (cf_RX6_68 hts ⟨Nat.le_of_ble_eq_true rfl, Nat.le_of_ble_eq_true rfl⟩) (pre_V hK hPc hDc (ci := 6) (q0 := 0) rfl rfl) rfl rfl hl.1 rfl (lv_room (Nat.le_of_ble_eq_true rfl)) dX6_set_28 ⟨Nat.le_of_ble_eq_true rfl, Nat.le_of_ble_eq_true rfl⟩) hS (fun q _ h => hFc q h) hFc (fun u527 t527 H527 locs527 ht527 hvm527 hw527 hB527 hz527 hk527 hS => ?_)
      obtain ⟨q527, rfl⟩ : ∃ z, z = u527 := ⟨_, rfl⟩
      obtain ⟨hP1, hD1⟩ := hB527
      rw [ht527] at hP1
      try dsimp only at hw527
      obtain ⟨hP, hD⟩ := va_join (wr := []) (w1 := [(qm, .inr (6, [.ref qz, .ref qa, .ref qe, .int (nI (rcN sts)), .ref qs, .ref qv, .ref qp, .int (nI len), .int go, .ref qn])), (qz, .inl (cI, 46, .inl z)), (qa, .inl (cI, 46, .inl as)), (qe, .inl (cI, 276, .inl (rcB be z sts))), (qs, .inl (cI, 92, .inl sl)), (qv, .inl (cZ, 2, .inl sv)), (qp, .inl (cI, 60, .inl pd)), (qn, .inl (cI, 36, .inl nd))]) hP hD [0, 1, 2, 3, 4, 5, 6, 7] [] rfl rfl (by decide) (by decide) hk527 hFc hP1 hD1
      have hP : va_P G vwCl [(qm, .inr (6, [.ref qz, .ref qa, .ref qe, .int (nI (rcN sts)), .ref qs, .ref qv, .ref qp, .int (nI len), .int go, .ref qn])), (qz, .inl (cI, 46, .inl z)), (qa, .inl (cI, 46, .inl as)), (qe, .inl (cI, 276, .inl (rcB be z sts))), (qs, .inl (cI, 92, .inl sl)), (qv, .inl (cZ, 2, .inl sv)), (qp, .inl (cI, 60, .inl pd)), (qn, .inl (cI, 36, .inl nd))] H527 := hP
      have hD : va_D A [(qm, .inr (6, [.ref qz, .ref qa, .ref qe, .int (nI (rcN sts)), .ref qs, .ref qv, .ref qp, .int (nI len), .int go, .ref qn])), (qz, .inl (cI, 46, .inl z)), (qa, .inl (cI, 46, .inl as)), (qe, .inl (cI, 276, .inl (rcB be z sts))), (qs, .inl (cI, 92, .inl sl)), (qv, .inl (cZ, 2, .inl sv)), (qp, .inl (cI, 60, .inl pd)), (qn, .inl (cI, 36, .inl nd))] := hD
      refine lv_aload_n hx hb dX6_set_31 rfl (lv_at hl 0 rfl) ?_
      refine va_get (D := G) (ci := 6) (v := .ref qz) (C := RX6) (T := TX6) (N := 10) hx hb hts inlX6 hown hK.1 hP 0 rfl rfl 0 (by decide) (hts _ wd78) (fun _ h9 => h9) rfl dX6_set_32 ?_
      refine lv_bipush (v := 36) hx hb dX6_set_35 (by decide) ?_
      refine lv_iload_n hx hb dX6_set_37 rfl (lv_at hl 1 rfl) ?_
      refine zi_add hx hb 36 j dX6_set_38 rfl rfl ?_
      refine za_ld hx hb hK.1 hP 1 0 rfl rfl (36 + j) rfl (by omega) (by decide) dX6_set_39 ?_
      refine lv_istore_n (lv' := [(3, .int (z (36 + j))), (0, .ref qm), (1, .int (nI j)), (2, .int v0)]) hx hb dX6_set_40 rfl hl (by decide) rfl (fun ls hl => ?_)
      refine lv_aload_n hx hb dX6_set_41 rfl (lv_at hl 1 rfl) ?_
      refine va_get (D := G) (ci := 6) (v := .ref qz) (C := RX6) (T := TX6) (N := 10) hx hb hts inlX6 hown hK.1 hP 0 rfl rfl 0 (by decide) (hts _ wd78) (fun _ h9 => h9) rfl dX6_set_42 ?_
      refine lv_bipush (v := 36) hx hb dX6_set_45 (by decide) ?_
      refine lv_iload_n hx hb dX6_set_47 rfl (lv_at hl 2 rfl) ?_
      refine zi_add hx hb 36 j dX6_set_48 rfl rfl ?_
      refine lv_iload_n hx hb dX6_set_49 rfl (lv_at hl 3 rfl) ?_
      refine za_st hx hb hK.1 hP hD hS 1 0 rfl rfl (36 + j) rfl (by omega) (by decide) dX6_set_50 (fun H528 locs528 hP hD hS => ?_)
      have hP : va_P G vwCl [(qm, .inr (6, [.ref qz, .ref qa, .ref qe, .int (nI (rcN sts)), .ref qs, .ref qv, .ref qp, .int (nI len), .int go, .ref qn])), (qz, .inl (cI, 46, .inl (upd z (36 + j) v0))), (qa, .inl (cI, 46, .inl as)), (qe, .inl (cI, 276, .inl (rcB be z sts))), (qs, .inl (cI, 92, .inl sl)), (qv, .inl (cZ, 2, .inl sv)), (qp, .inl (cI, 60, .inl pd)), (qn, .inl (cI, 36, .inl nd))] H528 := hP
      have hD : va_D A [(qm, .inr (6, [.ref qz, .ref qa, .ref qe, .int (nI (rcN sts)), .ref qs, .ref qv, .ref qp, .int (nI len), .int go, .ref qn])), (qz, .inl (cI, 46, .inl (upd z (36 + j) v0))), (qa, .inl (cI, 46, .inl as)), (qe, .inl (cI, 276, .inl (rcB be z sts))), (qs, .inl (cI, 92, .inl sl)), (qv, .inl (cZ, 2, .inl sv)), (qp, .inl (cI, 60, .inl pd)), (qn, .inl (cI, 36, .inl nd))] := hD
      refine lv_iload_n hx hb dX6_set_51 rfl (lv_at hl 0 rfl) ?_
      exact W.iret (v := z (36 + j)) hx hb hr (fun t ht hW => ⟨⟨z (36 + j), (upd z (36 + j) v0, rcB be z sts, rcN sts, sl, sv, pd, len, as, go, nd), rfl, ⟨by show _ = Prod.fst (_ : Int32 × KS); rw [m_set, if_pos ⟨c_522, c_526⟩, (show (nI j).toNatClampNeg = j from nI_clamp (by omega))], by rw [m_set, if_pos ⟨c_522, c_526⟩, (show (nI j).toNatClampNeg = j from nI_clamp (by omega))]; rfl⟩, by rw [ht]; exact hP, hD⟩, hS.F ht⟩) hS.2.2 dX6_set_52
    · refine lv_bipush (v := (-2)) hx hb dX6_set_24 (by decide) ?_
      exact W.iret (v := (-2)) hx hb hr (fun t ht hW => ⟨⟨(-2), (z, be, sts, sl, sv, pd, len, as, go, nd), rfl, ⟨by show _ = Prod.fst (_ : Int32 × KS); rw [m_set, if_neg (fun h => c_526 h.2)], by rw [m_set, if_neg (fun h => c_526 h.2)]; rfl⟩, by rw [ht]; exact hP, hD⟩, hS.F ht⟩) hS.2.2 dX6_set_26

abbrev rm_X6_cast : Room := { frames := 3, cells := 0, slots := 0, locals := 65 }
theorem cf_RX6_114 {R : Room} {s : State} {args : Array Value} (ht : ∀ w ∈ wsL_law, w.before args s = true) (hR : rm_X6_hasCast.frames + 1 ≤ R.frames ∧ 8 + (1 + 11) + rm_X6_hasCast.locals ≤ R.locals) : CallW R s args RX6 RX6 114 yX6_hasCast cX6_hasCast 1 (some .boolean) (.code yX6_hasCast cX6_hasCast 1 (some .boolean) :: wsL_law) rm_X6_hasCast 0 0 0 := ⟨cw_B 0 ht wd180 wd5 wd183 (by decide +kernel) rfl rfl hR, ht _ wd181, ht _ wd182⟩
set_option maxHeartbeats 1000000 in
set_option maxRecDepth 100000 in
theorem c_X6_cast (l : Launch) (G : va_G) (cI cC cZ cG : ClassId) (sz : Nat) (qm qz qa qe qs qv qp qn : Nat) (z as be sl sv pd nd : IA) (sts len : Nat) (go : Int32) (pl : Nat) (hz : ∀ k, k < 12 → okv (z k)) (hx0 : ¬ z 39 < 0) (hpl : pl < 4) (h40 : z 40 = nI pl) (h4c : okc (z 41)) (hst : sts ≤ 6) (hln : len ≤ 60) : Met l yX6_cast (.code yX6_cast cX6_cast 1 (some .int) :: wsL_law) rm_X6_cast (va_Pc [.ref qm] (bw G cI cC cZ cG false sz [(qm, .inr (6, [.ref qz, .ref qa, .ref qe, .int (nI sts), .ref qs, .ref qv, .ref qp, .int (nI len), .int go, .ref qn])), (qz, .inl (cI, 46, .inl z)), (qa, .inl (cI, 46, .inl as)), (qe, .inl (cI, 276, .inl be)), (qs, .inl (cI, 92, .inl sl)), (qv, .inl (cZ, 2, .inl sv)), (qp, .inl (cI, 60, .inl pd)), (qn, .inl (cI, 36, .inl nd))])) (va_Qi (fun (r : Int32) (u : MS) => r = (m_cast (z, be, sts, sl, sv, pd, len)).1 ∧ cor u = (m_cast (z, be, sts, sl, sv, pd, len)).2) (fun (u : MS) t => va_P G vwCl [(qm, .inr (6, [.ref qz, .ref qa, .ref qe, .int (nI u.2.2.1), .ref qs, .ref qv, .ref qp, .int (nI u.2.2.2.2.2.2.1), .int u.2.2.2.2.2.2.2.2.1, .ref qn])), (qz, .inl (cI, 46, .inl u.1)), (qa, .inl (cI, 46, .inl u.2.2.2.2.2.2.2.1)), (qe, .inl (cI, 276, .inl u.2.1)), (qs, .inl (cI, 92, .inl u.2.2.2.1)), (qv, .inl (cZ, 2, .inl u.2.2.2.2.1)), (qp, .inl (cI, 60, .inl u.2.2.2.2.2.1)), (qn, .inl (cI, 36, .inl u.2.2.2.2.2.2.2.2.2))] t.heap ∧ va_D (va_A [(qm, .inr (6, [.ref qz, .ref qa, .ref qe, .int (nI sts), .ref qs, .ref qv, .ref qp, .int (nI len), .int go, .ref qn])), (qz, .inl (cI, 46, .inl z)), (qa, .inl (cI, 46, .inl as)), (qe, .inl (cI, 276, .inl be)), (qs, .inl (cI, 92, .inl sl)), (qv, .inl (cZ, 2, .inl sv)), (qp, .inl (cI, 60, .inl pd)), (qn, .inl (cI, 36, .inl nd))] sz) [(qm, .inr (6, [.ref qz, .ref qa, .ref qe, .int (nI u.2.2.1), .ref qs, .ref qv, .ref qp, .int (nI u.2.2.2.2.2.2.1), .int u.2.2.2.2.2.2.2.2.1, .ref qn])), (qz, .inl (cI, 46, .inl u.1)), (qa, .inl (cI, 46, .inl u.2.2.2.2.2.2.2.1)), (qe, .inl (cI, 276, .inl u.2.1)), (qs, .inl (cI, 92, .inl u.2.2.2.1)), (qv, .inl (cZ, 2, .inl u.2.2.2.2.1)), (qp, .inl (cI, 60, .inl u.2.2.2.2.2.1)), (qn, .inl (cI, 36, .inl u.2.2.2.2.2.2.2.2.2))]) (va_A [(qm, .inr (6, [.ref qz, .ref qa, .ref qe, .int (nI sts), .ref qs, .ref qv, .ref qp, .int (nI len), .int go, .ref qn])), (qz, .inl (cI, 46, .inl z)), (qa, .inl (cI, 46, .inl as)), (qe, .inl (cI, 276, .inl be)), (qs, .inl (cI, 92, .inl sl)), (qv, .inl (cZ, 2, .inl sv)), (qp, .inl (cI, 60, .inl pd)), (qn, .inl (cI, 36, .inl nd))] sz)) 0 0 (va_A [(qm, .inr (6, [.ref qz, .ref qa, .ref qe, .int (nI sts), .ref qs, .ref qv, .ref qp, .int (nI len), .int go, .ref qn])), (qz, .inl (cI, 46, .inl z)), (qa, .inl (cI, 46, .inl as)), (qe, .inl (cI, 276, .inl be)), (qs, .inl (cI, 92, .inl sl)), (qv, .inl (cZ, 2, .inl sv)), (qp, .inl (cI, 60, .inl pd)), (qn, .inl (cI, 36, .inl nd))] sz) := by
  refine met_bw rfl (Nat.le_of_ble_eq_true rfl) ?_
  intro p e s m below meth c ls hx hb hr hml hown hts hlocks hin hsz hP hK hD0 hX0 hl
  have hown : s.vm.findClass RX6 = some m.cls := hown
  have hl : lv_has ls 1 [(0, .ref qm)] := hl
  subst hsz
  have hD := hD0.self (sz := s.heap.size)
  generalize hAe : va_A [(qm, .inr (6, [.ref qz, .ref qa, .ref qe, .int (nI sts), .ref qs, .ref qv, .ref qp, .int (nI len), .int go, .ref qn])), (qz, .inl (cI, 46, .inl z)), (qa, .inl (cI, 46, .inl as)), (qe, .inl (cI, 276, .inl be)), (qs, .inl (cI, 92, .inl sl)), (qv, .inl (cZ, 2, .inl sv)), (qp, .inl (cI, 60, .inl pd)), (qn, .inl (cI, 36, .inl nd))] s.heap.size = A at hD ⊢
  have hA : ∀ q : Nat, s.heap.size ≤ q → A q := fun q h => by rw [← hAe]; exact Or.inr h
  have hS : va_S A s.heap s.heap [] := va_S.rf
  refine lv_aload_n hx hb dX6_cast_0 rfl (lv_at hl 0 rfl) ?_
  have hPc : va_P G vwCl [(qm, .inr (6, [.ref qz, .ref qa, .ref qe, .int (nI sts), .ref qs, .ref qv, .ref qp, .int (nI len), .int go, .ref qn])), (qz, .inl (cI, 46, .inl z)), (qa, .inl (cI, 46, .inl as)), (qe, .inl (cI, 276, .inl be)), (qs, .inl (cI, 92, .inl sl)), (qv, .inl (cZ, 2, .inl sv)), (qp, .inl (cI, 60, .inl pd)), (qn, .inl (cI, 36, .inl nd))] s.heap := hP
  have hDc := hD.tt
  refine vp_callSi (va_Run.run (va_runV (As := []) (rest := []) ⟨hx, hb, hml, hown, hts⟩ (c_X6_isOver l G cI cC cZ cG s.heap.size qm qz qa qe qs qv qp qn z as be sl sv pd nd sts len go) (cf_RX6_97 hts ⟨Nat.le_of_ble_eq_true rfl, Nat.le_of_ble_eq_true rfl⟩) (pre_V hK hPc hDc (ci := 6) (q0 := 0) rfl rfl) rfl rfl hl.1 rfl (lv_room (Nat.le_of_ble_eq_true rfl)) dX6_cast_1 ⟨Nat.le_of_ble_eq_true rfl, Nat.le_of_ble_eq_true rfl⟩)) (fun r529 hr529 => ?_)
  subst hr529
  refine zb_ne (tgt := 14) hx hb dX6_cast_4 (by decide) (fun c_530 => ?_) (fun c_530 => ?_)
  · refine lv_bipush (v := (-5)) hx hb dX6_cast_14 (by decide) ?_
    exact W.iret (v := (-5)) hx hb hr (fun t ht hW => ⟨⟨(-5), (z, be, sts, sl, sv, pd, len, as, go, nd), rfl, ⟨by show _ = Prod.fst (_ : Int32 × KS); rw [m_cast, if_pos (Or.inl c_530)], by rw [m_cast, if_pos (Or.inl c_530)]; rfl⟩, by rw [ht]; exact hP, hD⟩, hS.F ht⟩) hS.2.2 dX6_cast_16
  · refine lv_aload_n hx hb dX6_cast_7 rfl (lv_at hl 0 rfl) ?_
    have hPc : va_P G vwCl [(qm, .inr (6, [.ref qz, .ref qa, .ref qe, .int (nI sts), .ref qs, .ref qv, .ref qp, .int (nI len), .int go, .ref qn])), (qz, .inl (cI, 46, .inl z)), (qa, .inl (cI, 46, .inl as)), (qe, .inl (cI, 276, .inl be)), (qs, .inl (cI, 92, .inl sl)), (qv, .inl (cZ, 2, .inl sv)), (qp, .inl (cI, 60, .inl pd)), (qn, .inl (cI, 36, .inl nd))] s.heap := hP
    have hDc := hD.tt
    refine vp_callSi (va_Run.run (va_runV (As := []) (rest := []) ⟨hx, hb, hml, hown, hts⟩ (c_X6_hasCast l G cI cC cZ cG s.heap.size qm qz qa qe qs qv qp qn z as be sl sv pd nd sts len go) (cf_RX6_114 hts ⟨Nat.le_of_ble_eq_true rfl, Nat.le_of_ble_eq_true rfl⟩) (pre_V hK hPc hDc (ci := 6) (q0 := 0) rfl rfl) rfl rfl hl.1 rfl (lv_room (Nat.le_of_ble_eq_true rfl)) dX6_cast_8 ⟨Nat.le_of_ble_eq_true rfl, Nat.le_of_ble_eq_true rfl⟩)) (fun r531 hr531 => ?_)
    subst hr531
    refine zb_eq (tgt := 17) hx hb dX6_cast_11 (by decide) (fun c_532 => ?_) (fun c_532 => ?_)
    · refine lv_aload_n hx hb dX6_cast_17 rfl (lv_at hl 0 rfl) ?_
      have hPc : va_P G vwCl [(qm, .inr (6, [.ref qz, .ref qa, .ref qe, .int (nI sts), .ref qs, .ref qv, .ref qp, .int (nI len), .int go, .ref qn])), (qz, .inl (cI, 46, .inl z)), (qa, .inl (cI, 46, .inl as)), (qe, .inl (cI, 276, .inl be)), (qs, .inl (cI, 92, .inl sl)), (qv, .inl (cZ, 2, .inl sv)), (qp, .inl (cI, 60, .inl pd)), (qn, .inl (cI, 36, .inl nd))] s.heap := hP
      have hDc := hD.tt
      have hFc := va_free (wc := [(qm, .inr (6, [.ref qz, .ref qa, .ref qe, .int (nI sts), .ref qs, .ref qv, .ref qp, .int (nI len), .int go, .ref qn])), (qz, .inl (cI, 46, .inl z)), (qa, .inl (cI, 46, .inl as)), (qe, .inl (cI, 276, .inl be)), (qs, .inl (cI, 92, .inl sl)), (qv, .inl (cZ, 2, .inl sv)), (qp, .inl (cI, 60, .inl pd)), (qn, .inl (cI, 36, .inl nd))]) hD hS hA [0, 1, 2, 3, 4, 5, 6, 7] rfl
      refine va_callv (va_runV (As := []) (rest := []) ⟨hx, hb, hml, hown, hts⟩ (c_X6_record l G cI cC cZ cG s.heap.size qm qz qa qe qs qv qp qn z as be sl sv pd nd sts len go hst) (cf_RX6_68 hts ⟨Nat.le_of_ble_eq_true rfl, Nat.le_of_ble_eq_true rfl⟩) (pre_V hK hPc hDc (ci := 6) (q0 := 0) rfl rfl) rfl rfl hl.1 rfl (lv_room (Nat.le_of_ble_eq_true rfl)) dX6_cast_18 ⟨Nat.le_of_ble_eq_true rfl, Nat.le_of_ble_eq_true rfl⟩) hS (fun q _ h => hFc q h) hFc (fun u533 t533 H533 locs533 ht533 hvm533 hw533 hB533 hz533 hk533 hS => ?_)
      obtain ⟨q533, rfl⟩ : ∃ z, z = u533 := ⟨_, rfl⟩
      obtain ⟨hP1, hD1⟩ := hB533
      rw [ht533] at hP1
      try dsimp only at hw533
      obtain ⟨hP, hD⟩ := va_join (wr := []) (w1 := [(qm, .inr (6, [.ref qz, .ref qa, .ref qe, .int (nI (rcN sts)), .ref qs, .ref qv, .ref qp, .int (nI len), .int go, .ref qn])), (qz, .inl (cI, 46, .inl z)), (qa, .inl (cI, 46, .inl as)), (qe, .inl (cI, 276, .inl (rcB be z sts))), (qs, .inl (cI, 92, .inl sl)), (qv, .inl (cZ, 2, .inl sv)), (qp, .inl (cI, 60, .inl pd)), (qn, .inl (cI, 36, .inl nd))]) hP hD [0, 1, 2, 3, 4, 5, 6, 7] [] rfl rfl (by decide) (by decide) hk533 hFc hP1 hD1
      have hP : va_P G vwCl [(qm, .inr (6, [.ref qz, .ref qa, .ref qe, .int (nI (rcN sts)), .ref qs, .ref qv, .ref qp, .int (nI len), .int go, .ref qn])), (qz, .inl (cI, 46, .inl z)), (qa, .inl (cI, 46, .inl as)), (qe, .inl (cI, 276, .inl (rcB be z sts))), (qs, .inl (cI, 92, .inl sl)), (qv, .inl (cZ, 2, .inl sv)), (qp, .inl (cI, 60, .inl pd)), (qn, .inl (cI, 36, .inl nd))] H533 := hP
      have hD : va_D A [(qm, .inr (6, [.ref qz, .ref qa, .ref qe, .int (nI (rcN sts)), .ref qs, .ref qv, .ref qp, .int (nI len), .int go, .ref qn])), (qz, .inl (cI, 46, .inl z)), (qa, .inl (cI, 46, .inl as)), (qe, .inl (cI, 276, .inl (rcB be z sts))), (qs, .inl (cI, 92, .inl sl)), (qv, .inl (cZ, 2, .inl sv)), (qp, .inl (cI, 60, .inl pd)), (qn, .inl (cI, 36, .inl nd))] := hD
      refine lv_aload_n hx hb dX6_cast_21 rfl (lv_at hl 0 rfl) ?_
      refine lv_aload_n hx hb dX6_cast_22 rfl (lv_at hl 0 rfl) ?_
      have hPc : va_P G vwCl [(qm, .inr (6, [.ref qz, .ref qa, .ref qe, .int (nI (rcN sts)), .ref qs, .ref qv, .ref qp, .int (nI len), .int go, .ref qn])), (qz, .inl (cI, 46, .inl z)), (qa, .inl (cI, 46, .inl as)), (qe, .inl (cI, 276, .inl (rcB be z sts))), (qs, .inl (cI, 92, .inl sl)), (qv, .inl (cZ, 2, .inl sv)), (qp, .inl (cI, 60, .inl pd)), (qn, .inl (cI, 36, .inl nd))] H533 := hP
      have hDc := hD.tt
      have hFc := va_free (wc := [(qm, .inr (6, [.ref qz, .ref qa, .ref qe, .int (nI (rcN sts)), .ref qs, .ref qv, .ref qp, .int (nI len), .int go, .ref qn])), (qz, .inl (cI, 46, .inl z)), (qa, .inl (cI, 46, .inl as)), (qe, .inl (cI, 276, .inl (rcB be z sts))), (qs, .inl (cI, 92, .inl sl)), (qv, .inl (cZ, 2, .inl sv)), (qp, .inl (cI, 60, .inl pd)), (qn, .inl (cI, 36, .inl nd))]) hD hS hA [0, 1, 2, 3, 4, 5, 6, 7] rfl
      refine va_calli (va_runV (As := []) (rest := [.ref qm]) ⟨hx, hb, hml, hown, hts⟩ (c_X6_draw l G cI cC cZ cG H533.size qm qz qa qe qs qv qp qn z as (rcB be z sts) sl sv pd nd (rcN sts) len go) (cf_RX6_117 hts ⟨Nat.le_of_ble_eq_true rfl, Nat.le_of_ble_eq_true rfl⟩) (pre_V hK hPc hDc (ci := 6) (q0 := 0) rfl rfl) rfl rfl hl.1 rfl (lv_room (Nat.le_of_ble_eq_true rfl)) dX6_cast_23 ⟨Nat.le_of_ble_eq_true rfl, Nat.le_of_ble_eq_true rfl⟩) hS (fun q _ h => hFc q h) hFc (fun r534 u534 t534 H534 locs534 ht534 hvm534 hw534 hB534 hz534 hk534 hS => ?_)
      obtain ⟨q534, rfl⟩ : ∃ z, z = u534 := ⟨_, rfl⟩
      obtain ⟨hP1, hD1⟩ := hB534
      rw [ht534] at hP1
      try dsimp only at hw534
      obtain ⟨hr534, hw534⟩ := hw534
      subst hr534
      obtain ⟨hP, hD⟩ := va_join (wr := []) (w1 := [(qm, .inr (6, [.ref qz, .ref qa, .ref qe, .int (nI (rcN sts)), .ref qs, .ref qv, .ref qp, .int (nI len), .int go, .ref qn])), (qz, .inl (cI, 46, .inl (drM z))), (qa, .inl (cI, 46, .inl as)), (qe, .inl (cI, 276, .inl (rcB be z sts))), (qs, .inl (cI, 92, .inl sl)), (qv, .inl (cZ, 2, .inl sv)), (qp, .inl (cI, 60, .inl pd)), (qn, .inl (cI, 36, .inl nd))]) hP hD [0, 1, 2, 3, 4, 5, 6, 7] [] rfl rfl (by decide) (by decide) hk534 hFc hP1 hD1
      have hP : va_P G vwCl [(qm, .inr (6, [.ref qz, .ref qa, .ref qe, .int (nI (rcN sts)), .ref qs, .ref qv, .ref qp, .int (nI len), .int go, .ref qn])), (qz, .inl (cI, 46, .inl (drM z))), (qa, .inl (cI, 46, .inl as)), (qe, .inl (cI, 276, .inl (rcB be z sts))), (qs, .inl (cI, 92, .inl sl)), (qv, .inl (cZ, 2, .inl sv)), (qp, .inl (cI, 60, .inl pd)), (qn, .inl (cI, 36, .inl nd))] H534 := hP
      have hD : va_D A [(qm, .inr (6, [.ref qz, .ref qa, .ref qe, .int (nI (rcN sts)), .ref qs, .ref qv, .ref qp, .int (nI len), .int go, .ref qn])), (qz, .inl (cI, 46, .inl (drM z))), (qa, .inl (cI, 46, .inl as)), (qe, .inl (cI, 276, .inl (rcB be z sts))), (qs, .inl (cI, 92, .inl sl)), (qv, .inl (cZ, 2, .inl sv)), (qp, .inl (cI, 60, .inl pd)), (qn, .inl (cI, 36, .inl nd))] := hD
      have hPc : va_P G vwCl [(qm, .inr (6, [.ref qz, .ref qa, .ref qe, .int (nI (rcN sts)), .ref qs, .ref qv, .ref qp, .int (nI len), .int go, .ref qn])), (qz, .inl (cI, 46, .inl (drM z))), (qa, .inl (cI, 46, .inl as)), (qe, .inl (cI, 276, .inl (rcB be z sts))), (qs, .inl (cI, 92, .inl sl)), (qv, .inl (cZ, 2, .inl sv)), (qp, .inl (cI, 60, .inl pd)), (qn, .inl (cI, 36, .inl nd))] H534 := hP
      have hDc := hD.tt
      have hFc := va_free (wc := [(qm, .inr (6, [.ref qz, .ref qa, .ref qe, .int (nI (rcN sts)), .ref qs, .ref qv, .ref qp, .int (nI len), .int go, .ref qn])), (qz, .inl (cI, 46, .inl (drM z))), (qa, .inl (cI, 46, .inl as)), (qe, .inl (cI, 276, .inl (rcB be z sts))), (qs, .inl (cI, 92, .inl sl)), (qv, .inl (cZ, 2, .inl sv)), (qp, .inl (cI, 60, .inl pd)), (qn, .inl (cI, 36, .inl nd))]) hD hS hA [0, 1, 2, 3, 4, 5, 6, 7] rfl
      refine va_callv (va_runV (As := [.int (co (nx (z 39)))]) (rest := []) ⟨hx, hb, hml, hown, hts⟩ (c_X6_doCast l G cI cC cZ cG H534.size qm qz qa qe qs qv qp qn (drM z) as (rcB be z sts) sl sv pd nd (rcN sts) len go (co (nx (z 39)))) (cf_RX6_120 hts ⟨Nat.le_of_ble_eq_true rfl, Nat.le_of_ble_eq_true rfl⟩) (pre_V hK hPc hDc (ci := 6) (q0 := 0) rfl rfl) rfl rfl hl.1 rfl (lv_room (Nat.le_of_ble_eq_true rfl)) dX6_cast_26 ⟨Nat.le_of_ble_eq_true rfl, Nat.le_of_ble_eq_true rfl⟩) hS (fun q _ h => hFc q h) hFc (fun u535 t535 H535 locs535 ht535 hvm535 hw535 hB535 hz535 hk535 hS => ?_)
      obtain ⟨q535, rfl⟩ : ∃ z, z = u535 := ⟨_, rfl⟩
      obtain ⟨hP1, hD1⟩ := hB535
      rw [ht535] at hP1
      try dsimp only at hw535
      obtain ⟨hP, hD⟩ := va_join (wr := []) (w1 := [(qm, .inr (6, [.ref qz, .ref qa, .ref qe, .int (nI (rcN sts)), .ref qs, .ref qv, .ref qp, .int (nI len), .int go, .ref qn])), (qz, .inl (cI, 46, .inl (dcM (drM z) (co (nx (z 39)))))), (qa, .inl (cI, 46, .inl as)), (qe, .inl (cI, 276, .inl (rcB be z sts))), (qs, .inl (cI, 92, .inl sl)), (qv, .inl (cZ, 2, .inl sv)), (qp, .inl (cI, 60, .inl pd)), (qn, .inl (cI, 36, .inl nd))]) hP hD [0, 1, 2, 3, 4, 5, 6, 7] [] rfl rfl (by decide) (by decide) hk535 hFc hP1 hD1
      have hP : va_P G vwCl [(qm, .inr (6, [.ref qz, .ref qa, .ref qe, .int (nI (rcN sts)), .ref qs, .ref qv, .ref qp, .int (nI len), .int go, .ref qn])), (qz, .inl (cI, 46, .inl (dcM (drM z) (co (nx (z 39)))))), (qa, .inl (cI, 46, .inl as)), (qe, .inl (cI, 276, .inl (rcB be z sts))), (qs, .inl (cI, 92, .inl sl)), (qv, .inl (cZ, 2, .inl sv)), (qp, .inl (cI, 60, .inl pd)), (qn, .inl (cI, 36, .inl nd))] H535 := hP
      have hD : va_D A [(qm, .inr (6, [.ref qz, .ref qa, .ref qe, .int (nI (rcN sts)), .ref qs, .ref qv, .ref qp, .int (nI len), .int go, .ref qn])), (qz, .inl (cI, 46, .inl (dcM (drM z) (co (nx (z 39)))))), (qa, .inl (cI, 46, .inl as)), (qe, .inl (cI, 276, .inl (rcB be z sts))), (qs, .inl (cI, 92, .inl sl)), (qv, .inl (cZ, 2, .inl sv)), (qp, .inl (cI, 60, .inl pd)), (qn, .inl (cI, 36, .inl nd))] := hD
      refine lv_aload_n hx hb dX6_cast_29 rfl (lv_at hl 0 rfl) ?_
      refine va_get (D := G) (ci := 6) (v := .ref qz) (C := RX6) (T := TX6) (N := 10) hx hb hts inlX6 hown hK.1 hP 0 rfl rfl 0 (by decide) (hts _ wd78) (fun _ h9 => h9) rfl dX6_cast_30 ?_
      refine lv_bipush (v := 41) hx hb dX6_cast_33 (by decide) ?_
      refine za_ld hx hb hK.1 hP 1 0 rfl rfl 41 rfl (by decide) (by decide) dX6_cast_35 ?_
      exact W.iret (v := (dcM (drM z) (co (nx (z 39)))) 41) hx hb hr (fun t ht hW => ⟨⟨(dcM (drM z) (co (nx (z 39)))) 41, (dcM (drM z) (co (nx (z 39))), (rcB be z sts), (rcN sts), sl, sv, pd, len, as, go, nd), rfl, ⟨by show _ = Prod.fst (_ : Int32 × KS); rw [m_cast, if_neg (fun h => h.elim c_530 c_532)]; rfl, by rw [m_cast, if_neg (fun h => h.elim c_530 c_532)]; rfl⟩, by rw [ht]; exact hP, hD⟩, hS.F ht⟩) hS.2.2 dX6_cast_36
    · refine lv_bipush (v := (-5)) hx hb dX6_cast_14 (by decide) ?_
      exact W.iret (v := (-5)) hx hb hr (fun t ht hW => ⟨⟨(-5), (z, be, sts, sl, sv, pd, len, as, go, nd), rfl, ⟨by show _ = Prod.fst (_ : Int32 × KS); rw [m_cast, if_pos (Or.inr c_532)], by rw [m_cast, if_pos (Or.inr c_532)]; rfl⟩, by rw [ht]; exact hP, hD⟩, hS.F ht⟩) hS.2.2 dX6_cast_16

abbrev rm_X6_move : Room := { frames := 7, cells := 0, slots := 0, locals := 161 }
set_option maxHeartbeats 1000000 in
set_option maxRecDepth 100000 in
theorem c_X6_move (l : Launch) (G : va_G) (cI cC cZ cG : ClassId) (sz : Nat) (qm qz qa qe qs qv qp qn : Nat) (z as be sl sv pd nd : IA) (sts len : Nat) (go : Int32) (pl : Nat) (k0 : Int32) (hz : ∀ k, k < 12 → okv (z k)) (hx0 : ¬ z 39 < 0) (hpl : pl < 4) (h40 : z 40 = nI pl) (h4c : okc (z 41)) (hst : sts ≤ 6) (hln : len ≤ 60) : Met l yX6_move (.code yX6_move cX6_move 3 (some .int) :: wsL_law) rm_X6_move (va_Pc [.ref qm, .int k0] (bw G cI cC cZ cG false sz [(qm, .inr (6, [.ref qz, .ref qa, .ref qe, .int (nI sts), .ref qs, .ref qv, .ref qp, .int (nI len), .int go, .ref qn])), (qz, .inl (cI, 46, .inl z)), (qa, .inl (cI, 46, .inl as)), (qe, .inl (cI, 276, .inl be)), (qs, .inl (cI, 92, .inl sl)), (qv, .inl (cZ, 2, .inl sv)), (qp, .inl (cI, 60, .inl pd)), (qn, .inl (cI, 36, .inl nd))])) (va_Qi (fun (r : Int32) (u : MS) => r = (m_move k0 (z, be, sts, sl, sv, pd, len)).1 ∧ cor u = (m_move k0 (z, be, sts, sl, sv, pd, len)).2) (fun (u : MS) t => va_P G vwCl [(qm, .inr (6, [.ref qz, .ref qa, .ref qe, .int (nI u.2.2.1), .ref qs, .ref qv, .ref qp, .int (nI u.2.2.2.2.2.2.1), .int u.2.2.2.2.2.2.2.2.1, .ref qn])), (qz, .inl (cI, 46, .inl u.1)), (qa, .inl (cI, 46, .inl u.2.2.2.2.2.2.2.1)), (qe, .inl (cI, 276, .inl u.2.1)), (qs, .inl (cI, 92, .inl u.2.2.2.1)), (qv, .inl (cZ, 2, .inl u.2.2.2.2.1)), (qp, .inl (cI, 60, .inl u.2.2.2.2.2.1)), (qn, .inl (cI, 36, .inl u.2.2.2.2.2.2.2.2.2))] t.heap ∧ va_D (va_A [(qm, .inr (6, [.ref qz, .ref qa, .ref qe, .int (nI sts), .ref qs, .ref qv, .ref qp, .int (nI len), .int go, .ref qn])), (qz, .inl (cI, 46, .inl z)), (qa, .inl (cI, 46, .inl as)), (qe, .inl (cI, 276, .inl be)), (qs, .inl (cI, 92, .inl sl)), (qv, .inl (cZ, 2, .inl sv)), (qp, .inl (cI, 60, .inl pd)), (qn, .inl (cI, 36, .inl nd))] sz) [(qm, .inr (6, [.ref qz, .ref qa, .ref qe, .int (nI u.2.2.1), .ref qs, .ref qv, .ref qp, .int (nI u.2.2.2.2.2.2.1), .int u.2.2.2.2.2.2.2.2.1, .ref qn])), (qz, .inl (cI, 46, .inl u.1)), (qa, .inl (cI, 46, .inl u.2.2.2.2.2.2.2.1)), (qe, .inl (cI, 276, .inl u.2.1)), (qs, .inl (cI, 92, .inl u.2.2.2.1)), (qv, .inl (cZ, 2, .inl u.2.2.2.2.1)), (qp, .inl (cI, 60, .inl u.2.2.2.2.2.1)), (qn, .inl (cI, 36, .inl u.2.2.2.2.2.2.2.2.2))]) (va_A [(qm, .inr (6, [.ref qz, .ref qa, .ref qe, .int (nI sts), .ref qs, .ref qv, .ref qp, .int (nI len), .int go, .ref qn])), (qz, .inl (cI, 46, .inl z)), (qa, .inl (cI, 46, .inl as)), (qe, .inl (cI, 276, .inl be)), (qs, .inl (cI, 92, .inl sl)), (qv, .inl (cZ, 2, .inl sv)), (qp, .inl (cI, 60, .inl pd)), (qn, .inl (cI, 36, .inl nd))] sz)) 0 0 (va_A [(qm, .inr (6, [.ref qz, .ref qa, .ref qe, .int (nI sts), .ref qs, .ref qv, .ref qp, .int (nI len), .int go, .ref qn])), (qz, .inl (cI, 46, .inl z)), (qa, .inl (cI, 46, .inl as)), (qe, .inl (cI, 276, .inl be)), (qs, .inl (cI, 92, .inl sl)), (qv, .inl (cZ, 2, .inl sv)), (qp, .inl (cI, 60, .inl pd)), (qn, .inl (cI, 36, .inl nd))] sz) := by
  refine met_bw rfl (Nat.le_of_ble_eq_true rfl) ?_
  intro p e s m below meth c ls hx hb hr hml hown hts hlocks hin hsz hP hK hD0 hX0 hl
  have hown : s.vm.findClass RX6 = some m.cls := hown
  have hl : lv_has ls 3 [(0, .ref qm), (1, .int k0)] := hl
  subst hsz
  have hD := hD0.self (sz := s.heap.size)
  generalize hAe : va_A [(qm, .inr (6, [.ref qz, .ref qa, .ref qe, .int (nI sts), .ref qs, .ref qv, .ref qp, .int (nI len), .int go, .ref qn])), (qz, .inl (cI, 46, .inl z)), (qa, .inl (cI, 46, .inl as)), (qe, .inl (cI, 276, .inl be)), (qs, .inl (cI, 92, .inl sl)), (qv, .inl (cZ, 2, .inl sv)), (qp, .inl (cI, 60, .inl pd)), (qn, .inl (cI, 36, .inl nd))] s.heap.size = A at hD ⊢
  have hA : ∀ q : Nat, s.heap.size ≤ q → A q := fun q h => by rw [← hAe]; exact Or.inr h
  have hS : va_S A s.heap s.heap [] := va_S.rf
  refine lv_iload_n hx hb dX6_move_0 rfl (lv_at hl 1 rfl) ?_
  refine lv_iconst (v := 0) hx hb dX6_move_1 (by decide) ?_
  refine lv_iconst (v := 2) hx hb dX6_move_2 (by decide) ?_
  refine vp_callSi (va_Run.run (va_runS (As := [.int k0, .int 0, .int 2]) (rest := []) ⟨hx, hb, hml, hown, hts⟩ (c_X6_in l k0 0 2) (cf_RX6_32 hts ⟨Nat.le_of_ble_eq_true rfl, Nat.le_of_ble_eq_true rfl⟩) pre_P rfl rfl hl.1 rfl (lv_room (Nat.le_of_ble_eq_true rfl)) dX6_move_3 ⟨Nat.le_of_ble_eq_true rfl, Nat.le_of_ble_eq_true rfl⟩)) (fun r536 hr536 => ?_)
  subst hr536
  refine zb_ne (tgt := 11) hx hb dX6_move_6 (by decide) (fun c_537 => ?_) (fun c_537 => ?_)
  · obtain ⟨j, hj0, hj, rfl⟩ := inQ_nI (lo := 0) (hi := 2) (by decide) (by decide) c_537
    refine lv_iconst (v := 3) hx hb dX6_move_11 (by decide) ?_
    refine lv_aload_n hx hb dX6_move_12 rfl (lv_at hl 0 rfl) ?_
    refine va_get (D := G) (ci := 6) (v := .ref qz) (C := RX6) (T := TX6) (N := 10) hx hb hts inlX6 hown hK.1 hP 0 rfl rfl 0 (by decide) (hts _ wd78) (fun _ h9 => h9) rfl dX6_move_13 ?_
    refine lv_bipush (v := 40) hx hb dX6_move_16 (by decide) ?_
    refine za_ld hx hb hK.1 hP 1 0 rfl rfl 40 rfl (by decide) (by decide) dX6_move_18 ?_
    refine zi_mul hx hb 3 pl dX6_move_19 rfl h40 ?_
    refine lv_iload_n hx hb dX6_move_20 rfl (lv_at hl 1 rfl) ?_
    refine zi_add hx hb (3 * pl) j dX6_move_21 rfl rfl ?_
    refine lv_istore_n (lv' := [(2, .int (nI ((3 * pl) + j))), (0, .ref qm), (1, .int (nI j))]) hx hb dX6_move_22 rfl hl (by decide) rfl (fun ls hl => ?_)
    refine lv_aload_n hx hb dX6_move_23 rfl (lv_at hl 1 rfl) ?_
    have hPc : va_P G vwCl [(qm, .inr (6, [.ref qz, .ref qa, .ref qe, .int (nI sts), .ref qs, .ref qv, .ref qp, .int (nI len), .int go, .ref qn])), (qz, .inl (cI, 46, .inl z)), (qa, .inl (cI, 46, .inl as)), (qe, .inl (cI, 276, .inl be)), (qs, .inl (cI, 92, .inl sl)), (qv, .inl (cZ, 2, .inl sv)), (qp, .inl (cI, 60, .inl pd)), (qn, .inl (cI, 36, .inl nd))] s.heap := hP
    have hDc := hD.tt
    refine vp_callSi (va_Run.run (va_runV (As := []) (rest := []) ⟨hx, hb, hml, hown, hts⟩ (c_X6_hasCast l G cI cC cZ cG s.heap.size qm qz qa qe qs qv qp qn z as be sl sv pd nd sts len go) (cf_RX6_114 hts ⟨Nat.le_of_ble_eq_true rfl, Nat.le_of_ble_eq_true rfl⟩) (pre_V hK hPc hDc (ci := 6) (q0 := 0) rfl rfl) rfl rfl hl.1 rfl (lv_room (Nat.le_of_ble_eq_true rfl)) dX6_move_24 ⟨Nat.le_of_ble_eq_true rfl, Nat.le_of_ble_eq_true rfl⟩)) (fun r538 hr538 => ?_)
    subst hr538
    refine zb_eq (tgt := 45) hx hb dX6_move_27 (by decide) (fun c_539 => ?_) (fun c_539 => ?_)
    · refine lv_bipush (v := (-5)) hx hb dX6_move_45 (by decide) ?_
      exact W.iret (v := (-5)) hx hb hr (fun t ht hW => ⟨⟨(-5), (z, be, sts, sl, sv, pd, len, as, go, nd), rfl, ⟨by show _ = Prod.fst (_ : Int32 × KS); rw [m_move, if_neg (fun h => h c_537), if_pos (Or.inl (Decidable.not_not.mp c_539))], by rw [m_move, if_neg (fun h => h c_537), if_pos (Or.inl (Decidable.not_not.mp c_539))]; rfl⟩, by rw [ht]; exact hP, hD⟩, hS.F ht⟩) hS.2.2 dX6_move_47
    · obtain ⟨cn, hc1, hc, h41⟩ := okc_ne h4c c_539
      refine lv_aload_n hx hb dX6_move_30 rfl (lv_at hl 1 rfl) ?_
      refine lv_iload_n hx hb dX6_move_31 rfl (lv_at hl 0 rfl) ?_
      refine lv_aload_n hx hb dX6_move_32 rfl (lv_at hl 1 rfl) ?_
      refine va_get (D := G) (ci := 6) (v := .ref qz) (C := RX6) (T := TX6) (N := 10) hx hb hts inlX6 hown hK.1 hP 0 rfl rfl 0 (by decide) (hts _ wd78) (fun _ h9 => h9) rfl dX6_move_33 ?_
      refine lv_bipush (v := 41) hx hb dX6_move_36 (by decide) ?_
      refine za_ld hx hb hK.1 hP 1 0 rfl rfl 41 rfl (by decide) (by decide) dX6_move_38 ?_
      rw [h41]
      have hPc : va_P G vwCl [(qm, .inr (6, [.ref qz, .ref qa, .ref qe, .int (nI sts), .ref qs, .ref qv, .ref qp, .int (nI len), .int go, .ref qn])), (qz, .inl (cI, 46, .inl z)), (qa, .inl (cI, 46, .inl as)), (qe, .inl (cI, 276, .inl be)), (qs, .inl (cI, 92, .inl sl)), (qv, .inl (cZ, 2, .inl sv)), (qp, .inl (cI, 60, .inl pd)), (qn, .inl (cI, 36, .inl nd))] s.heap := hP
      have hDc := hD.tt
      have hFc := va_free (wc := [(qm, .inr (6, [.ref qz, .ref qa, .ref qe, .int (nI sts), .ref qs, .ref qv, .ref qp, .int (nI len), .int go, .ref qn])), (qz, .inl (cI, 46, .inl z)), (qa, .inl (cI, 46, .inl as)), (qe, .inl (cI, 276, .inl be)), (qs, .inl (cI, 92, .inl sl)), (qv, .inl (cZ, 2, .inl sv)), (qp, .inl (cI, 60, .inl pd)), (qn, .inl (cI, 36, .inl nd))]) hD hS hA [0, 1, 2, 3, 4, 5, 6, 7] rfl
      refine va_calli (va_runV (As := [.int (nI ((3 * pl) + j)), .int (nI cn)]) (rest := []) ⟨hx, hb, hml, hown, hts⟩ (c_X6_whyNot l G cI cC cZ cG s.heap.size qm qz qa qe qs qv qp qn z as be sl sv pd nd sts len go ((3 * pl) + j) cn hz (by omega) hc1 hc) (cf_RX6_88 hts ⟨Nat.le_of_ble_eq_true rfl, Nat.le_of_ble_eq_true rfl⟩) (pre_V hK hPc hDc (ci := 6) (q0 := 0) rfl rfl) rfl rfl hl.1 rfl (lv_room (Nat.le_of_ble_eq_true rfl)) dX6_move_39 ⟨Nat.le_of_ble_eq_true rfl, Nat.le_of_ble_eq_true rfl⟩) hS (fun q _ h => hFc q h) hFc (fun r540 u540 t540 H540 locs540 ht540 hvm540 hw540 hB540 hz540 hk540 hS => ?_)
      obtain ⟨go540, rfl⟩ : ∃ z, z = u540 := ⟨_, rfl⟩
      obtain ⟨hP1, hD1⟩ := hB540
      rw [ht540] at hP1
      try dsimp only at hw540
      obtain ⟨hr540, hw540⟩ := hw540
      subst hr540
      obtain ⟨hP, hD⟩ := va_join (wr := []) (w1 := [(qm, .inr (6, [.ref qz, .ref qa, .ref qe, .int (nI sts), .ref qs, .ref qv, .ref qp, .int (nI len), .int go540, .ref qn])), (qz, .inl (cI, 46, .inl z)), (qa, .inl (cI, 46, .inl as)), (qe, .inl (cI, 276, .inl be)), (qs, .inl (cI, 92, .inl sl)), (qv, .inl (cZ, 2, .inl sv)), (qp, .inl (cI, 60, .inl pd)), (qn, .inl (cI, 36, .inl nd))]) hP hD [0, 1, 2, 3, 4, 5, 6, 7] [] rfl rfl (by decide) (by decide) hk540 hFc hP1 hD1
      have hP : va_P G vwCl [(qm, .inr (6, [.ref qz, .ref qa, .ref qe, .int (nI sts), .ref qs, .ref qv, .ref qp, .int (nI len), .int go540, .ref qn])), (qz, .inl (cI, 46, .inl z)), (qa, .inl (cI, 46, .inl as)), (qe, .inl (cI, 276, .inl be)), (qs, .inl (cI, 92, .inl sl)), (qv, .inl (cZ, 2, .inl sv)), (qp, .inl (cI, 60, .inl pd)), (qn, .inl (cI, 36, .inl nd))] H540 := hP
      have hD : va_D A [(qm, .inr (6, [.ref qz, .ref qa, .ref qe, .int (nI sts), .ref qs, .ref qv, .ref qp, .int (nI len), .int go540, .ref qn])), (qz, .inl (cI, 46, .inl z)), (qa, .inl (cI, 46, .inl as)), (qe, .inl (cI, 276, .inl be)), (qs, .inl (cI, 92, .inl sl)), (qv, .inl (cZ, 2, .inl sv)), (qp, .inl (cI, 60, .inl pd)), (qn, .inl (cI, 36, .inl nd))] := hD
      refine lv_if_le (tgt := 48) hx hb dX6_move_42 (by decide) (fun c_541 => ?_) (fun c_541 => ?_)
      · refine lv_aload_n hx hb dX6_move_48 rfl (lv_at hl 1 rfl) ?_
        have hPc : va_P G vwCl [(qm, .inr (6, [.ref qz, .ref qa, .ref qe, .int (nI sts), .ref qs, .ref qv, .ref qp, .int (nI len), .int go540, .ref qn])), (qz, .inl (cI, 46, .inl z)), (qa, .inl (cI, 46, .inl as)), (qe, .inl (cI, 276, .inl be)), (qs, .inl (cI, 92, .inl sl)), (qv, .inl (cZ, 2, .inl sv)), (qp, .inl (cI, 60, .inl pd)), (qn, .inl (cI, 36, .inl nd))] H540 := hP
        have hDc := hD.tt
        have hFc := va_free (wc := [(qm, .inr (6, [.ref qz, .ref qa, .ref qe, .int (nI sts), .ref qs, .ref qv, .ref qp, .int (nI len), .int go540, .ref qn])), (qz, .inl (cI, 46, .inl z)), (qa, .inl (cI, 46, .inl as)), (qe, .inl (cI, 276, .inl be)), (qs, .inl (cI, 92, .inl sl)), (qv, .inl (cZ, 2, .inl sv)), (qp, .inl (cI, 60, .inl pd)), (qn, .inl (cI, 36, .inl nd))]) hD hS hA [0, 1, 2, 3, 4, 5, 6, 7] rfl
        refine va_callv (va_runV (As := []) (rest := []) ⟨hx, hb, hml, hown, hts⟩ (c_X6_record l G cI cC cZ cG H540.size qm qz qa qe qs qv qp qn z as be sl sv pd nd sts len go540 hst) (cf_RX6_68 hts ⟨Nat.le_of_ble_eq_true rfl, Nat.le_of_ble_eq_true rfl⟩) (pre_V hK hPc hDc (ci := 6) (q0 := 0) rfl rfl) rfl rfl hl.1 rfl (lv_room (Nat.le_of_ble_eq_true rfl)) dX6_move_49 ⟨Nat.le_of_ble_eq_true rfl, Nat.le_of_ble_eq_true rfl⟩) hS (fun q _ h => hFc q h) hFc (fun u542 t542 H542 locs542 ht542 hvm542 hw542 hB542 hz542 hk542 hS => ?_)
        obtain ⟨q542, rfl⟩ : ∃ z, z = u542 := ⟨_, rfl⟩
        obtain ⟨hP1, hD1⟩ := hB542
        rw [ht542] at hP1
        try dsimp only at hw542
        obtain ⟨hP, hD⟩ := va_join (wr := []) (w1 := [(qm, .inr (6, [.ref qz, .ref qa, .ref qe, .int (nI (rcN sts)), .ref qs, .ref qv, .ref qp, .int (nI len), .int go540, .ref qn])), (qz, .inl (cI, 46, .inl z)), (qa, .inl (cI, 46, .inl as)), (qe, .inl (cI, 276, .inl (rcB be z sts))), (qs, .inl (cI, 92, .inl sl)), (qv, .inl (cZ, 2, .inl sv)), (qp, .inl (cI, 60, .inl pd)), (qn, .inl (cI, 36, .inl nd))]) hP hD [0, 1, 2, 3, 4, 5, 6, 7] [] rfl rfl (by decide) (by decide) hk542 hFc hP1 hD1
        have hP : va_P G vwCl [(qm, .inr (6, [.ref qz, .ref qa, .ref qe, .int (nI (rcN sts)), .ref qs, .ref qv, .ref qp, .int (nI len), .int go540, .ref qn])), (qz, .inl (cI, 46, .inl z)), (qa, .inl (cI, 46, .inl as)), (qe, .inl (cI, 276, .inl (rcB be z sts))), (qs, .inl (cI, 92, .inl sl)), (qv, .inl (cZ, 2, .inl sv)), (qp, .inl (cI, 60, .inl pd)), (qn, .inl (cI, 36, .inl nd))] H542 := hP
        have hD : va_D A [(qm, .inr (6, [.ref qz, .ref qa, .ref qe, .int (nI (rcN sts)), .ref qs, .ref qv, .ref qp, .int (nI len), .int go540, .ref qn])), (qz, .inl (cI, 46, .inl z)), (qa, .inl (cI, 46, .inl as)), (qe, .inl (cI, 276, .inl (rcB be z sts))), (qs, .inl (cI, 92, .inl sl)), (qv, .inl (cZ, 2, .inl sv)), (qp, .inl (cI, 60, .inl pd)), (qn, .inl (cI, 36, .inl nd))] := hD
        refine lv_aload_n hx hb dX6_move_52 rfl (lv_at hl 1 rfl) ?_
        refine lv_iload_n hx hb dX6_move_53 rfl (lv_at hl 0 rfl) ?_
        refine lv_aload_n hx hb dX6_move_54 rfl (lv_at hl 1 rfl) ?_
        refine va_get (D := G) (ci := 6) (v := .ref qz) (C := RX6) (T := TX6) (N := 10) hx hb hts inlX6 hown hK.1 hP 0 rfl rfl 0 (by decide) (hts _ wd78) (fun _ h9 => h9) rfl dX6_move_55 ?_
        refine lv_bipush (v := 41) hx hb dX6_move_58 (by decide) ?_
        refine za_ld hx hb hK.1 hP 1 0 rfl rfl 41 rfl (by decide) (by decide) dX6_move_60 ?_
        rw [h41]
        have hPc : va_P G vwCl [(qm, .inr (6, [.ref qz, .ref qa, .ref qe, .int (nI (rcN sts)), .ref qs, .ref qv, .ref qp, .int (nI len), .int go540, .ref qn])), (qz, .inl (cI, 46, .inl z)), (qa, .inl (cI, 46, .inl as)), (qe, .inl (cI, 276, .inl (rcB be z sts))), (qs, .inl (cI, 92, .inl sl)), (qv, .inl (cZ, 2, .inl sv)), (qp, .inl (cI, 60, .inl pd)), (qn, .inl (cI, 36, .inl nd))] H542 := hP
        have hDc := hD.tt
        have hFc := va_free (wc := [(qm, .inr (6, [.ref qz, .ref qa, .ref qe, .int (nI (rcN sts)), .ref qs, .ref qv, .ref qp, .int (nI len), .int go540, .ref qn])), (qz, .inl (cI, 46, .inl z)), (qa, .inl (cI, 46, .inl as)), (qe, .inl (cI, 276, .inl (rcB be z sts))), (qs, .inl (cI, 92, .inl sl)), (qv, .inl (cZ, 2, .inl sv)), (qp, .inl (cI, 60, .inl pd)), (qn, .inl (cI, 36, .inl nd))]) hD hS hA [0, 1, 2, 3, 4, 5, 6, 7] rfl
        refine va_callv (va_runV (As := [.int (nI ((3 * pl) + j)), .int (nI cn)]) (rest := []) ⟨hx, hb, hml, hown, hts⟩ (c_X6_doMove l G cI cC cZ cG H542.size qm qz qa qe qs qv qp qn z as (rcB be z sts) sl sv pd nd (rcN sts) len go540 ((3 * pl) + j) cn hz (by omega) hc1 hc (mwn_nn c_541)) (cf_RX6_124 hts ⟨Nat.le_of_ble_eq_true rfl, Nat.le_of_ble_eq_true rfl⟩) (pre_V hK hPc hDc (ci := 6) (q0 := 0) rfl rfl) rfl rfl hl.1 rfl (lv_room (Nat.le_of_ble_eq_true rfl)) dX6_move_61 ⟨Nat.le_of_ble_eq_true rfl, Nat.le_of_ble_eq_true rfl⟩) hS (fun q _ h => hFc q h) hFc (fun u543 t543 H543 locs543 ht543 hvm543 hw543 hB543 hz543 hk543 hS => ?_)
        obtain ⟨z543, go543⟩ := u543
        obtain ⟨hP1, hD1⟩ := hB543
        rw [ht543] at hP1
        try dsimp only at hw543
        obtain ⟨hP, hD⟩ := va_join (wr := []) (w1 := [(qm, .inr (6, [.ref qz, .ref qa, .ref qe, .int (nI (rcN sts)), .ref qs, .ref qv, .ref qp, .int (nI len), .int go543, .ref qn])), (qz, .inl (cI, 46, .inl z543)), (qa, .inl (cI, 46, .inl as)), (qe, .inl (cI, 276, .inl (rcB be z sts))), (qs, .inl (cI, 92, .inl sl)), (qv, .inl (cZ, 2, .inl sv)), (qp, .inl (cI, 60, .inl pd)), (qn, .inl (cI, 36, .inl nd))]) hP hD [0, 1, 2, 3, 4, 5, 6, 7] [] rfl rfl (by decide) (by decide) hk543 hFc hP1 hD1
        have hP : va_P G vwCl [(qm, .inr (6, [.ref qz, .ref qa, .ref qe, .int (nI (rcN sts)), .ref qs, .ref qv, .ref qp, .int (nI len), .int go543, .ref qn])), (qz, .inl (cI, 46, .inl z543)), (qa, .inl (cI, 46, .inl as)), (qe, .inl (cI, 276, .inl (rcB be z sts))), (qs, .inl (cI, 92, .inl sl)), (qv, .inl (cZ, 2, .inl sv)), (qp, .inl (cI, 60, .inl pd)), (qn, .inl (cI, 36, .inl nd))] H543 := hP
        have hD : va_D A [(qm, .inr (6, [.ref qz, .ref qa, .ref qe, .int (nI (rcN sts)), .ref qs, .ref qv, .ref qp, .int (nI len), .int go543, .ref qn])), (qz, .inl (cI, 46, .inl z543)), (qa, .inl (cI, 46, .inl as)), (qe, .inl (cI, 276, .inl (rcB be z sts))), (qs, .inl (cI, 92, .inl sl)), (qv, .inl (cZ, 2, .inl sv)), (qp, .inl (cI, 60, .inl pd)), (qn, .inl (cI, 36, .inl nd))] := hD
        refine lv_aload_n hx hb dX6_move_64 rfl (lv_at hl 1 rfl) ?_
        have em : z543 = mv2 z pl cn j := hw543
        have q40 : z543 40 = nI pl := by rw [em, mv2, mvM_hi (by omega) (by omega) (by omega) (by omega)]; exact h40
        have hPc : va_P G vwCl [(qm, .inr (6, [.ref qz, .ref qa, .ref qe, .int (nI (rcN sts)), .ref qs, .ref qv, .ref qp, .int (nI len), .int go543, .ref qn])), (qz, .inl (cI, 46, .inl z543)), (qa, .inl (cI, 46, .inl as)), (qe, .inl (cI, 276, .inl (rcB be z sts))), (qs, .inl (cI, 92, .inl sl)), (qv, .inl (cZ, 2, .inl sv)), (qp, .inl (cI, 60, .inl pd)), (qn, .inl (cI, 36, .inl nd))] H543 := hP
        have hDc := hD.tt
        have hFc := va_free (wc := [(qm, .inr (6, [.ref qz, .ref qa, .ref qe, .int (nI (rcN sts)), .ref qs, .ref qv, .ref qp, .int (nI len), .int go543, .ref qn])), (qz, .inl (cI, 46, .inl z543)), (qa, .inl (cI, 46, .inl as)), (qe, .inl (cI, 276, .inl (rcB be z sts))), (qs, .inl (cI, 92, .inl sl)), (qv, .inl (cZ, 2, .inl sv)), (qp, .inl (cI, 60, .inl pd)), (qn, .inl (cI, 36, .inl nd))]) hD hS hA [0, 1, 2, 3, 4, 5, 6, 7] rfl
        refine va_callv (va_runV (As := []) (rest := []) ⟨hx, hb, hml, hown, hts⟩ (c_X6_goOn l G cI cC cZ cG H543.size qm qz qa qe qs qv qp qn z543 as (rcB be z sts) sl sv pd nd (rcN sts) len go543 pl hpl q40) (cf_RX6_128 hts ⟨Nat.le_of_ble_eq_true rfl, Nat.le_of_ble_eq_true rfl⟩) (pre_V hK hPc hDc (ci := 6) (q0 := 0) rfl rfl) rfl rfl hl.1 rfl (lv_room (Nat.le_of_ble_eq_true rfl)) dX6_move_65 ⟨Nat.le_of_ble_eq_true rfl, Nat.le_of_ble_eq_true rfl⟩) hS (fun q _ h => hFc q h) hFc (fun u544 t544 H544 locs544 ht544 hvm544 hw544 hB544 hz544 hk544 hS => ?_)
        obtain ⟨z544, rfl⟩ : ∃ z, z = u544 := ⟨_, rfl⟩
        obtain ⟨hP1, hD1⟩ := hB544
        rw [ht544] at hP1
        try dsimp only at hw544
        obtain ⟨hP, hD⟩ := va_join (wr := []) (w1 := [(qm, .inr (6, [.ref qz, .ref qa, .ref qe, .int (nI (rcN sts)), .ref qs, .ref qv, .ref qp, .int (nI len), .int go543, .ref qn])), (qz, .inl (cI, 46, .inl z544)), (qa, .inl (cI, 46, .inl as)), (qe, .inl (cI, 276, .inl (rcB be z sts))), (qs, .inl (cI, 92, .inl sl)), (qv, .inl (cZ, 2, .inl sv)), (qp, .inl (cI, 60, .inl pd)), (qn, .inl (cI, 36, .inl nd))]) hP hD [0, 1, 2, 3, 4, 5, 6, 7] [] rfl rfl (by decide) (by decide) hk544 hFc hP1 hD1
        have hP : va_P G vwCl [(qm, .inr (6, [.ref qz, .ref qa, .ref qe, .int (nI (rcN sts)), .ref qs, .ref qv, .ref qp, .int (nI len), .int go543, .ref qn])), (qz, .inl (cI, 46, .inl z544)), (qa, .inl (cI, 46, .inl as)), (qe, .inl (cI, 276, .inl (rcB be z sts))), (qs, .inl (cI, 92, .inl sl)), (qv, .inl (cZ, 2, .inl sv)), (qp, .inl (cI, 60, .inl pd)), (qn, .inl (cI, 36, .inl nd))] H544 := hP
        have hD : va_D A [(qm, .inr (6, [.ref qz, .ref qa, .ref qe, .int (nI (rcN sts)), .ref qs, .ref qv, .ref qp, .int (nI len), .int go543, .ref qn])), (qz, .inl (cI, 46, .inl z544)), (qa, .inl (cI, 46, .inl as)), (qe, .inl (cI, 276, .inl (rcB be z sts))), (qs, .inl (cI, 92, .inl sl)), (qv, .inl (cZ, 2, .inl sv)), (qp, .inl (cI, 60, .inl pd)), (qn, .inl (cI, 36, .inl nd))] := hD
        have emv : z544 = moM z pl cn j := by rw [hw544, em]; rfl
        refine lv_aload_n hx hb dX6_move_68 rfl (lv_at hl 1 rfl) ?_
        refine va_get (D := G) (ci := 6) (v := .ref qz) (C := RX6) (T := TX6) (N := 10) hx hb hts inlX6 hown hK.1 hP 0 rfl rfl 0 (by decide) (hts _ wd78) (fun _ h9 => h9) rfl dX6_move_69 ?_
        refine lv_iload_n hx hb dX6_move_72 rfl (lv_at hl 0 rfl) ?_
        refine za_ld hx hb hK.1 hP 1 0 rfl rfl ((3 * pl) + j) rfl (by omega) (by decide) dX6_move_73 ?_
        exact W.iret (v := z544 ((3 * pl) + j)) hx hb hr (fun t ht hW => ⟨⟨z544 ((3 * pl) + j), (z544, (rcB be z sts), (rcN sts), sl, sv, pd, len, as, go543, nd), rfl, ⟨by show _ = Prod.fst (_ : Int32 × KS); rw [m_move, if_neg (fun h => h c_537), (show (z 41).toNatClampNeg = cn by rw [h41]; exact nI_clamp (by omega)), (show (z 40).toNatClampNeg = pl by rw [h40]; exact nI_clamp (by omega)), (show (nI j).toNatClampNeg = j from nI_clamp (by omega)), if_neg (fun h => h.elim c_539 (fun q => q c_541))]; rw [← emv], by rw [m_move, if_neg (fun h => h c_537), (show (z 41).toNatClampNeg = cn by rw [h41]; exact nI_clamp (by omega)), (show (z 40).toNatClampNeg = pl by rw [h40]; exact nI_clamp (by omega)), (show (nI j).toNatClampNeg = j from nI_clamp (by omega)), if_neg (fun h => h.elim c_539 (fun q => q c_541))]; exact cor_eq emv rfl rfl rfl rfl rfl rfl⟩, by rw [ht]; exact hP, hD⟩, hS.F ht⟩) hS.2.2 dX6_move_74
      · refine lv_bipush (v := (-5)) hx hb dX6_move_45 (by decide) ?_
        exact W.iret (v := (-5)) hx hb hr (fun t ht hW => ⟨⟨(-5), (z, be, sts, sl, sv, pd, len, as, go540, nd), rfl, ⟨by show _ = Prod.fst (_ : Int32 × KS); rw [m_move, if_neg (fun h => h c_537), (show (z 41).toNatClampNeg = cn by rw [h41]; exact nI_clamp (by omega)), (show (z 40).toNatClampNeg = pl by rw [h40]; exact nI_clamp (by omega)), (show (nI j).toNatClampNeg = j from nI_clamp (by omega)), if_pos (Or.inr c_541)], by rw [m_move, if_neg (fun h => h c_537), (show (z 41).toNatClampNeg = cn by rw [h41]; exact nI_clamp (by omega)), (show (z 40).toNatClampNeg = pl by rw [h40]; exact nI_clamp (by omega)), (show (nI j).toNatClampNeg = j from nI_clamp (by omega)), if_pos (Or.inr c_541)]; rfl⟩, by rw [ht]; exact hP, hD⟩, hS.F ht⟩) hS.2.2 dX6_move_47
  · refine lv_iconst (v := (-1)) hx hb dX6_move_9 (by decide) ?_
    exact W.iret (v := (-1)) hx hb hr (fun t ht hW => ⟨⟨(-1), (z, be, sts, sl, sv, pd, len, as, go, nd), rfl, ⟨by show _ = Prod.fst (_ : Int32 × KS); rw [m_move, if_pos c_537], by rw [m_move, if_pos c_537]; rfl⟩, by rw [ht]; exact hP, hD⟩, hS.F ht⟩) hS.2.2 dX6_move_10

abbrev rm_X6_skip : Room := { frames := 7, cells := 0, slots := 0, locals := 161 }
theorem cf_RX6_131 {R : Room} {s : State} {args : Array Value} (ht : ∀ w ∈ wsL_law, w.before args s = true) (hR : rm_X6_canMove.frames + 1 ≤ R.frames ∧ 8 + (4 + 11) + rm_X6_canMove.locals ≤ R.locals) : CallW R s args RX6 RX6 131 yX6_canMove cX6_canMove 4 (some .boolean) (.code yX6_canMove cX6_canMove 4 (some .boolean) :: wsL_law) rm_X6_canMove 0 0 1 := ⟨cw_B 1 ht wd333 wd5 wd336 (by decide +kernel) rfl rfl hR, ht _ wd334, ht _ wd335⟩
set_option maxHeartbeats 1000000 in
set_option maxRecDepth 100000 in
theorem c_X6_skip (l : Launch) (G : va_G) (cI cC cZ cG : ClassId) (sz : Nat) (qm qz qa qe qs qv qp qn : Nat) (z as be sl sv pd nd : IA) (sts len : Nat) (go : Int32) (pl : Nat) (hz : ∀ k, k < 12 → okv (z k)) (hx0 : ¬ z 39 < 0) (hpl : pl < 4) (h40 : z 40 = nI pl) (h4c : okc (z 41)) (hst : sts ≤ 6) (hln : len ≤ 60) : Met l yX6_skip (.code yX6_skip cX6_skip 1 (some .int) :: wsL_law) rm_X6_skip (va_Pc [.ref qm] (bw G cI cC cZ cG false sz [(qm, .inr (6, [.ref qz, .ref qa, .ref qe, .int (nI sts), .ref qs, .ref qv, .ref qp, .int (nI len), .int go, .ref qn])), (qz, .inl (cI, 46, .inl z)), (qa, .inl (cI, 46, .inl as)), (qe, .inl (cI, 276, .inl be)), (qs, .inl (cI, 92, .inl sl)), (qv, .inl (cZ, 2, .inl sv)), (qp, .inl (cI, 60, .inl pd)), (qn, .inl (cI, 36, .inl nd))])) (va_Qi (fun (r : Int32) (u : MS) => r = (m_skip (z, be, sts, sl, sv, pd, len)).1 ∧ cor u = (m_skip (z, be, sts, sl, sv, pd, len)).2) (fun (u : MS) t => va_P G vwCl [(qm, .inr (6, [.ref qz, .ref qa, .ref qe, .int (nI u.2.2.1), .ref qs, .ref qv, .ref qp, .int (nI u.2.2.2.2.2.2.1), .int u.2.2.2.2.2.2.2.2.1, .ref qn])), (qz, .inl (cI, 46, .inl u.1)), (qa, .inl (cI, 46, .inl u.2.2.2.2.2.2.2.1)), (qe, .inl (cI, 276, .inl u.2.1)), (qs, .inl (cI, 92, .inl u.2.2.2.1)), (qv, .inl (cZ, 2, .inl u.2.2.2.2.1)), (qp, .inl (cI, 60, .inl u.2.2.2.2.2.1)), (qn, .inl (cI, 36, .inl u.2.2.2.2.2.2.2.2.2))] t.heap ∧ va_D (va_A [(qm, .inr (6, [.ref qz, .ref qa, .ref qe, .int (nI sts), .ref qs, .ref qv, .ref qp, .int (nI len), .int go, .ref qn])), (qz, .inl (cI, 46, .inl z)), (qa, .inl (cI, 46, .inl as)), (qe, .inl (cI, 276, .inl be)), (qs, .inl (cI, 92, .inl sl)), (qv, .inl (cZ, 2, .inl sv)), (qp, .inl (cI, 60, .inl pd)), (qn, .inl (cI, 36, .inl nd))] sz) [(qm, .inr (6, [.ref qz, .ref qa, .ref qe, .int (nI u.2.2.1), .ref qs, .ref qv, .ref qp, .int (nI u.2.2.2.2.2.2.1), .int u.2.2.2.2.2.2.2.2.1, .ref qn])), (qz, .inl (cI, 46, .inl u.1)), (qa, .inl (cI, 46, .inl u.2.2.2.2.2.2.2.1)), (qe, .inl (cI, 276, .inl u.2.1)), (qs, .inl (cI, 92, .inl u.2.2.2.1)), (qv, .inl (cZ, 2, .inl u.2.2.2.2.1)), (qp, .inl (cI, 60, .inl u.2.2.2.2.2.1)), (qn, .inl (cI, 36, .inl u.2.2.2.2.2.2.2.2.2))]) (va_A [(qm, .inr (6, [.ref qz, .ref qa, .ref qe, .int (nI sts), .ref qs, .ref qv, .ref qp, .int (nI len), .int go, .ref qn])), (qz, .inl (cI, 46, .inl z)), (qa, .inl (cI, 46, .inl as)), (qe, .inl (cI, 276, .inl be)), (qs, .inl (cI, 92, .inl sl)), (qv, .inl (cZ, 2, .inl sv)), (qp, .inl (cI, 60, .inl pd)), (qn, .inl (cI, 36, .inl nd))] sz)) 0 0 (va_A [(qm, .inr (6, [.ref qz, .ref qa, .ref qe, .int (nI sts), .ref qs, .ref qv, .ref qp, .int (nI len), .int go, .ref qn])), (qz, .inl (cI, 46, .inl z)), (qa, .inl (cI, 46, .inl as)), (qe, .inl (cI, 276, .inl be)), (qs, .inl (cI, 92, .inl sl)), (qv, .inl (cZ, 2, .inl sv)), (qp, .inl (cI, 60, .inl pd)), (qn, .inl (cI, 36, .inl nd))] sz) := by
  refine met_bw rfl (Nat.le_of_ble_eq_true rfl) ?_
  intro p e s m below meth c ls hx hb hr hml hown hts hlocks hin hsz hP hK hD0 hX0 hl
  have hown : s.vm.findClass RX6 = some m.cls := hown
  have hl : lv_has ls 1 [(0, .ref qm)] := hl
  subst hsz
  have hD := hD0.self (sz := s.heap.size)
  generalize hAe : va_A [(qm, .inr (6, [.ref qz, .ref qa, .ref qe, .int (nI sts), .ref qs, .ref qv, .ref qp, .int (nI len), .int go, .ref qn])), (qz, .inl (cI, 46, .inl z)), (qa, .inl (cI, 46, .inl as)), (qe, .inl (cI, 276, .inl be)), (qs, .inl (cI, 92, .inl sl)), (qv, .inl (cZ, 2, .inl sv)), (qp, .inl (cI, 60, .inl pd)), (qn, .inl (cI, 36, .inl nd))] s.heap.size = A at hD ⊢
  have hA : ∀ q : Nat, s.heap.size ≤ q → A q := fun q h => by rw [← hAe]; exact Or.inr h
  have hS : va_S A s.heap s.heap [] := va_S.rf
  refine lv_aload_n hx hb dX6_skip_0 rfl (lv_at hl 0 rfl) ?_
  have hPc : va_P G vwCl [(qm, .inr (6, [.ref qz, .ref qa, .ref qe, .int (nI sts), .ref qs, .ref qv, .ref qp, .int (nI len), .int go, .ref qn])), (qz, .inl (cI, 46, .inl z)), (qa, .inl (cI, 46, .inl as)), (qe, .inl (cI, 276, .inl be)), (qs, .inl (cI, 92, .inl sl)), (qv, .inl (cZ, 2, .inl sv)), (qp, .inl (cI, 60, .inl pd)), (qn, .inl (cI, 36, .inl nd))] s.heap := hP
  have hDc := hD.tt
  refine vp_callSi (va_Run.run (va_runV (As := []) (rest := []) ⟨hx, hb, hml, hown, hts⟩ (c_X6_hasCast l G cI cC cZ cG s.heap.size qm qz qa qe qs qv qp qn z as be sl sv pd nd sts len go) (cf_RX6_114 hts ⟨Nat.le_of_ble_eq_true rfl, Nat.le_of_ble_eq_true rfl⟩) (pre_V hK hPc hDc (ci := 6) (q0 := 0) rfl rfl) rfl rfl hl.1 rfl (lv_room (Nat.le_of_ble_eq_true rfl)) dX6_skip_1 ⟨Nat.le_of_ble_eq_true rfl, Nat.le_of_ble_eq_true rfl⟩)) (fun r545 hr545 => ?_)
  subst hr545
  refine zb_eq (tgt := 21) hx hb dX6_skip_4 (by decide) (fun c_546 => ?_) (fun c_546 => ?_)
  · refine lv_bipush (v := (-5)) hx hb dX6_skip_21 (by decide) ?_
    exact W.iret (v := (-5)) hx hb hr (fun t ht hW => ⟨⟨(-5), (z, be, sts, sl, sv, pd, len, as, go, nd), rfl, ⟨by show _ = Prod.fst (_ : Int32 × KS); rw [m_skip, if_pos (Or.inl (Decidable.not_not.mp c_546))], by rw [m_skip, if_pos (Or.inl (Decidable.not_not.mp c_546))]; rfl⟩, by rw [ht]; exact hP, hD⟩, hS.F ht⟩) hS.2.2 dX6_skip_23
  · obtain ⟨cn, hc1, hc, h41⟩ := okc_ne h4c c_546
    refine lv_aload_n hx hb dX6_skip_7 rfl (lv_at hl 0 rfl) ?_
    refine lv_aload_n hx hb dX6_skip_8 rfl (lv_at hl 0 rfl) ?_
    refine va_get (D := G) (ci := 6) (v := .ref qz) (C := RX6) (T := TX6) (N := 10) hx hb hts inlX6 hown hK.1 hP 0 rfl rfl 0 (by decide) (hts _ wd78) (fun _ h9 => h9) rfl dX6_skip_9 ?_
    refine lv_bipush (v := 41) hx hb dX6_skip_12 (by decide) ?_
    refine za_ld hx hb hK.1 hP 1 0 rfl rfl 41 rfl (by decide) (by decide) dX6_skip_14 ?_
    rw [h41]
    have hPc : va_P G vwCl [(qm, .inr (6, [.ref qz, .ref qa, .ref qe, .int (nI sts), .ref qs, .ref qv, .ref qp, .int (nI len), .int go, .ref qn])), (qz, .inl (cI, 46, .inl z)), (qa, .inl (cI, 46, .inl as)), (qe, .inl (cI, 276, .inl be)), (qs, .inl (cI, 92, .inl sl)), (qv, .inl (cZ, 2, .inl sv)), (qp, .inl (cI, 60, .inl pd)), (qn, .inl (cI, 36, .inl nd))] s.heap := hP
    have hDc := hD.tt
    have hFc := va_free (wc := [(qm, .inr (6, [.ref qz, .ref qa, .ref qe, .int (nI sts), .ref qs, .ref qv, .ref qp, .int (nI len), .int go, .ref qn])), (qz, .inl (cI, 46, .inl z)), (qa, .inl (cI, 46, .inl as)), (qe, .inl (cI, 276, .inl be)), (qs, .inl (cI, 92, .inl sl)), (qv, .inl (cZ, 2, .inl sv)), (qp, .inl (cI, 60, .inl pd)), (qn, .inl (cI, 36, .inl nd))]) hD hS hA [0, 1, 2, 3, 4, 5, 6, 7] rfl
    refine va_calli (va_runV (As := [.int (nI cn)]) (rest := []) ⟨hx, hb, hml, hown, hts⟩ (c_X6_canMove l G cI cC cZ cG s.heap.size qm qz qa qe qs qv qp qn z as be sl sv pd nd sts len go pl cn hz hpl h40 hc1 hc) (cf_RX6_131 hts ⟨Nat.le_of_ble_eq_true rfl, Nat.le_of_ble_eq_true rfl⟩) (pre_V hK hPc hDc (ci := 6) (q0 := 0) rfl rfl) rfl rfl hl.1 rfl (lv_room (Nat.le_of_ble_eq_true rfl)) dX6_skip_15 ⟨Nat.le_of_ble_eq_true rfl, Nat.le_of_ble_eq_true rfl⟩) hS (fun q _ h => hFc q h) hFc (fun r547 u547 t547 H547 locs547 ht547 hvm547 hw547 hB547 hz547 hk547 hS => ?_)
    obtain ⟨go547, rfl⟩ : ∃ z, z = u547 := ⟨_, rfl⟩
    obtain ⟨hP1, hD1⟩ := hB547
    rw [ht547] at hP1
    try dsimp only at hw547
    obtain ⟨hr547, hw547⟩ := hw547
    subst hr547
    obtain ⟨hP, hD⟩ := va_join (wr := []) (w1 := [(qm, .inr (6, [.ref qz, .ref qa, .ref qe, .int (nI sts), .ref qs, .ref qv, .ref qp, .int (nI len), .int go547, .ref qn])), (qz, .inl (cI, 46, .inl z)), (qa, .inl (cI, 46, .inl as)), (qe, .inl (cI, 276, .inl be)), (qs, .inl (cI, 92, .inl sl)), (qv, .inl (cZ, 2, .inl sv)), (qp, .inl (cI, 60, .inl pd)), (qn, .inl (cI, 36, .inl nd))]) hP hD [0, 1, 2, 3, 4, 5, 6, 7] [] rfl rfl (by decide) (by decide) hk547 hFc hP1 hD1
    have hP : va_P G vwCl [(qm, .inr (6, [.ref qz, .ref qa, .ref qe, .int (nI sts), .ref qs, .ref qv, .ref qp, .int (nI len), .int go547, .ref qn])), (qz, .inl (cI, 46, .inl z)), (qa, .inl (cI, 46, .inl as)), (qe, .inl (cI, 276, .inl be)), (qs, .inl (cI, 92, .inl sl)), (qv, .inl (cZ, 2, .inl sv)), (qp, .inl (cI, 60, .inl pd)), (qn, .inl (cI, 36, .inl nd))] H547 := hP
    have hD : va_D A [(qm, .inr (6, [.ref qz, .ref qa, .ref qe, .int (nI sts), .ref qs, .ref qv, .ref qp, .int (nI len), .int go547, .ref qn])), (qz, .inl (cI, 46, .inl z)), (qa, .inl (cI, 46, .inl as)), (qe, .inl (cI, 276, .inl be)), (qs, .inl (cI, 92, .inl sl)), (qv, .inl (cZ, 2, .inl sv)), (qp, .inl (cI, 60, .inl pd)), (qn, .inl (cI, 36, .inl nd))] := hD
    refine zb_eq (tgt := 24) hx hb dX6_skip_18 (by decide) (fun c_548 => ?_) (fun c_548 => ?_)
    · refine lv_aload_n hx hb dX6_skip_24 rfl (lv_at hl 0 rfl) ?_
      have hPc : va_P G vwCl [(qm, .inr (6, [.ref qz, .ref qa, .ref qe, .int (nI sts), .ref qs, .ref qv, .ref qp, .int (nI len), .int go547, .ref qn])), (qz, .inl (cI, 46, .inl z)), (qa, .inl (cI, 46, .inl as)), (qe, .inl (cI, 276, .inl be)), (qs, .inl (cI, 92, .inl sl)), (qv, .inl (cZ, 2, .inl sv)), (qp, .inl (cI, 60, .inl pd)), (qn, .inl (cI, 36, .inl nd))] H547 := hP
      have hDc := hD.tt
      have hFc := va_free (wc := [(qm, .inr (6, [.ref qz, .ref qa, .ref qe, .int (nI sts), .ref qs, .ref qv, .ref qp, .int (nI len), .int go547, .ref qn])), (qz, .inl (cI, 46, .inl z)), (qa, .inl (cI, 46, .inl as)), (qe, .inl (cI, 276, .inl be)), (qs, .inl (cI, 92, .inl sl)), (qv, .inl (cZ, 2, .inl sv)), (qp, .inl (cI, 60, .inl pd)), (qn, .inl (cI, 36, .inl nd))]) hD hS hA [0, 1, 2, 3, 4, 5, 6, 7] rfl
      refine va_callv (va_runV (As := []) (rest := []) ⟨hx, hb, hml, hown, hts⟩ (c_X6_record l G cI cC cZ cG H547.size qm qz qa qe qs qv qp qn z as be sl sv pd nd sts len go547 hst) (cf_RX6_68 hts ⟨Nat.le_of_ble_eq_true rfl, Nat.le_of_ble_eq_true rfl⟩) (pre_V hK hPc hDc (ci := 6) (q0 := 0) rfl rfl) rfl rfl hl.1 rfl (lv_room (Nat.le_of_ble_eq_true rfl)) dX6_skip_25 ⟨Nat.le_of_ble_eq_true rfl, Nat.le_of_ble_eq_true rfl⟩) hS (fun q _ h => hFc q h) hFc (fun u549 t549 H549 locs549 ht549 hvm549 hw549 hB549 hz549 hk549 hS => ?_)
      obtain ⟨q549, rfl⟩ : ∃ z, z = u549 := ⟨_, rfl⟩
      obtain ⟨hP1, hD1⟩ := hB549
      rw [ht549] at hP1
      try dsimp only at hw549
      obtain ⟨hP, hD⟩ := va_join (wr := []) (w1 := [(qm, .inr (6, [.ref qz, .ref qa, .ref qe, .int (nI (rcN sts)), .ref qs, .ref qv, .ref qp, .int (nI len), .int go547, .ref qn])), (qz, .inl (cI, 46, .inl z)), (qa, .inl (cI, 46, .inl as)), (qe, .inl (cI, 276, .inl (rcB be z sts))), (qs, .inl (cI, 92, .inl sl)), (qv, .inl (cZ, 2, .inl sv)), (qp, .inl (cI, 60, .inl pd)), (qn, .inl (cI, 36, .inl nd))]) hP hD [0, 1, 2, 3, 4, 5, 6, 7] [] rfl rfl (by decide) (by decide) hk549 hFc hP1 hD1
      have hP : va_P G vwCl [(qm, .inr (6, [.ref qz, .ref qa, .ref qe, .int (nI (rcN sts)), .ref qs, .ref qv, .ref qp, .int (nI len), .int go547, .ref qn])), (qz, .inl (cI, 46, .inl z)), (qa, .inl (cI, 46, .inl as)), (qe, .inl (cI, 276, .inl (rcB be z sts))), (qs, .inl (cI, 92, .inl sl)), (qv, .inl (cZ, 2, .inl sv)), (qp, .inl (cI, 60, .inl pd)), (qn, .inl (cI, 36, .inl nd))] H549 := hP
      have hD : va_D A [(qm, .inr (6, [.ref qz, .ref qa, .ref qe, .int (nI (rcN sts)), .ref qs, .ref qv, .ref qp, .int (nI len), .int go547, .ref qn])), (qz, .inl (cI, 46, .inl z)), (qa, .inl (cI, 46, .inl as)), (qe, .inl (cI, 276, .inl (rcB be z sts))), (qs, .inl (cI, 92, .inl sl)), (qv, .inl (cZ, 2, .inl sv)), (qp, .inl (cI, 60, .inl pd)), (qn, .inl (cI, 36, .inl nd))] := hD
      refine lv_aload_n hx hb dX6_skip_28 rfl (lv_at hl 0 rfl) ?_
      have hPc : va_P G vwCl [(qm, .inr (6, [.ref qz, .ref qa, .ref qe, .int (nI (rcN sts)), .ref qs, .ref qv, .ref qp, .int (nI len), .int go547, .ref qn])), (qz, .inl (cI, 46, .inl z)), (qa, .inl (cI, 46, .inl as)), (qe, .inl (cI, 276, .inl (rcB be z sts))), (qs, .inl (cI, 92, .inl sl)), (qv, .inl (cZ, 2, .inl sv)), (qp, .inl (cI, 60, .inl pd)), (qn, .inl (cI, 36, .inl nd))] H549 := hP
      have hDc := hD.tt
      have hFc := va_free (wc := [(qm, .inr (6, [.ref qz, .ref qa, .ref qe, .int (nI (rcN sts)), .ref qs, .ref qv, .ref qp, .int (nI len), .int go547, .ref qn])), (qz, .inl (cI, 46, .inl z)), (qa, .inl (cI, 46, .inl as)), (qe, .inl (cI, 276, .inl (rcB be z sts))), (qs, .inl (cI, 92, .inl sl)), (qv, .inl (cZ, 2, .inl sv)), (qp, .inl (cI, 60, .inl pd)), (qn, .inl (cI, 36, .inl nd))]) hD hS hA [0, 1, 2, 3, 4, 5, 6, 7] rfl
      refine va_callv (va_runV (As := []) (rest := []) ⟨hx, hb, hml, hown, hts⟩ (c_X6_goOn l G cI cC cZ cG H549.size qm qz qa qe qs qv qp qn z as (rcB be z sts) sl sv pd nd (rcN sts) len go547 pl hpl h40) (cf_RX6_128 hts ⟨Nat.le_of_ble_eq_true rfl, Nat.le_of_ble_eq_true rfl⟩) (pre_V hK hPc hDc (ci := 6) (q0 := 0) rfl rfl) rfl rfl hl.1 rfl (lv_room (Nat.le_of_ble_eq_true rfl)) dX6_skip_29 ⟨Nat.le_of_ble_eq_true rfl, Nat.le_of_ble_eq_true rfl⟩) hS (fun q _ h => hFc q h) hFc (fun u550 t550 H550 locs550 ht550 hvm550 hw550 hB550 hz550 hk550 hS => ?_)
      obtain ⟨z550, rfl⟩ : ∃ z, z = u550 := ⟨_, rfl⟩
      obtain ⟨hP1, hD1⟩ := hB550
      rw [ht550] at hP1
      try dsimp only at hw550
      obtain ⟨hP, hD⟩ := va_join (wr := []) (w1 := [(qm, .inr (6, [.ref qz, .ref qa, .ref qe, .int (nI (rcN sts)), .ref qs, .ref qv, .ref qp, .int (nI len), .int go547, .ref qn])), (qz, .inl (cI, 46, .inl z550)), (qa, .inl (cI, 46, .inl as)), (qe, .inl (cI, 276, .inl (rcB be z sts))), (qs, .inl (cI, 92, .inl sl)), (qv, .inl (cZ, 2, .inl sv)), (qp, .inl (cI, 60, .inl pd)), (qn, .inl (cI, 36, .inl nd))]) hP hD [0, 1, 2, 3, 4, 5, 6, 7] [] rfl rfl (by decide) (by decide) hk550 hFc hP1 hD1
      have hP : va_P G vwCl [(qm, .inr (6, [.ref qz, .ref qa, .ref qe, .int (nI (rcN sts)), .ref qs, .ref qv, .ref qp, .int (nI len), .int go547, .ref qn])), (qz, .inl (cI, 46, .inl z550)), (qa, .inl (cI, 46, .inl as)), (qe, .inl (cI, 276, .inl (rcB be z sts))), (qs, .inl (cI, 92, .inl sl)), (qv, .inl (cZ, 2, .inl sv)), (qp, .inl (cI, 60, .inl pd)), (qn, .inl (cI, 36, .inl nd))] H550 := hP
      have hD : va_D A [(qm, .inr (6, [.ref qz, .ref qa, .ref qe, .int (nI (rcN sts)), .ref qs, .ref qv, .ref qp, .int (nI len), .int go547, .ref qn])), (qz, .inl (cI, 46, .inl z550)), (qa, .inl (cI, 46, .inl as)), (qe, .inl (cI, 276, .inl (rcB be z sts))), (qs, .inl (cI, 92, .inl sl)), (qv, .inl (cZ, 2, .inl sv)), (qp, .inl (cI, 60, .inl pd)), (qn, .inl (cI, 36, .inl nd))] := hD
      refine lv_aload_n hx hb dX6_skip_32 rfl (lv_at hl 0 rfl) ?_
      refine va_get (D := G) (ci := 6) (v := .ref qz) (C := RX6) (T := TX6) (N := 10) hx hb hts inlX6 hown hK.1 hP 0 rfl rfl 0 (by decide) (hts _ wd78) (fun _ h9 => h9) rfl dX6_skip_33 ?_
      refine lv_bipush (v := 40) hx hb dX6_skip_36 (by decide) ?_
      refine za_ld hx hb hK.1 hP 1 0 rfl rfl 40 rfl (by decide) (by decide) dX6_skip_38 ?_
      exact W.iret (v := z550 40) hx hb hr (fun t ht hW => ⟨⟨z550 40, (z550, (rcB be z sts), (rcN sts), sl, sv, pd, len, as, go547, nd), rfl, ⟨by show _ = Prod.fst (_ : Int32 × KS); rw [m_skip, (show (z 41).toNatClampNeg = cn by rw [h41]; exact nI_clamp (by omega)), (show (z 40).toNatClampNeg = pl by rw [h40]; exact nI_clamp (by omega)), if_neg (fun h => h.elim c_546 c_548)]; rw [← hw550], by rw [m_skip, (show (z 41).toNatClampNeg = cn by rw [h41]; exact nI_clamp (by omega)), (show (z 40).toNatClampNeg = pl by rw [h40]; exact nI_clamp (by omega)), if_neg (fun h => h.elim c_546 c_548)]; exact cor_eq hw550 rfl rfl rfl rfl rfl rfl⟩, by rw [ht]; exact hP, hD⟩, hS.F ht⟩) hS.2.2 dX6_skip_39
    · refine lv_bipush (v := (-5)) hx hb dX6_skip_21 (by decide) ?_
      exact W.iret (v := (-5)) hx hb hr (fun t ht hW => ⟨⟨(-5), (z, be, sts, sl, sv, pd, len, as, go547, nd), rfl, ⟨by show _ = Prod.fst (_ : Int32 × KS); rw [m_skip, (show (z 41).toNatClampNeg = cn by rw [h41]; exact nI_clamp (by omega)), (show (z 40).toNatClampNeg = pl by rw [h40]; exact nI_clamp (by omega)), if_pos (Or.inr c_548)], by rw [m_skip, (show (z 41).toNatClampNeg = cn by rw [h41]; exact nI_clamp (by omega)), (show (z 40).toNatClampNeg = pl by rw [h40]; exact nI_clamp (by omega)), if_pos (Or.inr c_548)]; rfl⟩, by rw [ht]; exact hP, hD⟩, hS.F ht⟩) hS.2.2 dX6_skip_23

abbrev rm_X6_play : Room := { frames := 9, cells := 0, slots := 0, locals := 211 }
theorem cf_RX6_137 {R : Room} {s : State} {args : Array Value} (ht : ∀ w ∈ wsL_law, w.before args s = true) (hR : rm_X6_doPlay.frames + 1 ≤ R.frames ∧ 8 + (4 + 11) + rm_X6_doPlay.locals ≤ R.locals) : CallW R s args RX6 RX6 137 yX6_doPlay cX6_doPlay 4 (some .int) (.code yX6_doPlay cX6_doPlay 4 (some .int) :: wsL_law) rm_X6_doPlay 0 0 1 := ⟨cw_B 1 ht wd360 wd5 wd363 (by decide +kernel) rfl rfl hR, ht _ wd361, ht _ wd362⟩
set_option maxHeartbeats 1000000 in
set_option maxRecDepth 100000 in
theorem c_X6_play (l : Launch) (G : va_G) (cI cC cZ cG : ClassId) (sz : Nat) (qm qz qa qe qs qv qp qn : Nat) (z as be sl sv pd nd : IA) (sts len : Nat) (go : Int32) (pl : Nat) (n0 : Int32) (hz : ∀ k, k < 12 → okv (z k)) (hx0 : ¬ z 39 < 0) (hpl : pl < 4) (h40 : z 40 = nI pl) (h4c : okc (z 41)) (hst : sts ≤ 6) (hln : len ≤ 60) : Met l yX6_play (.code yX6_play cX6_play 2 (some .int) :: wsL_law) rm_X6_play (va_Pc [.ref qm, .int n0] (bw G cI cC cZ cG false sz [(qm, .inr (6, [.ref qz, .ref qa, .ref qe, .int (nI sts), .ref qs, .ref qv, .ref qp, .int (nI len), .int go, .ref qn])), (qz, .inl (cI, 46, .inl z)), (qa, .inl (cI, 46, .inl as)), (qe, .inl (cI, 276, .inl be)), (qs, .inl (cI, 92, .inl sl)), (qv, .inl (cZ, 2, .inl sv)), (qp, .inl (cI, 60, .inl pd)), (qn, .inl (cI, 36, .inl nd))])) (va_Qi (fun (r : Int32) (u : MS) => r = (m_play n0 (z, be, sts, sl, sv, pd, len)).1 ∧ cor u = (m_play n0 (z, be, sts, sl, sv, pd, len)).2) (fun (u : MS) t => va_P G vwCl [(qm, .inr (6, [.ref qz, .ref qa, .ref qe, .int (nI u.2.2.1), .ref qs, .ref qv, .ref qp, .int (nI u.2.2.2.2.2.2.1), .int u.2.2.2.2.2.2.2.2.1, .ref qn])), (qz, .inl (cI, 46, .inl u.1)), (qa, .inl (cI, 46, .inl u.2.2.2.2.2.2.2.1)), (qe, .inl (cI, 276, .inl u.2.1)), (qs, .inl (cI, 92, .inl u.2.2.2.1)), (qv, .inl (cZ, 2, .inl u.2.2.2.2.1)), (qp, .inl (cI, 60, .inl u.2.2.2.2.2.1)), (qn, .inl (cI, 36, .inl u.2.2.2.2.2.2.2.2.2))] t.heap ∧ va_D (va_A [(qm, .inr (6, [.ref qz, .ref qa, .ref qe, .int (nI sts), .ref qs, .ref qv, .ref qp, .int (nI len), .int go, .ref qn])), (qz, .inl (cI, 46, .inl z)), (qa, .inl (cI, 46, .inl as)), (qe, .inl (cI, 276, .inl be)), (qs, .inl (cI, 92, .inl sl)), (qv, .inl (cZ, 2, .inl sv)), (qp, .inl (cI, 60, .inl pd)), (qn, .inl (cI, 36, .inl nd))] sz) [(qm, .inr (6, [.ref qz, .ref qa, .ref qe, .int (nI u.2.2.1), .ref qs, .ref qv, .ref qp, .int (nI u.2.2.2.2.2.2.1), .int u.2.2.2.2.2.2.2.2.1, .ref qn])), (qz, .inl (cI, 46, .inl u.1)), (qa, .inl (cI, 46, .inl u.2.2.2.2.2.2.2.1)), (qe, .inl (cI, 276, .inl u.2.1)), (qs, .inl (cI, 92, .inl u.2.2.2.1)), (qv, .inl (cZ, 2, .inl u.2.2.2.2.1)), (qp, .inl (cI, 60, .inl u.2.2.2.2.2.1)), (qn, .inl (cI, 36, .inl u.2.2.2.2.2.2.2.2.2))]) (va_A [(qm, .inr (6, [.ref qz, .ref qa, .ref qe, .int (nI sts), .ref qs, .ref qv, .ref qp, .int (nI len), .int go, .ref qn])), (qz, .inl (cI, 46, .inl z)), (qa, .inl (cI, 46, .inl as)), (qe, .inl (cI, 276, .inl be)), (qs, .inl (cI, 92, .inl sl)), (qv, .inl (cZ, 2, .inl sv)), (qp, .inl (cI, 60, .inl pd)), (qn, .inl (cI, 36, .inl nd))] sz)) 0 0 (va_A [(qm, .inr (6, [.ref qz, .ref qa, .ref qe, .int (nI sts), .ref qs, .ref qv, .ref qp, .int (nI len), .int go, .ref qn])), (qz, .inl (cI, 46, .inl z)), (qa, .inl (cI, 46, .inl as)), (qe, .inl (cI, 276, .inl be)), (qs, .inl (cI, 92, .inl sl)), (qv, .inl (cZ, 2, .inl sv)), (qp, .inl (cI, 60, .inl pd)), (qn, .inl (cI, 36, .inl nd))] sz) := by
  refine met_bw rfl (Nat.le_of_ble_eq_true rfl) ?_
  intro p e s m below meth c ls hx hb hr hml hown hts hlocks hin hsz hP hK hD0 hX0 hl
  have hown : s.vm.findClass RX6 = some m.cls := hown
  have hl : lv_has ls 2 [(0, .ref qm), (1, .int n0)] := hl
  subst hsz
  have hD := hD0.self (sz := s.heap.size)
  generalize hAe : va_A [(qm, .inr (6, [.ref qz, .ref qa, .ref qe, .int (nI sts), .ref qs, .ref qv, .ref qp, .int (nI len), .int go, .ref qn])), (qz, .inl (cI, 46, .inl z)), (qa, .inl (cI, 46, .inl as)), (qe, .inl (cI, 276, .inl be)), (qs, .inl (cI, 92, .inl sl)), (qv, .inl (cZ, 2, .inl sv)), (qp, .inl (cI, 60, .inl pd)), (qn, .inl (cI, 36, .inl nd))] s.heap.size = A at hD ⊢
  have hA : ∀ q : Nat, s.heap.size ≤ q → A q := fun q h => by rw [← hAe]; exact Or.inr h
  have hS : va_S A s.heap s.heap [] := va_S.rf
  refine lv_iload_n hx hb dX6_play_0 rfl (lv_at hl 1 rfl) ?_
  refine lv_iconst (v := 1) hx hb dX6_play_1 (by decide) ?_
  refine lv_bipush (v := 100) hx hb dX6_play_2 (by decide) ?_
  refine vp_callSi (va_Run.run (va_runS (As := [.int n0, .int 1, .int 100]) (rest := []) ⟨hx, hb, hml, hown, hts⟩ (c_X6_in l n0 1 100) (cf_RX6_32 hts ⟨Nat.le_of_ble_eq_true rfl, Nat.le_of_ble_eq_true rfl⟩) pre_P rfl rfl hl.1 rfl (lv_room (Nat.le_of_ble_eq_true rfl)) dX6_play_4 ⟨Nat.le_of_ble_eq_true rfl, Nat.le_of_ble_eq_true rfl⟩)) (fun r551 hr551 => ?_)
  subst hr551
  refine zb_ne (tgt := 13) hx hb dX6_play_7 (by decide) (fun c_552 => ?_) (fun c_552 => ?_)
  · obtain ⟨j, hj0, hj, rfl⟩ := inQ_nI (lo := 1) (hi := 100) (by decide) (by decide) c_552
    refine lv_aload_n hx hb dX6_play_13 rfl (lv_at hl 0 rfl) ?_
    have hPc : va_P G vwCl [(qm, .inr (6, [.ref qz, .ref qa, .ref qe, .int (nI sts), .ref qs, .ref qv, .ref qp, .int (nI len), .int go, .ref qn])), (qz, .inl (cI, 46, .inl z)), (qa, .inl (cI, 46, .inl as)), (qe, .inl (cI, 276, .inl be)), (qs, .inl (cI, 92, .inl sl)), (qv, .inl (cZ, 2, .inl sv)), (qp, .inl (cI, 60, .inl pd)), (qn, .inl (cI, 36, .inl nd))] s.heap := hP
    have hDc := hD.tt
    refine vp_callSi (va_Run.run (va_runV (As := []) (rest := []) ⟨hx, hb, hml, hown, hts⟩ (c_X6_isOver l G cI cC cZ cG s.heap.size qm qz qa qe qs qv qp qn z as be sl sv pd nd sts len go) (cf_RX6_97 hts ⟨Nat.le_of_ble_eq_true rfl, Nat.le_of_ble_eq_true rfl⟩) (pre_V hK hPc hDc (ci := 6) (q0 := 0) rfl rfl) rfl rfl hl.1 rfl (lv_room (Nat.le_of_ble_eq_true rfl)) dX6_play_14 ⟨Nat.le_of_ble_eq_true rfl, Nat.le_of_ble_eq_true rfl⟩)) (fun r553 hr553 => ?_)
    subst hr553
    refine zb_ne (tgt := 27) hx hb dX6_play_17 (by decide) (fun c_554 => ?_) (fun c_554 => ?_)
    · refine lv_bipush (v := (-5)) hx hb dX6_play_27 (by decide) ?_
      exact W.iret (v := (-5)) hx hb hr (fun t ht hW => ⟨⟨(-5), (z, be, sts, sl, sv, pd, len, as, go, nd), rfl, ⟨by show _ = Prod.fst (_ : Int32 × KS); rw [m_play, if_neg (fun h => h c_552), if_pos (Or.inl c_554)], by rw [m_play, if_neg (fun h => h c_552), if_pos (Or.inl c_554)]; rfl⟩, by rw [ht]; exact hP, hD⟩, hS.F ht⟩) hS.2.2 dX6_play_29
    · refine lv_aload_n hx hb dX6_play_20 rfl (lv_at hl 0 rfl) ?_
      have hPc : va_P G vwCl [(qm, .inr (6, [.ref qz, .ref qa, .ref qe, .int (nI sts), .ref qs, .ref qv, .ref qp, .int (nI len), .int go, .ref qn])), (qz, .inl (cI, 46, .inl z)), (qa, .inl (cI, 46, .inl as)), (qe, .inl (cI, 276, .inl be)), (qs, .inl (cI, 92, .inl sl)), (qv, .inl (cZ, 2, .inl sv)), (qp, .inl (cI, 60, .inl pd)), (qn, .inl (cI, 36, .inl nd))] s.heap := hP
      have hDc := hD.tt
      refine vp_callSi (va_Run.run (va_runV (As := []) (rest := []) ⟨hx, hb, hml, hown, hts⟩ (c_X6_hasCast l G cI cC cZ cG s.heap.size qm qz qa qe qs qv qp qn z as be sl sv pd nd sts len go) (cf_RX6_114 hts ⟨Nat.le_of_ble_eq_true rfl, Nat.le_of_ble_eq_true rfl⟩) (pre_V hK hPc hDc (ci := 6) (q0 := 0) rfl rfl) rfl rfl hl.1 rfl (lv_room (Nat.le_of_ble_eq_true rfl)) dX6_play_21 ⟨Nat.le_of_ble_eq_true rfl, Nat.le_of_ble_eq_true rfl⟩)) (fun r555 hr555 => ?_)
      subst hr555
      refine zb_eq (tgt := 30) hx hb dX6_play_24 (by decide) (fun c_556 => ?_) (fun c_556 => ?_)
      · refine lv_aload_n hx hb dX6_play_30 rfl (lv_at hl 0 rfl) ?_
        have hPc : va_P G vwCl [(qm, .inr (6, [.ref qz, .ref qa, .ref qe, .int (nI sts), .ref qs, .ref qv, .ref qp, .int (nI len), .int go, .ref qn])), (qz, .inl (cI, 46, .inl z)), (qa, .inl (cI, 46, .inl as)), (qe, .inl (cI, 276, .inl be)), (qs, .inl (cI, 92, .inl sl)), (qv, .inl (cZ, 2, .inl sv)), (qp, .inl (cI, 60, .inl pd)), (qn, .inl (cI, 36, .inl nd))] s.heap := hP
        have hDc := hD.tt
        have hFc := va_free (wc := [(qm, .inr (6, [.ref qz, .ref qa, .ref qe, .int (nI sts), .ref qs, .ref qv, .ref qp, .int (nI len), .int go, .ref qn])), (qz, .inl (cI, 46, .inl z)), (qa, .inl (cI, 46, .inl as)), (qe, .inl (cI, 276, .inl be)), (qs, .inl (cI, 92, .inl sl)), (qv, .inl (cZ, 2, .inl sv)), (qp, .inl (cI, 60, .inl pd)), (qn, .inl (cI, 36, .inl nd))]) hD hS hA [0, 1, 2, 3, 4, 5, 6, 7] rfl
        refine va_callv (va_runV (As := []) (rest := []) ⟨hx, hb, hml, hown, hts⟩ (c_X6_record l G cI cC cZ cG s.heap.size qm qz qa qe qs qv qp qn z as be sl sv pd nd sts len go hst) (cf_RX6_68 hts ⟨Nat.le_of_ble_eq_true rfl, Nat.le_of_ble_eq_true rfl⟩) (pre_V hK hPc hDc (ci := 6) (q0 := 0) rfl rfl) rfl rfl hl.1 rfl (lv_room (Nat.le_of_ble_eq_true rfl)) dX6_play_31 ⟨Nat.le_of_ble_eq_true rfl, Nat.le_of_ble_eq_true rfl⟩) hS (fun q _ h => hFc q h) hFc (fun u557 t557 H557 locs557 ht557 hvm557 hw557 hB557 hz557 hk557 hS => ?_)
        obtain ⟨q557, rfl⟩ : ∃ z, z = u557 := ⟨_, rfl⟩
        obtain ⟨hP1, hD1⟩ := hB557
        rw [ht557] at hP1
        try dsimp only at hw557
        obtain ⟨hP, hD⟩ := va_join (wr := []) (w1 := [(qm, .inr (6, [.ref qz, .ref qa, .ref qe, .int (nI (rcN sts)), .ref qs, .ref qv, .ref qp, .int (nI len), .int go, .ref qn])), (qz, .inl (cI, 46, .inl z)), (qa, .inl (cI, 46, .inl as)), (qe, .inl (cI, 276, .inl (rcB be z sts))), (qs, .inl (cI, 92, .inl sl)), (qv, .inl (cZ, 2, .inl sv)), (qp, .inl (cI, 60, .inl pd)), (qn, .inl (cI, 36, .inl nd))]) hP hD [0, 1, 2, 3, 4, 5, 6, 7] [] rfl rfl (by decide) (by decide) hk557 hFc hP1 hD1
        have hP : va_P G vwCl [(qm, .inr (6, [.ref qz, .ref qa, .ref qe, .int (nI (rcN sts)), .ref qs, .ref qv, .ref qp, .int (nI len), .int go, .ref qn])), (qz, .inl (cI, 46, .inl z)), (qa, .inl (cI, 46, .inl as)), (qe, .inl (cI, 276, .inl (rcB be z sts))), (qs, .inl (cI, 92, .inl sl)), (qv, .inl (cZ, 2, .inl sv)), (qp, .inl (cI, 60, .inl pd)), (qn, .inl (cI, 36, .inl nd))] H557 := hP
        have hD : va_D A [(qm, .inr (6, [.ref qz, .ref qa, .ref qe, .int (nI (rcN sts)), .ref qs, .ref qv, .ref qp, .int (nI len), .int go, .ref qn])), (qz, .inl (cI, 46, .inl z)), (qa, .inl (cI, 46, .inl as)), (qe, .inl (cI, 276, .inl (rcB be z sts))), (qs, .inl (cI, 92, .inl sl)), (qv, .inl (cZ, 2, .inl sv)), (qp, .inl (cI, 60, .inl pd)), (qn, .inl (cI, 36, .inl nd))] := hD
        refine lv_aload_n hx hb dX6_play_34 rfl (lv_at hl 0 rfl) ?_
        refine lv_iload_n hx hb dX6_play_35 rfl (lv_at hl 1 rfl) ?_
        have hPc : va_P G vwCl [(qm, .inr (6, [.ref qz, .ref qa, .ref qe, .int (nI (rcN sts)), .ref qs, .ref qv, .ref qp, .int (nI len), .int go, .ref qn])), (qz, .inl (cI, 46, .inl z)), (qa, .inl (cI, 46, .inl as)), (qe, .inl (cI, 276, .inl (rcB be z sts))), (qs, .inl (cI, 92, .inl sl)), (qv, .inl (cZ, 2, .inl sv)), (qp, .inl (cI, 60, .inl pd)), (qn, .inl (cI, 36, .inl nd))] H557 := hP
        have hDc := hD.tt
        have hFc := va_free (wc := [(qm, .inr (6, [.ref qz, .ref qa, .ref qe, .int (nI (rcN sts)), .ref qs, .ref qv, .ref qp, .int (nI len), .int go, .ref qn])), (qz, .inl (cI, 46, .inl z)), (qa, .inl (cI, 46, .inl as)), (qe, .inl (cI, 276, .inl (rcB be z sts))), (qs, .inl (cI, 92, .inl sl)), (qv, .inl (cZ, 2, .inl sv)), (qp, .inl (cI, 60, .inl pd)), (qn, .inl (cI, 36, .inl nd))]) hD hS hA [0, 1, 2, 3, 4, 5, 6, 7] rfl
        refine va_calli (va_runV (As := [.int (nI j)]) (rest := []) ⟨hx, hb, hml, hown, hts⟩ (c_X6_doPlay l G cI cC cZ cG H557.size qm qz qa qe qs qv qp qn z as (rcB be z sts) sl sv pd nd (rcN sts) len go j (⟨hz, hx0, pl, hpl, h40⟩) (by omega)) (cf_RX6_137 hts ⟨Nat.le_of_ble_eq_true rfl, Nat.le_of_ble_eq_true rfl⟩) (pre_V hK hPc hDc (ci := 6) (q0 := 0) rfl rfl) rfl rfl hl.1 rfl (lv_room (Nat.le_of_ble_eq_true rfl)) dX6_play_36 ⟨Nat.le_of_ble_eq_true rfl, Nat.le_of_ble_eq_true rfl⟩) hS (fun q _ h => hFc q h) hFc (fun r558 u558 t558 H558 locs558 ht558 hvm558 hw558 hB558 hz558 hk558 hS => ?_)
        obtain ⟨z558, go558⟩ := u558
        obtain ⟨hP1, hD1⟩ := hB558
        rw [ht558] at hP1
        try dsimp only at hw558
        obtain ⟨hr558, hw558⟩ := hw558
        subst hr558
        obtain ⟨hP, hD⟩ := va_join (wr := []) (w1 := [(qm, .inr (6, [.ref qz, .ref qa, .ref qe, .int (nI (rcN sts)), .ref qs, .ref qv, .ref qp, .int (nI len), .int go558, .ref qn])), (qz, .inl (cI, 46, .inl z558)), (qa, .inl (cI, 46, .inl as)), (qe, .inl (cI, 276, .inl (rcB be z sts))), (qs, .inl (cI, 92, .inl sl)), (qv, .inl (cZ, 2, .inl sv)), (qp, .inl (cI, 60, .inl pd)), (qn, .inl (cI, 36, .inl nd))]) hP hD [0, 1, 2, 3, 4, 5, 6, 7] [] rfl rfl (by decide) (by decide) hk558 hFc hP1 hD1
        have hP : va_P G vwCl [(qm, .inr (6, [.ref qz, .ref qa, .ref qe, .int (nI (rcN sts)), .ref qs, .ref qv, .ref qp, .int (nI len), .int go558, .ref qn])), (qz, .inl (cI, 46, .inl z558)), (qa, .inl (cI, 46, .inl as)), (qe, .inl (cI, 276, .inl (rcB be z sts))), (qs, .inl (cI, 92, .inl sl)), (qv, .inl (cZ, 2, .inl sv)), (qp, .inl (cI, 60, .inl pd)), (qn, .inl (cI, 36, .inl nd))] H558 := hP
        have hD : va_D A [(qm, .inr (6, [.ref qz, .ref qa, .ref qe, .int (nI (rcN sts)), .ref qs, .ref qv, .ref qp, .int (nI len), .int go558, .ref qn])), (qz, .inl (cI, 46, .inl z558)), (qa, .inl (cI, 46, .inl as)), (qe, .inl (cI, 276, .inl (rcB be z sts))), (qs, .inl (cI, 92, .inl sl)), (qv, .inl (cZ, 2, .inl sv)), (qp, .inl (cI, 60, .inl pd)), (qn, .inl (cI, 36, .inl nd))] := hD
        exact W.iret (v := nI ((pgM j z).2)) hx hb hr (fun t ht hW => ⟨⟨nI ((pgM j z).2), (z558, (rcB be z sts), (rcN sts), sl, sv, pd, len, as, go558, nd), rfl, ⟨by show _ = Prod.fst (_ : Int32 × KS); rw [m_play, if_neg (fun h => h c_552), if_neg (fun h => h.elim c_554 c_556), (show (nI j).toNatClampNeg = j from nI_clamp (by omega))], by rw [m_play, if_neg (fun h => h c_552), if_neg (fun h => h.elim c_554 c_556), (show (nI j).toNatClampNeg = j from nI_clamp (by omega))]; exact cor_eq hw558 rfl rfl rfl rfl rfl rfl⟩, by rw [ht]; exact hP, hD⟩, hS.F ht⟩) hS.2.2 dX6_play_39
      · refine lv_bipush (v := (-5)) hx hb dX6_play_27 (by decide) ?_
        exact W.iret (v := (-5)) hx hb hr (fun t ht hW => ⟨⟨(-5), (z, be, sts, sl, sv, pd, len, as, go, nd), rfl, ⟨by show _ = Prod.fst (_ : Int32 × KS); rw [m_play, if_neg (fun h => h c_552), if_pos (Or.inr c_556)], by rw [m_play, if_neg (fun h => h c_552), if_pos (Or.inr c_556)]; rfl⟩, by rw [ht]; exact hP, hD⟩, hS.F ht⟩) hS.2.2 dX6_play_29
  · refine lv_bipush (v := (-2)) hx hb dX6_play_10 (by decide) ?_
    exact W.iret (v := (-2)) hx hb hr (fun t ht hW => ⟨⟨(-2), (z, be, sts, sl, sv, pd, len, as, go, nd), rfl, ⟨by show _ = Prod.fst (_ : Int32 × KS); rw [m_play, if_pos c_552], by rw [m_play, if_pos c_552]; rfl⟩, by rw [ht]; exact hP, hD⟩, hS.F ht⟩) hS.2.2 dX6_play_12
