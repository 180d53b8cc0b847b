abbrev rm_X6_lay : Room := { frames := 6, cells := 0, slots := 0, locals := 133 }
theorem cf_RX6_146 {R : Room} {s : State} {args : Array Value} (ht : ∀ w ∈ wsL_law, w.before args s = true) (hR : rm_X6_isPiece.frames + 1 ≤ R.frames ∧ 8 + (1 + 11) + rm_X6_isPiece.locals ≤ R.locals) : CallB R s args RX6 146 yX6_isPiece cX6_isPiece 1 (some .boolean) (.code yX6_isPiece cX6_isPiece 1 (some .boolean) :: wsL_law) rm_X6_isPiece 0 0 1 ∧ (Cond.static yX6_isPiece).before args s = true := ⟨cw_B 1 ht wd422 wd5 wd424 (by decide +kernel) rfl rfl hR, ht _ wd423⟩
set_option maxHeartbeats 1000000 in
set_option maxRecDepth 100000 in
theorem c_X6_lay (l : Launch) (G : va_G) (cI cC cZ cG : ClassId) (sz : Nat) (qm qz qa qe qs qv qp qn : Nat) (z as be sl sv pd nd : IA) (sts len : Nat) (go : Int32) (pl : Nat) (k0 v0 : Int32) (hz : ∀ k, k < 12 → okv (z k)) (hx0 : ¬ z 39 < 0) (hpl : pl < 4) (h40 : z 40 = nI pl) (h4c : okc (z 41)) (hst : sts ≤ 6) (hln : len ≤ 60) : Met l yX6_lay (.code yX6_lay cX6_lay 7 (some .int) :: wsL_law) rm_X6_lay (va_Pc [.ref qm, .int k0, .int v0] (bw G cI cC cZ cG false sz [(qm, .inr (6, [.ref qz, .ref qa, .ref qe, .int (nI sts), .ref qs, .ref qv, .ref qp, .int (nI len), .int go, .ref qn])), (qz, .inl (cI, 46, .inl z)), (qa, .inl (cI, 46, .inl as)), (qe, .inl (cI, 276, .inl be)), (qs, .inl (cI, 92, .inl sl)), (qv, .inl (cZ, 2, .inl sv)), (qp, .inl (cI, 60, .inl pd)), (qn, .inl (cI, 36, .inl nd))])) (va_Qi (fun (r : Int32) (u : MS) => r = (m_lay k0 v0 (z, be, sts, sl, sv, pd, len)).1 ∧ cor u = (m_lay k0 v0 (z, be, sts, sl, sv, pd, len)).2) (fun (u : MS) t => va_P G vwCl [(qm, .inr (6, [.ref qz, .ref qa, .ref qe, .int (nI u.2.2.1), .ref qs, .ref qv, .ref qp, .int (nI u.2.2.2.2.2.2.1), .int u.2.2.2.2.2.2.2.2.1, .ref qn])), (qz, .inl (cI, 46, .inl u.1)), (qa, .inl (cI, 46, .inl u.2.2.2.2.2.2.2.1)), (qe, .inl (cI, 276, .inl u.2.1)), (qs, .inl (cI, 92, .inl u.2.2.2.1)), (qv, .inl (cZ, 2, .inl u.2.2.2.2.1)), (qp, .inl (cI, 60, .inl u.2.2.2.2.2.1)), (qn, .inl (cI, 36, .inl u.2.2.2.2.2.2.2.2.2))] t.heap ∧ va_D (va_A [(qm, .inr (6, [.ref qz, .ref qa, .ref qe, .int (nI sts), .ref qs, .ref qv, .ref qp, .int (nI len), .int go, .ref qn])), (qz, .inl (cI, 46, .inl z)), (qa, .inl (cI, 46, .inl as)), (qe, .inl (cI, 276, .inl be)), (qs, .inl (cI, 92, .inl sl)), (qv, .inl (cZ, 2, .inl sv)), (qp, .inl (cI, 60, .inl pd)), (qn, .inl (cI, 36, .inl nd))] sz) [(qm, .inr (6, [.ref qz, .ref qa, .ref qe, .int (nI u.2.2.1), .ref qs, .ref qv, .ref qp, .int (nI u.2.2.2.2.2.2.1), .int u.2.2.2.2.2.2.2.2.1, .ref qn])), (qz, .inl (cI, 46, .inl u.1)), (qa, .inl (cI, 46, .inl u.2.2.2.2.2.2.2.1)), (qe, .inl (cI, 276, .inl u.2.1)), (qs, .inl (cI, 92, .inl u.2.2.2.1)), (qv, .inl (cZ, 2, .inl u.2.2.2.2.1)), (qp, .inl (cI, 60, .inl u.2.2.2.2.2.1)), (qn, .inl (cI, 36, .inl u.2.2.2.2.2.2.2.2.2))]) (va_A [(qm, .inr (6, [.ref qz, .ref qa, .ref qe, .int (nI sts), .ref qs, .ref qv, .ref qp, .int (nI len), .int go, .ref qn])), (qz, .inl (cI, 46, .inl z)), (qa, .inl (cI, 46, .inl as)), (qe, .inl (cI, 276, .inl be)), (qs, .inl (cI, 92, .inl sl)), (qv, .inl (cZ, 2, .inl sv)), (qp, .inl (cI, 60, .inl pd)), (qn, .inl (cI, 36, .inl nd))] sz)) 0 0 (va_A [(qm, .inr (6, [.ref qz, .ref qa, .ref qe, .int (nI sts), .ref qs, .ref qv, .ref qp, .int (nI len), .int go, .ref qn])), (qz, .inl (cI, 46, .inl z)), (qa, .inl (cI, 46, .inl as)), (qe, .inl (cI, 276, .inl be)), (qs, .inl (cI, 92, .inl sl)), (qv, .inl (cZ, 2, .inl sv)), (qp, .inl (cI, 60, .inl pd)), (qn, .inl (cI, 36, .inl nd))] sz) := by
  refine met_bw rfl (Nat.le_of_ble_eq_true rfl) ?_
  intro p e s m below meth c ls hx hb hr hml hown hts hlocks hin hsz hP hK hD0 hX0 hl
  have hown : s.vm.findClass RX6 = some m.cls := hown
  have hl : lv_has ls 7 [(0, .ref qm), (1, .int k0), (2, .int v0)] := hl
  subst hsz
  have hD := hD0.self (sz := s.heap.size)
  generalize hAe : va_A [(qm, .inr (6, [.ref qz, .ref qa, .ref qe, .int (nI sts), .ref qs, .ref qv, .ref qp, .int (nI len), .int go, .ref qn])), (qz, .inl (cI, 46, .inl z)), (qa, .inl (cI, 46, .inl as)), (qe, .inl (cI, 276, .inl be)), (qs, .inl (cI, 92, .inl sl)), (qv, .inl (cZ, 2, .inl sv)), (qp, .inl (cI, 60, .inl pd)), (qn, .inl (cI, 36, .inl nd))] s.heap.size = A at hD ⊢
  have hA : ∀ q : Nat, s.heap.size ≤ q → A q := fun q h => by rw [← hAe]; exact Or.inr h
  have hS : va_S A s.heap s.heap [] := va_S.rf
  generalize hQ : MQ below (va_Qi (fun (r : Int32) (u : MS) => r = (m_lay k0 v0 (z, be, sts, sl, sv, pd, len)).1 ∧ cor u = (m_lay k0 v0 (z, be, sts, sl, sv, pd, len)).2) (fun (u : MS) t => va_P G vwCl [(qm, .inr (6, [.ref qz, .ref qa, .ref qe, .int (nI u.2.2.1), .ref qs, .ref qv, .ref qp, .int (nI u.2.2.2.2.2.2.1), .int u.2.2.2.2.2.2.2.2.1, .ref qn])), (qz, .inl (cI, 46, .inl u.1)), (qa, .inl (cI, 46, .inl u.2.2.2.2.2.2.2.1)), (qe, .inl (cI, 276, .inl u.2.1)), (qs, .inl (cI, 92, .inl u.2.2.2.1)), (qv, .inl (cZ, 2, .inl u.2.2.2.2.1)), (qp, .inl (cI, 60, .inl u.2.2.2.2.2.1)), (qn, .inl (cI, 36, .inl u.2.2.2.2.2.2.2.2.2))] t.heap ∧ va_D A [(qm, .inr (6, [.ref qz, .ref qa, .ref qe, .int (nI u.2.2.1), .ref qs, .ref qv, .ref qp, .int (nI u.2.2.2.2.2.2.1), .int u.2.2.2.2.2.2.2.2.1, .ref qn])), (qz, .inl (cI, 46, .inl u.1)), (qa, .inl (cI, 46, .inl u.2.2.2.2.2.2.2.1)), (qe, .inl (cI, 276, .inl u.2.1)), (qs, .inl (cI, 92, .inl u.2.2.2.1)), (qv, .inl (cZ, 2, .inl u.2.2.2.2.1)), (qp, .inl (cI, 60, .inl u.2.2.2.2.2.1)), (qn, .inl (cI, 36, .inl u.2.2.2.2.2.2.2.2.2))]) A) ([.ref qm, .int k0, .int v0] : List Value).toArray s 0 0 A = Q
  generalize hag : ([.ref qm, .int k0, .int v0] : List Value).toArray = ag at hts hQ ⊢
  refine lv_iload_n hx hb dX6_lay_0 rfl (lv_at hl 1 rfl) ?_
  refine vp_callSi (va_Run.run (va_runS (As := [.int k0]) (rest := []) ⟨hx, hb, hml, hown, hts⟩ (c_X6_isPiece l k0) (cf_RX6_146 hts ⟨Nat.le_of_ble_eq_true rfl, Nat.le_of_ble_eq_true rfl⟩) pre_P rfl rfl hl.1 rfl (lv_room (Nat.le_of_ble_eq_true rfl)) dX6_lay_1 ⟨Nat.le_of_ble_eq_true rfl, Nat.le_of_ble_eq_true rfl⟩)) (fun r559 hr559 => ?_)
  subst hr559
  refine zb_ne (tgt := 9) hx hb dX6_lay_4 (by decide) (fun c_560 => ?_) (fun c_560 => ?_)
  · obtain ⟨j, hj0, hj, rfl⟩ := inQ_nI (lo := 0) (hi := 11) (by decide) (by decide) c_560
    refine lv_iload_n hx hb dX6_lay_9 rfl (lv_at hl 2 rfl) ?_
    refine lv_bipush (v := (-6)) hx hb dX6_lay_10 (by decide) ?_
    refine lv_icmp_eq (tgt := 28) hx hb dX6_lay_12 (by decide) (fun c_561 => ?_) (fun c_561 => ?_)
    · refine lv_iload_n hx hb dX6_lay_28 rfl (lv_at hl 1 rfl) ?_
      refine lv_iconst (v := 3) hx hb dX6_lay_29 (by decide) ?_
      refine zi_div hx hb j 3 dX6_lay_30 rfl rfl (by omega) (by decide) (by decide) ?_
      refine lv_istore_n (lv' := [(3, .int (nI (j / 3))), (0, .ref qm), (1, .int (nI j)), (2, .int v0)]) hx hb dX6_lay_31 rfl hl (by decide) rfl (fun ls hl => ?_)
      refine lv_iload_n hx hb dX6_lay_32 rfl (lv_at hl 0 rfl) ?_
      refine lv_iload_n hx hb dX6_lay_33 rfl (lv_at hl 3 rfl) ?_
      refine vp_callSi (va_Run.run (va_runS (As := [.int (nI (j / 3)), .int v0]) (rest := []) ⟨hx, hb, hml, hown, hts⟩ (c_X6_fieldAt l (j / 3) v0 (by omega)) (cf_RX6_36 hts ⟨Nat.le_of_ble_eq_true rfl, Nat.le_of_ble_eq_true rfl⟩) pre_P rfl rfl hl.1 rfl (lv_room (Nat.le_of_ble_eq_true rfl)) dX6_lay_34 ⟨Nat.le_of_ble_eq_true rfl, Nat.le_of_ble_eq_true rfl⟩)) (fun r562 hr562 => ?_)
      subst hr562
      refine lv_istore (lv' := [(4, .int (rf (j / 3) v0)), (3, .int (nI (j / 3))), (0, .ref qm), (1, .int (nI j)), (2, .int v0)]) hx hb dX6_lay_37 hl (by decide) rfl (fun ls hl => ?_)
      refine lv_iconst (v := 0) hx hb dX6_lay_39 (by decide) ?_
      refine lv_istore (lv' := [(5, .int 0), (4, .int (rf (j / 3) v0)), (3, .int (nI (j / 3))), (0, .ref qm), (1, .int (nI j)), (2, .int v0)]) hx hb dX6_lay_40 hl (by decide) rfl (fun ls hl => ?_)
      refine lv_iconst (v := 3) hx hb dX6_lay_42 (by decide) ?_
      refine lv_iload_n hx hb dX6_lay_43 rfl (lv_at hl 2 rfl) ?_
      refine zi_mul hx hb 3 (j / 3) dX6_lay_44 rfl rfl ?_
      refine lv_istore (lv' := [(6, .int (nI (3 * (j / 3)))), (5, .int 0), (4, .int (rf (j / 3) v0)), (3, .int (nI (j / 3))), (0, .ref qm), (1, .int (nI j)), (2, .int v0)]) hx hb dX6_lay_45 hl (by decide) rfl (fun ls hl => ?_)
      have L1 : ∀ (n : Nat), ∀ (i : Nat), ∀ (f : Nat), ∀ (h0 : 3 * (j / 3) ≤ i), ∀ (hi : i ≤ 3 * (j / 3) + 3), ∀ (hf2 : f = cnt (laP z v0 j) (i - 3 * (j / 3))), ∀ (hn : 3 * (j / 3) + 4 ≤ i + n), ∀ (ls : Array Slot), lv_has ls 7 [(6, .int (nI i)), (5, .int (nI f)), (4, .int (rf (j / 3) v0)), (3, .int (nI (j / 3))), (0, .ref qm), (1, .int (nI j)), (2, .int v0)] → W p l e rm_X6_lay s m ag below meth c s.heap [] 0 0 Q (F0 m 47 ls []) := by
        intro n
        induction n with
        | zero =>
          intro i f h0 hi hf2 hn ls hl
          omega
        | succ n ih1 =>
          intro i f h0 hi hf2 hn ls hl
          have hb2 : 3 * (j / 3) + (i - 3 * (j / 3)) = i := by omega
          have hb3 : i + 1 - 3 * (j / 3) = (i - 3 * (j / 3)) + 1 := by omega
          have hfl : f ≤ 3 := by rw [hf2]; exact Nat.le_trans (cnt_le _ _) (by omega)
          refine lv_iload hx hb dX6_lay_47 (lv_at hl 0 rfl) ?_
          refine lv_iconst (v := 3) hx hb dX6_lay_49 (by decide) ?_
          refine lv_iload_n hx hb dX6_lay_50 rfl (lv_at hl 3 rfl) ?_
          refine zi_mul hx hb 3 (j / 3) dX6_lay_51 rfl rfl ?_
          refine lv_iconst (v := 3) hx hb dX6_lay_52 (by decide) ?_
          refine zi_add hx hb (3 * (j / 3)) 3 dX6_lay_53 rfl rfl ?_
          refine zi_ge (tgt := 100) hx hb i ((3 * (j / 3)) + 3) dX6_lay_54 (by decide) rfl rfl (by omega) (by omega) (fun c_564 => ?_) (fun c_564 => ?_)
          · refine lv_aload_n hx hb dX6_lay_100 rfl (lv_at hl 4 rfl) ?_
            refine lv_iload_n hx hb dX6_lay_101 rfl (lv_at hl 3 rfl) ?_
            refine lv_iload hx hb dX6_lay_102 (lv_at hl 2 rfl) ?_
            have hPc : va_P G vwCl [(qm, .inr (6, [.ref qz, .ref qa, .ref qe, .int (nI sts), .ref qs, .ref qv, .ref qp, .int (nI len), .int go, .ref qn])), (qz, .inl (cI, 46, .inl z)), (qa, .inl (cI, 46, .inl as)), (qe, .inl (cI, 276, .inl be)), (qs, .inl (cI, 92, .inl sl)), (qv, .inl (cZ, 2, .inl sv)), (qp, .inl (cI, 60, .inl pd)), (qn, .inl (cI, 36, .inl nd))] s.heap := hP
            have hDc := hD.tt
            refine vp_callSi (va_Run.run (va_runV (As := [.int (nI (j / 3)), .int (rf (j / 3) v0)]) (rest := []) ⟨hx, hb, hml, hown, hts⟩ (c_X6_otherOn l G cI cC cZ cG s.heap.size qm qz qa qe qs qv qp qn z as be sl sv pd nd sts len go (j / 3) (rf (j / 3) v0) (by omega)) (cf_RX6_91 hts ⟨Nat.le_of_ble_eq_true rfl, Nat.le_of_ble_eq_true rfl⟩) (pre_V hK hPc hDc (ci := 6) (q0 := 0) rfl rfl) rfl rfl hl.1 rfl (lv_room (Nat.le_of_ble_eq_true rfl)) dX6_lay_104 ⟨Nat.le_of_ble_eq_true rfl, Nat.le_of_ble_eq_true rfl⟩)) (fun r565 hr565 => ?_)
            subst hr565
            refine lv_if_ge (tgt := 125) hx hb dX6_lay_107 (by decide) (fun c_566 => ?_) (fun c_566 => ?_)
            · refine lv_bipush (v := (-5)) hx hb dX6_lay_125 (by decide) ?_
              subst hQ
              exact W.iret (v := (-5)) hx hb hr (fun t ht hW => ⟨⟨(-5), (z, be, sts, sl, sv, pd, len, as, go, nd), rfl, ⟨by show _ = Prod.fst (_ : Int32 × KS); rw [m_lay, if_neg (fun h => h c_560), if_neg (fun h => h.1 c_561), (show (nI j).toNatClampNeg = j from nI_clamp (by omega)), if_pos (Or.inl c_566)], by rw [m_lay, if_neg (fun h => h c_560), if_neg (fun h => h.1 c_561), (show (nI j).toNatClampNeg = j from nI_clamp (by omega)), if_pos (Or.inl c_566)]; rfl⟩, by rw [ht]; exact hP, hD⟩, hS.F ht⟩) hS.2.2 dX6_lay_127
            · refine lv_iload hx hb dX6_lay_110 (lv_at hl 1 rfl) ?_
              refine lv_iconst (v := 1) hx hb dX6_lay_112 (by decide) ?_
              refine zi_gt (tgt := 125) hx hb f 1 dX6_lay_113 (by decide) rfl rfl (by omega) (by decide) (fun c_567 => ?_) (fun c_567 => ?_)
              · refine lv_bipush (v := (-5)) hx hb dX6_lay_125 (by decide) ?_
                subst hQ
                exact W.iret (v := (-5)) hx hb hr (fun t ht hW => ⟨⟨(-5), (z, be, sts, sl, sv, pd, len, as, go, nd), rfl, ⟨by show _ = Prod.fst (_ : Int32 × KS); rw [m_lay, if_neg (fun h => h c_560), if_neg (fun h => h.1 c_561), (show (nI j).toNatClampNeg = j from nI_clamp (by omega)), (show laO z v0 j = f by rw [hf2, show i - 3 * (j / 3) = 3 by omega]; rfl), if_pos (Or.inr (Or.inl (by omega)))], by rw [m_lay, if_neg (fun h => h c_560), if_neg (fun h => h.1 c_561), (show (nI j).toNatClampNeg = j from nI_clamp (by omega)), (show laO z v0 j = f by rw [hf2, show i - 3 * (j / 3) = 3 by omega]; rfl), if_pos (Or.inr (Or.inl (by omega)))]; rfl⟩, by rw [ht]; exact hP, hD⟩, hS.F ht⟩) hS.2.2 dX6_lay_127
              · refine lv_aload_n hx hb dX6_lay_116 rfl (lv_at hl 4 rfl) ?_
                refine lv_iload hx hb dX6_lay_117 (lv_at hl 2 rfl) ?_
                have hPc : va_P G vwCl [(qm, .inr (6, [.ref qz, .ref qa, .ref qe, .int (nI sts), .ref qs, .ref qv, .ref qp, .int (nI len), .int go, .ref qn])), (qz, .inl (cI, 46, .inl z)), (qa, .inl (cI, 46, .inl as)), (qe, .inl (cI, 276, .inl be)), (qs, .inl (cI, 92, .inl sl)), (qv, .inl (cZ, 2, .inl sv)), (qp, .inl (cI, 60, .inl pd)), (qn, .inl (cI, 36, .inl nd))] s.heap := hP
                have hDc := hD.tt
                refine vp_callSi (va_Run.run (va_runV (As := [.int (rf (j / 3) v0)]) (rest := []) ⟨hx, hb, hml, hown, hts⟩ (c_X6_isFallen l G cI cC cZ cG s.heap.size qm qz qa qe qs qv qp qn z as be sl sv pd nd sts len go (rf (j / 3) v0) (by first | assumption | exact rf_okf _ (by omega))) (cf_RX6_71 hts ⟨Nat.le_of_ble_eq_true rfl, Nat.le_of_ble_eq_true rfl⟩) (pre_V hK hPc hDc (ci := 6) (q0 := 0) rfl rfl) rfl rfl hl.1 rfl (lv_room (Nat.le_of_ble_eq_true rfl)) dX6_lay_119 ⟨Nat.le_of_ble_eq_true rfl, Nat.le_of_ble_eq_true rfl⟩)) (fun r568 hr568 => ?_)
                subst hr568
                refine zb_eq (tgt := 128) hx hb dX6_lay_122 (by decide) (fun c_569 => ?_) (fun c_569 => ?_)
                · refine lv_aload_n hx hb dX6_lay_128 rfl (lv_at hl 4 rfl) ?_
                  have hPc : va_P G vwCl [(qm, .inr (6, [.ref qz, .ref qa, .ref qe, .int (nI sts), .ref qs, .ref qv, .ref qp, .int (nI len), .int go, .ref qn])), (qz, .inl (cI, 46, .inl z)), (qa, .inl (cI, 46, .inl as)), (qe, .inl (cI, 276, .inl be)), (qs, .inl (cI, 92, .inl sl)), (qv, .inl (cZ, 2, .inl sv)), (qp, .inl (cI, 60, .inl pd)), (qn, .inl (cI, 36, .inl nd))] s.heap := hP
                  have hDc := hD.tt
                  have hFc := va_free (wc := [(qm, .inr (6, [.ref qz, .ref qa, .ref qe, .int (nI sts), .ref qs, .ref qv, .ref qp, .int (nI len), .int go, .ref qn])), (qz, .inl (cI, 46, .inl z)), (qa, .inl (cI, 46, .inl as)), (qe, .inl (cI, 276, .inl be)), (qs, .inl (cI, 92, .inl sl)), (qv, .inl (cZ, 2, .inl sv)), (qp, .inl (cI, 60, .inl pd)), (qn, .inl (cI, 36, .inl nd))]) hD hS hA [0, 1, 2, 3, 4, 5, 6, 7] rfl
                  refine va_callv (va_runV (As := []) (rest := []) ⟨hx, hb, hml, hown, hts⟩ (c_X6_record l G cI cC cZ cG s.heap.size qm qz qa qe qs qv qp qn z as be sl sv pd nd sts len go hst) (cf_RX6_68 hts ⟨Nat.le_of_ble_eq_true rfl, Nat.le_of_ble_eq_true rfl⟩) (pre_V hK hPc hDc (ci := 6) (q0 := 0) rfl rfl) rfl rfl hl.1 rfl (lv_room (Nat.le_of_ble_eq_true rfl)) dX6_lay_129 ⟨Nat.le_of_ble_eq_true rfl, Nat.le_of_ble_eq_true rfl⟩) hS (fun q _ h => hFc q h) hFc (fun u570 t570 H570 locs570 ht570 hvm570 hw570 hB570 hz570 hk570 hS => ?_)
                  obtain ⟨q570, rfl⟩ : ∃ z, z = u570 := ⟨_, rfl⟩
                  obtain ⟨hP1, hD1⟩ := hB570
                  rw [ht570] at hP1
                  try dsimp only at hw570
                  obtain ⟨hP, hD⟩ := va_join (wr := []) (w1 := [(qm, .inr (6, [.ref qz, .ref qa, .ref qe, .int (nI (rcN sts)), .ref qs, .ref qv, .ref qp, .int (nI len), .int go, .ref qn])), (qz, .inl (cI, 46, .inl z)), (qa, .inl (cI, 46, .inl as)), (qe, .inl (cI, 276, .inl (rcB be z sts))), (qs, .inl (cI, 92, .inl sl)), (qv, .inl (cZ, 2, .inl sv)), (qp, .inl (cI, 60, .inl pd)), (qn, .inl (cI, 36, .inl nd))]) hP hD [0, 1, 2, 3, 4, 5, 6, 7] [] rfl rfl (by decide) (by decide) hk570 hFc hP1 hD1
                  have hP : va_P G vwCl [(qm, .inr (6, [.ref qz, .ref qa, .ref qe, .int (nI (rcN sts)), .ref qs, .ref qv, .ref qp, .int (nI len), .int go, .ref qn])), (qz, .inl (cI, 46, .inl z)), (qa, .inl (cI, 46, .inl as)), (qe, .inl (cI, 276, .inl (rcB be z sts))), (qs, .inl (cI, 92, .inl sl)), (qv, .inl (cZ, 2, .inl sv)), (qp, .inl (cI, 60, .inl pd)), (qn, .inl (cI, 36, .inl nd))] H570 := hP
                  have hD : va_D A [(qm, .inr (6, [.ref qz, .ref qa, .ref qe, .int (nI (rcN sts)), .ref qs, .ref qv, .ref qp, .int (nI len), .int go, .ref qn])), (qz, .inl (cI, 46, .inl z)), (qa, .inl (cI, 46, .inl as)), (qe, .inl (cI, 276, .inl (rcB be z sts))), (qs, .inl (cI, 92, .inl sl)), (qv, .inl (cZ, 2, .inl sv)), (qp, .inl (cI, 60, .inl pd)), (qn, .inl (cI, 36, .inl nd))] := hD
                  refine lv_aload_n hx hb dX6_lay_132 rfl (lv_at hl 4 rfl) ?_
                  refine va_get (D := G) (ci := 6) (v := .ref qz) (C := RX6) (T := TX6) (N := 10) hx hb hts inlX6 hown hK.1 hP 0 rfl rfl 0 (by decide) (hts _ wd78) (fun _ h9 => h9) rfl dX6_lay_133 ?_
                  refine lv_iload_n hx hb dX6_lay_136 rfl (lv_at hl 5 rfl) ?_
                  refine za_ld hx hb hK.1 hP 1 0 rfl rfl j rfl (by omega) (by decide) dX6_lay_137 ?_
                  refine lv_istore (lv' := [(6, .int (z j)), (5, .int (nI f)), (4, .int (rf (j / 3) v0)), (3, .int (nI (j / 3))), (0, .ref qm), (1, .int (nI j)), (2, .int v0)]) hx hb dX6_lay_138 hl (by decide) rfl (fun ls hl => ?_)
                  refine lv_aload_n hx hb dX6_lay_140 rfl (lv_at hl 4 rfl) ?_
                  refine va_get (D := G) (ci := 6) (v := .ref qz) (C := RX6) (T := TX6) (N := 10) hx hb hts inlX6 hown hK.1 hP 0 rfl rfl 0 (by decide) (hts _ wd78) (fun _ h9 => h9) rfl dX6_lay_141 ?_
                  refine lv_iload_n hx hb dX6_lay_144 rfl (lv_at hl 5 rfl) ?_
                  refine lv_iload_n hx hb dX6_lay_145 rfl (lv_at hl 6 rfl) ?_
                  refine za_st hx hb hK.1 hP hD hS 1 0 rfl rfl j rfl (by omega) (by decide) dX6_lay_146 (fun H571 locs571 hP hD hS => ?_)
                  have hP : va_P G vwCl [(qm, .inr (6, [.ref qz, .ref qa, .ref qe, .int (nI (rcN sts)), .ref qs, .ref qv, .ref qp, .int (nI len), .int go, .ref qn])), (qz, .inl (cI, 46, .inl (upd z j v0))), (qa, .inl (cI, 46, .inl as)), (qe, .inl (cI, 276, .inl (rcB be z sts))), (qs, .inl (cI, 92, .inl sl)), (qv, .inl (cZ, 2, .inl sv)), (qp, .inl (cI, 60, .inl pd)), (qn, .inl (cI, 36, .inl nd))] H571 := hP
                  have hD : va_D A [(qm, .inr (6, [.ref qz, .ref qa, .ref qe, .int (nI (rcN sts)), .ref qs, .ref qv, .ref qp, .int (nI len), .int go, .ref qn])), (qz, .inl (cI, 46, .inl (upd z j v0))), (qa, .inl (cI, 46, .inl as)), (qe, .inl (cI, 276, .inl (rcB be z sts))), (qs, .inl (cI, 92, .inl sl)), (qv, .inl (cZ, 2, .inl sv)), (qp, .inl (cI, 60, .inl pd)), (qn, .inl (cI, 36, .inl nd))] := hD
                  refine lv_aload_n hx hb dX6_lay_147 rfl (lv_at hl 4 rfl) ?_
                  have hPc : va_P G vwCl [(qm, .inr (6, [.ref qz, .ref qa, .ref qe, .int (nI (rcN sts)), .ref qs, .ref qv, .ref qp, .int (nI len), .int go, .ref qn])), (qz, .inl (cI, 46, .inl (upd z j v0))), (qa, .inl (cI, 46, .inl as)), (qe, .inl (cI, 276, .inl (rcB be z sts))), (qs, .inl (cI, 92, .inl sl)), (qv, .inl (cZ, 2, .inl sv)), (qp, .inl (cI, 60, .inl pd)), (qn, .inl (cI, 36, .inl nd))] H571 := hP
                  have hDc := hD.tt
                  have hFc := va_free (wc := [(qm, .inr (6, [.ref qz, .ref qa, .ref qe, .int (nI (rcN sts)), .ref qs, .ref qv, .ref qp, .int (nI len), .int go, .ref qn])), (qz, .inl (cI, 46, .inl (upd z j v0))), (qa, .inl (cI, 46, .inl as)), (qe, .inl (cI, 276, .inl (rcB be z sts))), (qs, .inl (cI, 92, .inl sl)), (qv, .inl (cZ, 2, .inl sv)), (qp, .inl (cI, 60, .inl pd)), (qn, .inl (cI, 36, .inl nd))]) hD hS hA [0, 1, 2, 3, 4, 5, 6, 7] rfl
                  refine va_callv (va_runV (As := []) (rest := []) ⟨hx, hb, hml, hown, hts⟩ (c_X6_lookAtBridges l G cI cC cZ cG H571.size qm qz qa qe qs qv qp qn (upd z j v0) as (rcB be z sts) sl sv pd nd (rcN sts) len go) (cf_RX6_94 hts ⟨Nat.le_of_ble_eq_true rfl, Nat.le_of_ble_eq_true rfl⟩) (pre_V hK hPc hDc (ci := 6) (q0 := 0) rfl rfl) rfl rfl hl.1 rfl (lv_room (Nat.le_of_ble_eq_true rfl)) dX6_lay_148 ⟨Nat.le_of_ble_eq_true rfl, Nat.le_of_ble_eq_true rfl⟩) hS (fun q _ h => hFc q h) hFc (fun u572 t572 H572 locs572 ht572 hvm572 hw572 hB572 hz572 hk572 hS => ?_)
                  obtain ⟨z572, rfl⟩ : ∃ z, z = u572 := ⟨_, rfl⟩
                  obtain ⟨hP1, hD1⟩ := hB572
                  rw [ht572] at hP1
                  try dsimp only at hw572
                  obtain ⟨hP, hD⟩ := va_join (wr := []) (w1 := [(qm, .inr (6, [.ref qz, .ref qa, .ref qe, .int (nI (rcN sts)), .ref qs, .ref qv, .ref qp, .int (nI len), .int go, .ref qn])), (qz, .inl (cI, 46, .inl z572)), (qa, .inl (cI, 46, .inl as)), (qe, .inl (cI, 276, .inl (rcB be z sts))), (qs, .inl (cI, 92, .inl sl)), (qv, .inl (cZ, 2, .inl sv)), (qp, .inl (cI, 60, .inl pd)), (qn, .inl (cI, 36, .inl nd))]) hP hD [0, 1, 2, 3, 4, 5, 6, 7] [] rfl rfl (by decide) (by decide) hk572 hFc hP1 hD1
                  have hP : va_P G vwCl [(qm, .inr (6, [.ref qz, .ref qa, .ref qe, .int (nI (rcN sts)), .ref qs, .ref qv, .ref qp, .int (nI len), .int go, .ref qn])), (qz, .inl (cI, 46, .inl z572)), (qa, .inl (cI, 46, .inl as)), (qe, .inl (cI, 276, .inl (rcB be z sts))), (qs, .inl (cI, 92, .inl sl)), (qv, .inl (cZ, 2, .inl sv)), (qp, .inl (cI, 60, .inl pd)), (qn, .inl (cI, 36, .inl nd))] H572 := hP
                  have hD : va_D A [(qm, .inr (6, [.ref qz, .ref qa, .ref qe, .int (nI (rcN sts)), .ref qs, .ref qv, .ref qp, .int (nI len), .int go, .ref qn])), (qz, .inl (cI, 46, .inl z572)), (qa, .inl (cI, 46, .inl as)), (qe, .inl (cI, 276, .inl (rcB be z sts))), (qs, .inl (cI, 92, .inl sl)), (qv, .inl (cZ, 2, .inl sv)), (qp, .inl (cI, 60, .inl pd)), (qn, .inl (cI, 36, .inl nd))] := hD
                  refine lv_iload hx hb dX6_lay_151 (lv_at hl 0 rfl) ?_
                  subst hQ
                  exact W.iret (v := z j) hx hb hr (fun t ht hW => ⟨⟨z j, (z572, (rcB be z sts), (rcN sts), sl, sv, pd, len, as, go, nd), rfl, ⟨by show _ = Prod.fst (_ : Int32 × KS); rw [m_lay, if_neg (fun h => h c_560), if_neg (fun h => h.1 c_561), (show (nI j).toNatClampNeg = j from nI_clamp (by omega)), (show laO z v0 j = f by rw [hf2, show i - 3 * (j / 3) = 3 by omega]; rfl), if_neg (fun h => h.elim c_566 (fun h => h.elim (fun h => absurd h (by omega)) c_569))], by rw [m_lay, if_neg (fun h => h c_560), if_neg (fun h => h.1 c_561), (show (nI j).toNatClampNeg = j from nI_clamp (by omega)), (show laO z v0 j = f by rw [hf2, show i - 3 * (j / 3) = 3 by omega]; rfl), if_neg (fun h => h.elim c_566 (fun h => h.elim (fun h => absurd h (by omega)) c_569))]; exact cor_eq hw572 rfl rfl rfl rfl rfl rfl⟩, by rw [ht]; exact hP, hD⟩, hS.F ht⟩) hS.2.2 dX6_lay_153
                · refine lv_bipush (v := (-5)) hx hb dX6_lay_125 (by decide) ?_
                  subst hQ
                  exact W.iret (v := (-5)) hx hb hr (fun t ht hW => ⟨⟨(-5), (z, be, sts, sl, sv, pd, len, as, go, nd), rfl, ⟨by show _ = Prod.fst (_ : Int32 × KS); rw [m_lay, if_neg (fun h => h c_560), if_neg (fun h => h.1 c_561), (show (nI j).toNatClampNeg = j from nI_clamp (by omega)), if_pos (Or.inr (Or.inr c_569))], by rw [m_lay, if_neg (fun h => h c_560), if_neg (fun h => h.1 c_561), (show (nI j).toNatClampNeg = j from nI_clamp (by omega)), if_pos (Or.inr (Or.inr c_569))]; rfl⟩, by rw [ht]; exact hP, hD⟩, hS.F ht⟩) hS.2.2 dX6_lay_127
          · refine lv_iload hx hb dX6_lay_57 (lv_at hl 1 rfl) ?_
            refine lv_iload hx hb dX6_lay_59 (lv_at hl 0 rfl) ?_
            refine lv_iload_n hx hb dX6_lay_61 rfl (lv_at hl 5 rfl) ?_
            refine zi_eq (tgt := 90) hx hb i j dX6_lay_62 (by decide) rfl rfl (by omega) (by omega) (fun c_573 => ?_) (fun c_573 => ?_)
            · refine lv_iconst (v := 0) hx hb dX6_lay_90 (by decide) ?_
              refine zi_add hx hb f 0 dX6_lay_91 rfl rfl ?_
              refine lv_istore (lv' := [(5, .int (nI (f + 0))), (6, .int (nI i)), (4, .int (rf (j / 3) v0)), (3, .int (nI (j / 3))), (0, .ref qm), (1, .int (nI j)), (2, .int v0)]) hx hb dX6_lay_92 hl (by decide) rfl (fun ls hl => ?_)
              refine lv_iinc (v := nI (i + 1)) (lv' := [(6, .int (nI (i + 1))), (5, .int (nI (f + 0))), (4, .int (rf (j / 3) v0)), (3, .int (nI (j / 3))), (0, .ref qm), (1, .int (nI j)), (2, .int v0)]) hx hb dX6_lay_94 hl (k := 1) rfl (nI_inc i) (by decide) rfl (fun ls hl => ?_)
              refine lv_goto (tgt := 47) hx hb dX6_lay_97 (by decide) ?_
              exact ih1 (i + 1) (f + 0) (by omega) (by omega) (by rw [hb3, Nat.add_zero, cnt_f (by rw [laP, hb2]; simp [c_564, c_573]), hf2]) (by omega) _ (lv_sub hl [0, 1, 2, 3, 4, 5, 6] rfl)
            · refine lv_aload_n hx hb dX6_lay_65 rfl (lv_at hl 4 rfl) ?_
              refine va_get (D := G) (ci := 6) (v := .ref qz) (C := RX6) (T := TX6) (N := 10) hx hb hts inlX6 hown hK.1 hP 0 rfl rfl 0 (by decide) (hts _ wd78) (fun _ h9 => h9) rfl dX6_lay_66 ?_
              refine lv_iload hx hb dX6_lay_69 (lv_at hl 0 rfl) ?_
              refine za_ld hx hb hK.1 hP 1 0 rfl rfl i rfl (by omega) (by decide) dX6_lay_71 ?_
              refine lv_iload_n hx hb dX6_lay_72 rfl (lv_at hl 6 rfl) ?_
              refine lv_icmp_ne (tgt := 90) hx hb dX6_lay_73 (by decide) (fun c_574 => ?_) (fun c_574 => ?_)
              · refine lv_iconst (v := 0) hx hb dX6_lay_90 (by decide) ?_
                refine zi_add hx hb f 0 dX6_lay_91 rfl rfl ?_
                refine lv_istore (lv' := [(5, .int (nI (f + 0))), (6, .int (nI i)), (4, .int (rf (j / 3) v0)), (3, .int (nI (j / 3))), (0, .ref qm), (1, .int (nI j)), (2, .int v0)]) hx hb dX6_lay_92 hl (by decide) rfl (fun ls hl => ?_)
                refine lv_iinc (v := nI (i + 1)) (lv' := [(6, .int (nI (i + 1))), (5, .int (nI (f + 0))), (4, .int (rf (j / 3) v0)), (3, .int (nI (j / 3))), (0, .ref qm), (1, .int (nI j)), (2, .int v0)]) hx hb dX6_lay_94 hl (k := 1) rfl (nI_inc i) (by decide) rfl (fun ls hl => ?_)
                refine lv_goto (tgt := 47) hx hb dX6_lay_97 (by decide) ?_
                exact ih1 (i + 1) (f + 0) (by omega) (by omega) (by rw [hb3, Nat.add_zero, cnt_f (by rw [laP, hb2]; simp [c_564, c_573, c_574]), hf2]) (by omega) _ (lv_sub hl [0, 1, 2, 3, 4, 5, 6] rfl)
              · refine lv_iload_n hx hb dX6_lay_76 rfl (lv_at hl 6 rfl) ?_
                refine lv_iconst (v := 0) hx hb dX6_lay_77 (by decide) ?_
                refine lv_bipush (v := 34) hx hb dX6_lay_78 (by decide) ?_
                refine vp_callSi (va_Run.run (va_runS (As := [.int v0, .int 0, .int 34]) (rest := [.int (nI f)]) ⟨hx, hb, hml, hown, hts⟩ (c_X6_in l v0 0 34) (cf_RX6_32 hts ⟨Nat.le_of_ble_eq_true rfl, Nat.le_of_ble_eq_true rfl⟩) pre_P rfl rfl hl.1 rfl (lv_room (Nat.le_of_ble_eq_true rfl)) dX6_lay_80 ⟨Nat.le_of_ble_eq_true rfl, Nat.le_of_ble_eq_true rfl⟩)) (fun r575 hr575 => ?_)
                subst hr575
                refine zb_eq (tgt := 90) hx hb dX6_lay_83 (by decide) (fun c_576 => ?_) (fun c_576 => ?_)
                · refine lv_iconst (v := 0) hx hb dX6_lay_90 (by decide) ?_
                  refine zi_add hx hb f 0 dX6_lay_91 rfl rfl ?_
                  refine lv_istore (lv' := [(5, .int (nI (f + 0))), (6, .int (nI i)), (4, .int (rf (j / 3) v0)), (3, .int (nI (j / 3))), (0, .ref qm), (1, .int (nI j)), (2, .int v0)]) hx hb dX6_lay_92 hl (by decide) rfl (fun ls hl => ?_)
                  refine lv_iinc (v := nI (i + 1)) (lv' := [(6, .int (nI (i + 1))), (5, .int (nI (f + 0))), (4, .int (rf (j / 3) v0)), (3, .int (nI (j / 3))), (0, .ref qm), (1, .int (nI j)), (2, .int v0)]) hx hb dX6_lay_94 hl (k := 1) rfl (nI_inc i) (by decide) rfl (fun ls hl => ?_)
                  refine lv_goto (tgt := 47) hx hb dX6_lay_97 (by decide) ?_
                  exact ih1 (i + 1) (f + 0) (by omega) (by omega) (by rw [hb3, Nat.add_zero, cnt_f (by rw [laP, hb2]; simp [c_564, c_573, c_574, c_576]), hf2]) (by omega) _ (lv_sub hl [0, 1, 2, 3, 4, 5, 6] rfl)
                · refine lv_iconst (v := 1) hx hb dX6_lay_86 (by decide) ?_
                  refine lv_goto (tgt := 91) hx hb dX6_lay_87 (by decide) ?_
                  refine zi_add hx hb f 1 dX6_lay_91 rfl rfl ?_
                  refine lv_istore (lv' := [(5, .int (nI (f + 1))), (6, .int (nI i)), (4, .int (rf (j / 3) v0)), (3, .int (nI (j / 3))), (0, .ref qm), (1, .int (nI j)), (2, .int v0)]) hx hb dX6_lay_92 hl (by decide) rfl (fun ls hl => ?_)
                  refine lv_iinc (v := nI (i + 1)) (lv' := [(6, .int (nI (i + 1))), (5, .int (nI (f + 1))), (4, .int (rf (j / 3) v0)), (3, .int (nI (j / 3))), (0, .ref qm), (1, .int (nI j)), (2, .int v0)]) hx hb dX6_lay_94 hl (k := 1) rfl (nI_inc i) (by decide) rfl (fun ls hl => ?_)
                  refine lv_goto (tgt := 47) hx hb dX6_lay_97 (by decide) ?_
                  exact ih1 (i + 1) (f + 1) (by omega) (by omega) (by rw [hb3, cnt_t (by rw [laP, hb2]; simp [c_564, c_573, c_574, c_576]), hf2]) (by omega) _ (lv_sub hl [0, 1, 2, 3, 4, 5, 6] rfl)
      exact L1 4 (3 * (j / 3)) 0 (Nat.le_refl _) (by omega) (by rw [Nat.sub_self]; rfl) (by omega) _ (lv_sub hl [0, 1, 2, 3, 4, 5, 6] rfl)
    · refine lv_iload_n hx hb dX6_lay_15 rfl (lv_at hl 2 rfl) ?_
      refine lv_iconst (v := 0) hx hb dX6_lay_16 (by decide) ?_
      refine lv_bipush (v := 35) hx hb dX6_lay_17 (by decide) ?_
      refine vp_callSi (va_Run.run (va_runS (As := [.int v0, .int 0, .int 35]) (rest := []) ⟨hx, hb, hml, hown, hts⟩ (c_X6_in l v0 0 35) (cf_RX6_32 hts ⟨Nat.le_of_ble_eq_true rfl, Nat.le_of_ble_eq_true rfl⟩) pre_P rfl rfl hl.1 rfl (lv_room (Nat.le_of_ble_eq_true rfl)) dX6_lay_19 ⟨Nat.le_of_ble_eq_true rfl, Nat.le_of_ble_eq_true rfl⟩)) (fun r577 hr577 => ?_)
      subst hr577
      refine zb_ne (tgt := 28) hx hb dX6_lay_22 (by decide) (fun c_578 => ?_) (fun c_578 => ?_)
      · refine lv_iload_n hx hb dX6_lay_28 rfl (lv_at hl 1 rfl) ?_
        refine lv_iconst (v := 3) hx hb dX6_lay_29 (by decide) ?_
        refine zi_div hx hb j 3 dX6_lay_30 rfl rfl (by omega) (by decide) (by decide) ?_
        refine lv_istore_n (lv' := [(3, .int (nI (j / 3))), (0, .ref qm), (1, .int (nI j)), (2, .int v0)]) hx hb dX6_lay_31 rfl hl (by decide) rfl (fun ls hl => ?_)
        refine lv_iload_n hx hb dX6_lay_32 rfl (lv_at hl 0 rfl) ?_
        refine lv_iload_n hx hb dX6_lay_33 rfl (lv_at hl 3 rfl) ?_
        refine vp_callSi (va_Run.run (va_runS (As := [.int (nI (j / 3)), .int v0]) (rest := []) ⟨hx, hb, hml, hown, hts⟩ (c_X6_fieldAt l (j / 3) v0 (by omega)) (cf_RX6_36 hts ⟨Nat.le_of_ble_eq_true rfl, Nat.le_of_ble_eq_true rfl⟩) pre_P rfl rfl hl.1 rfl (lv_room (Nat.le_of_ble_eq_true rfl)) dX6_lay_34 ⟨Nat.le_of_ble_eq_true rfl, Nat.le_of_ble_eq_true rfl⟩)) (fun r579 hr579 => ?_)
        subst hr579
        refine lv_istore (lv' := [(4, .int (rf (j / 3) v0)), (3, .int (nI (j / 3))), (0, .ref qm), (1, .int (nI j)), (2, .int v0)]) hx hb dX6_lay_37 hl (by decide) rfl (fun ls hl => ?_)
        refine lv_iconst (v := 0) hx hb dX6_lay_39 (by decide) ?_
        refine lv_istore (lv' := [(5, .int 0), (4, .int (rf (j / 3) v0)), (3, .int (nI (j / 3))), (0, .ref qm), (1, .int (nI j)), (2, .int v0)]) hx hb dX6_lay_40 hl (by decide) rfl (fun ls hl => ?_)
        refine lv_iconst (v := 3) hx hb dX6_lay_42 (by decide) ?_
        refine lv_iload_n hx hb dX6_lay_43 rfl (lv_at hl 2 rfl) ?_
        refine zi_mul hx hb 3 (j / 3) dX6_lay_44 rfl rfl ?_
        refine lv_istore (lv' := [(6, .int (nI (3 * (j / 3)))), (5, .int 0), (4, .int (rf (j / 3) v0)), (3, .int (nI (j / 3))), (0, .ref qm), (1, .int (nI j)), (2, .int v0)]) hx hb dX6_lay_45 hl (by decide) rfl (fun ls hl => ?_)
        have L2 : ∀ (n : Nat), ∀ (i : Nat), ∀ (f : Nat), ∀ (h0 : 3 * (j / 3) ≤ i), ∀ (hi : i ≤ 3 * (j / 3) + 3), ∀ (hf2 : f = cnt (laP z v0 j) (i - 3 * (j / 3))), ∀ (hn : 3 * (j / 3) + 4 ≤ i + n), ∀ (ls : Array Slot), lv_has ls 7 [(6, .int (nI i)), (5, .int (nI f)), (4, .int (rf (j / 3) v0)), (3, .int (nI (j / 3))), (0, .ref qm), (1, .int (nI j)), (2, .int v0)] → W p l e rm_X6_lay s m ag below meth c s.heap [] 0 0 Q (F0 m 47 ls []) := by
          intro n
          induction n with
          | zero =>
            intro i f h0 hi hf2 hn ls hl
            omega
          | succ n ih2 =>
            intro i f h0 hi hf2 hn ls hl
            have hb2 : 3 * (j / 3) + (i - 3 * (j / 3)) = i := by omega
            have hb3 : i + 1 - 3 * (j / 3) = (i - 3 * (j / 3)) + 1 := by omega
            have hfl : f ≤ 3 := by rw [hf2]; exact Nat.le_trans (cnt_le _ _) (by omega)
            refine lv_iload hx hb dX6_lay_47 (lv_at hl 0 rfl) ?_
            refine lv_iconst (v := 3) hx hb dX6_lay_49 (by decide) ?_
            refine lv_iload_n hx hb dX6_lay_50 rfl (lv_at hl 3 rfl) ?_
            refine zi_mul hx hb 3 (j / 3) dX6_lay_51 rfl rfl ?_
            refine lv_iconst (v := 3) hx hb dX6_lay_52 (by decide) ?_
            refine zi_add hx hb (3 * (j / 3)) 3 dX6_lay_53 rfl rfl ?_
            refine zi_ge (tgt := 100) hx hb i ((3 * (j / 3)) + 3) dX6_lay_54 (by decide) rfl rfl (by omega) (by omega) (fun c_581 => ?_) (fun c_581 => ?_)
            · refine lv_aload_n hx hb dX6_lay_100 rfl (lv_at hl 4 rfl) ?_
              refine lv_iload_n hx hb dX6_lay_101 rfl (lv_at hl 3 rfl) ?_
              refine lv_iload hx hb dX6_lay_102 (lv_at hl 2 rfl) ?_
              have hPc : va_P G vwCl [(qm, .inr (6, [.ref qz, .ref qa, .ref qe, .int (nI sts), .ref qs, .ref qv, .ref qp, .int (nI len), .int go, .ref qn])), (qz, .inl (cI, 46, .inl z)), (qa, .inl (cI, 46, .inl as)), (qe, .inl (cI, 276, .inl be)), (qs, .inl (cI, 92, .inl sl)), (qv, .inl (cZ, 2, .inl sv)), (qp, .inl (cI, 60, .inl pd)), (qn, .inl (cI, 36, .inl nd))] s.heap := hP
              have hDc := hD.tt
              refine vp_callSi (va_Run.run (va_runV (As := [.int (nI (j / 3)), .int (rf (j / 3) v0)]) (rest := []) ⟨hx, hb, hml, hown, hts⟩ (c_X6_otherOn l G cI cC cZ cG s.heap.size qm qz qa qe qs qv qp qn z as be sl sv pd nd sts len go (j / 3) (rf (j / 3) v0) (by omega)) (cf_RX6_91 hts ⟨Nat.le_of_ble_eq_true rfl, Nat.le_of_ble_eq_true rfl⟩) (pre_V hK hPc hDc (ci := 6) (q0 := 0) rfl rfl) rfl rfl hl.1 rfl (lv_room (Nat.le_of_ble_eq_true rfl)) dX6_lay_104 ⟨Nat.le_of_ble_eq_true rfl, Nat.le_of_ble_eq_true rfl⟩)) (fun r582 hr582 => ?_)
              subst hr582
              refine lv_if_ge (tgt := 125) hx hb dX6_lay_107 (by decide) (fun c_583 => ?_) (fun c_583 => ?_)
              · refine lv_bipush (v := (-5)) hx hb dX6_lay_125 (by decide) ?_
                subst hQ
                exact W.iret (v := (-5)) hx hb hr (fun t ht hW => ⟨⟨(-5), (z, be, sts, sl, sv, pd, len, as, go, nd), rfl, ⟨by show _ = Prod.fst (_ : Int32 × KS); rw [m_lay, if_neg (fun h => h c_560), if_neg (fun h => h.2 c_578), (show (nI j).toNatClampNeg = j from nI_clamp (by omega)), if_pos (Or.inl c_583)], by rw [m_lay, if_neg (fun h => h c_560), if_neg (fun h => h.2 c_578), (show (nI j).toNatClampNeg = j from nI_clamp (by omega)), if_pos (Or.inl c_583)]; rfl⟩, by rw [ht]; exact hP, hD⟩, hS.F ht⟩) hS.2.2 dX6_lay_127
              · refine lv_iload hx hb dX6_lay_110 (lv_at hl 1 rfl) ?_
                refine lv_iconst (v := 1) hx hb dX6_lay_112 (by decide) ?_
                refine zi_gt (tgt := 125) hx hb f 1 dX6_lay_113 (by decide) rfl rfl (by omega) (by decide) (fun c_584 => ?_) (fun c_584 => ?_)
                · refine lv_bipush (v := (-5)) hx hb dX6_lay_125 (by decide) ?_
                  subst hQ
                  exact W.iret (v := (-5)) hx hb hr (fun t ht hW => ⟨⟨(-5), (z, be, sts, sl, sv, pd, len, as, go, nd), rfl, ⟨by show _ = Prod.fst (_ : Int32 × KS); rw [m_lay, if_neg (fun h => h c_560), if_neg (fun h => h.2 c_578), (show (nI j).toNatClampNeg = j from nI_clamp (by omega)), (show laO z v0 j = f by rw [hf2, show i - 3 * (j / 3) = 3 by omega]; rfl), if_pos (Or.inr (Or.inl (by omega)))], by rw [m_lay, if_neg (fun h => h c_560), if_neg (fun h => h.2 c_578), (show (nI j).toNatClampNeg = j from nI_clamp (by omega)), (show laO z v0 j = f by rw [hf2, show i - 3 * (j / 3) = 3 by omega]; rfl), if_pos (Or.inr (Or.inl (by omega)))]; rfl⟩, by rw [ht]; exact hP, hD⟩, hS.F ht⟩) hS.2.2 dX6_lay_127
                · refine lv_aload_n hx hb dX6_lay_116 rfl (lv_at hl 4 rfl) ?_
                  refine lv_iload hx hb dX6_lay_117 (lv_at hl 2 rfl) ?_
                  have hPc : va_P G vwCl [(qm, .inr (6, [.ref qz, .ref qa, .ref qe, .int (nI sts), .ref qs, .ref qv, .ref qp, .int (nI len), .int go, .ref qn])), (qz, .inl (cI, 46, .inl z)), (qa, .inl (cI, 46, .inl as)), (qe, .inl (cI, 276, .inl be)), (qs, .inl (cI, 92, .inl sl)), (qv, .inl (cZ, 2, .inl sv)), (qp, .inl (cI, 60, .inl pd)), (qn, .inl (cI, 36, .inl nd))] s.heap := hP
                  have hDc := hD.tt
                  refine vp_callSi (va_Run.run (va_runV (As := [.int (rf (j / 3) v0)]) (rest := []) ⟨hx, hb, hml, hown, hts⟩ (c_X6_isFallen l G cI cC cZ cG s.heap.size qm qz qa qe qs qv qp qn z as be sl sv pd nd sts len go (rf (j / 3) v0) (by first | assumption | exact rf_okf _ (by omega))) (cf_RX6_71 hts ⟨Nat.le_of_ble_eq_true rfl, Nat.le_of_ble_eq_true rfl⟩) (pre_V hK hPc hDc (ci := 6) (q0 := 0) rfl rfl) rfl rfl hl.1 rfl (lv_room (Nat.le_of_ble_eq_true rfl)) dX6_lay_119 ⟨Nat.le_of_ble_eq_true rfl, Nat.le_of_ble_eq_true rfl⟩)) (fun r585 hr585 => ?_)
                  subst hr585
                  refine zb_eq (tgt := 128) hx hb dX6_lay_122 (by decide) (fun c_586 => ?_) (fun c_586 => ?_)
                  · refine lv_aload_n hx hb dX6_lay_128 rfl (lv_at hl 4 rfl) ?_
                    have hPc : va_P G vwCl [(qm, .inr (6, [.ref qz, .ref qa, .ref qe, .int (nI sts), .ref qs, .ref qv, .ref qp, .int (nI len), .int go, .ref qn])), (qz, .inl (cI, 46, .inl z)), (qa, .inl (cI, 46, .inl as)), (qe, .inl (cI, 276, .inl be)), (qs, .inl (cI, 92, .inl sl)), (qv, .inl (cZ, 2, .inl sv)), (qp, .inl (cI, 60, .inl pd)), (qn, .inl (cI, 36, .inl nd))] s.heap := hP
                    have hDc := hD.tt
                    have hFc := va_free (wc := [(qm, .inr (6, [.ref qz, .ref qa, .ref qe, .int (nI sts), .ref qs, .ref qv, .ref qp, .int (nI len), .int go, .ref qn])), (qz, .inl (cI, 46, .inl z)), (qa, .inl (cI, 46, .inl as)), (qe, .inl (cI, 276, .inl be)), (qs, .inl (cI, 92, .inl sl)), (qv, .inl (cZ, 2, .inl sv)), (qp, .inl (cI, 60, .inl pd)), (qn, .inl (cI, 36, .inl nd))]) hD hS hA [0, 1, 2, 3, 4, 5, 6, 7] rfl
                    refine va_callv (va_runV (As := []) (rest := []) ⟨hx, hb, hml, hown, hts⟩ (c_X6_record l G cI cC cZ cG s.heap.size qm qz qa qe qs qv qp qn z as be sl sv pd nd sts len go hst) (cf_RX6_68 hts ⟨Nat.le_of_ble_eq_true rfl, Nat.le_of_ble_eq_true rfl⟩) (pre_V hK hPc hDc (ci := 6) (q0 := 0) rfl rfl) rfl rfl hl.1 rfl (lv_room (Nat.le_of_ble_eq_true rfl)) dX6_lay_129 ⟨Nat.le_of_ble_eq_true rfl, Nat.le_of_ble_eq_true rfl⟩) hS (fun q _ h => hFc q h) hFc (fun u587 t587 H587 locs587 ht587 hvm587 hw587 hB587 hz587 hk587 hS => ?_)
                    obtain ⟨q587, rfl⟩ : ∃ z, z = u587 := ⟨_, rfl⟩
                    obtain ⟨hP1, hD1⟩ := hB587
                    rw [ht587] at hP1
                    try dsimp only at hw587
                    obtain ⟨hP, hD⟩ := va_join (wr := []) (w1 := [(qm, .inr (6, [.ref qz, .ref qa, .ref qe, .int (nI (rcN sts)), .ref qs, .ref qv, .ref qp, .int (nI len), .int go, .ref qn])), (qz, .inl (cI, 46, .inl z)), (qa, .inl (cI, 46, .inl as)), (qe, .inl (cI, 276, .inl (rcB be z sts))), (qs, .inl (cI, 92, .inl sl)), (qv, .inl (cZ, 2, .inl sv)), (qp, .inl (cI, 60, .inl pd)), (qn, .inl (cI, 36, .inl nd))]) hP hD [0, 1, 2, 3, 4, 5, 6, 7] [] rfl rfl (by decide) (by decide) hk587 hFc hP1 hD1
                    have hP : va_P G vwCl [(qm, .inr (6, [.ref qz, .ref qa, .ref qe, .int (nI (rcN sts)), .ref qs, .ref qv, .ref qp, .int (nI len), .int go, .ref qn])), (qz, .inl (cI, 46, .inl z)), (qa, .inl (cI, 46, .inl as)), (qe, .inl (cI, 276, .inl (rcB be z sts))), (qs, .inl (cI, 92, .inl sl)), (qv, .inl (cZ, 2, .inl sv)), (qp, .inl (cI, 60, .inl pd)), (qn, .inl (cI, 36, .inl nd))] H587 := hP
                    have hD : va_D A [(qm, .inr (6, [.ref qz, .ref qa, .ref qe, .int (nI (rcN sts)), .ref qs, .ref qv, .ref qp, .int (nI len), .int go, .ref qn])), (qz, .inl (cI, 46, .inl z)), (qa, .inl (cI, 46, .inl as)), (qe, .inl (cI, 276, .inl (rcB be z sts))), (qs, .inl (cI, 92, .inl sl)), (qv, .inl (cZ, 2, .inl sv)), (qp, .inl (cI, 60, .inl pd)), (qn, .inl (cI, 36, .inl nd))] := hD
                    refine lv_aload_n hx hb dX6_lay_132 rfl (lv_at hl 4 rfl) ?_
                    refine va_get (D := G) (ci := 6) (v := .ref qz) (C := RX6) (T := TX6) (N := 10) hx hb hts inlX6 hown hK.1 hP 0 rfl rfl 0 (by decide) (hts _ wd78) (fun _ h9 => h9) rfl dX6_lay_133 ?_
                    refine lv_iload_n hx hb dX6_lay_136 rfl (lv_at hl 5 rfl) ?_
                    refine za_ld hx hb hK.1 hP 1 0 rfl rfl j rfl (by omega) (by decide) dX6_lay_137 ?_
                    refine lv_istore (lv' := [(6, .int (z j)), (5, .int (nI f)), (4, .int (rf (j / 3) v0)), (3, .int (nI (j / 3))), (0, .ref qm), (1, .int (nI j)), (2, .int v0)]) hx hb dX6_lay_138 hl (by decide) rfl (fun ls hl => ?_)
                    refine lv_aload_n hx hb dX6_lay_140 rfl (lv_at hl 4 rfl) ?_
                    refine va_get (D := G) (ci := 6) (v := .ref qz) (C := RX6) (T := TX6) (N := 10) hx hb hts inlX6 hown hK.1 hP 0 rfl rfl 0 (by decide) (hts _ wd78) (fun _ h9 => h9) rfl dX6_lay_141 ?_
                    refine lv_iload_n hx hb dX6_lay_144 rfl (lv_at hl 5 rfl) ?_
                    refine lv_iload_n hx hb dX6_lay_145 rfl (lv_at hl 6 rfl) ?_
                    refine za_st hx hb hK.1 hP hD hS 1 0 rfl rfl j rfl (by omega) (by decide) dX6_lay_146 (fun H588 locs588 hP hD hS => ?_)
                    have hP : va_P G vwCl [(qm, .inr (6, [.ref qz, .ref qa, .ref qe, .int (nI (rcN sts)), .ref qs, .ref qv, .ref qp, .int (nI len), .int go, .ref qn])), (qz, .inl (cI, 46, .inl (upd z j v0))), (qa, .inl (cI, 46, .inl as)), (qe, .inl (cI, 276, .inl (rcB be z sts))), (qs, .inl (cI, 92, .inl sl)), (qv, .inl (cZ, 2, .inl sv)), (qp, .inl (cI, 60, .inl pd)), (qn, .inl (cI, 36, .inl nd))] H588 := hP
                    have hD : va_D A [(qm, .inr (6, [.ref qz, .ref qa, .ref qe, .int (nI (rcN sts)), .ref qs, .ref qv, .ref qp, .int (nI len), .int go, .ref qn])), (qz, .inl (cI, 46, .inl (upd z j v0))), (qa, .inl (cI, 46, .inl as)), (qe, .inl (cI, 276, .inl (rcB be z sts))), (qs, .inl (cI, 92, .inl sl)), (qv, .inl (cZ, 2, .inl sv)), (qp, .inl (cI, 60, .inl pd)), (qn, .inl (cI, 36, .inl nd))] := hD
                    refine lv_aload_n hx hb dX6_lay_147 rfl (lv_at hl 4 rfl) ?_
                    have hPc : va_P G vwCl [(qm, .inr (6, [.ref qz, .ref qa, .ref qe, .int (nI (rcN sts)), .ref qs, .ref qv, .ref qp, .int (nI len), .int go, .ref qn])), (qz, .inl (cI, 46, .inl (upd z j v0))), (qa, .inl (cI, 46, .inl as)), (qe, .inl (cI, 276, .inl (rcB be z sts))), (qs, .inl (cI, 92, .inl sl)), (qv, .inl (cZ, 2, .inl sv)), (qp, .inl (cI, 60, .inl pd)), (qn, .inl (cI, 36, .inl nd))] H588 := hP
                    have hDc := hD.tt
                    have hFc := va_free (wc := [(qm, .inr (6, [.ref qz, .ref qa, .ref qe, .int (nI (rcN sts)), .ref qs, .ref qv, .ref qp, .int (nI len), .int go, .ref qn])), (qz, .inl (cI, 46, .inl (upd z j v0))), (qa, .inl (cI, 46, .inl as)), (qe, .inl (cI, 276, .inl (rcB be z sts))), (qs, .inl (cI, 92, .inl sl)), (qv, .inl (cZ, 2, .inl sv)), (qp, .inl (cI, 60, .inl pd)), (qn, .inl (cI, 36, .inl nd))]) hD hS hA [0, 1, 2, 3, 4, 5, 6, 7] rfl
                    refine va_callv (va_runV (As := []) (rest := []) ⟨hx, hb, hml, hown, hts⟩ (c_X6_lookAtBridges l G cI cC cZ cG H588.size qm qz qa qe qs qv qp qn (upd z j v0) as (rcB be z sts) sl sv pd nd (rcN sts) len go) (cf_RX6_94 hts ⟨Nat.le_of_ble_eq_true rfl, Nat.le_of_ble_eq_true rfl⟩) (pre_V hK hPc hDc (ci := 6) (q0 := 0) rfl rfl) rfl rfl hl.1 rfl (lv_room (Nat.le_of_ble_eq_true rfl)) dX6_lay_148 ⟨Nat.le_of_ble_eq_true rfl, Nat.le_of_ble_eq_true rfl⟩) hS (fun q _ h => hFc q h) hFc (fun u589 t589 H589 locs589 ht589 hvm589 hw589 hB589 hz589 hk589 hS => ?_)
                    obtain ⟨z589, rfl⟩ : ∃ z, z = u589 := ⟨_, rfl⟩
                    obtain ⟨hP1, hD1⟩ := hB589
                    rw [ht589] at hP1
                    try dsimp only at hw589
                    obtain ⟨hP, hD⟩ := va_join (wr := []) (w1 := [(qm, .inr (6, [.ref qz, .ref qa, .ref qe, .int (nI (rcN sts)), .ref qs, .ref qv, .ref qp, .int (nI len), .int go, .ref qn])), (qz, .inl (cI, 46, .inl z589)), (qa, .inl (cI, 46, .inl as)), (qe, .inl (cI, 276, .inl (rcB be z sts))), (qs, .inl (cI, 92, .inl sl)), (qv, .inl (cZ, 2, .inl sv)), (qp, .inl (cI, 60, .inl pd)), (qn, .inl (cI, 36, .inl nd))]) hP hD [0, 1, 2, 3, 4, 5, 6, 7] [] rfl rfl (by decide) (by decide) hk589 hFc hP1 hD1
                    have hP : va_P G vwCl [(qm, .inr (6, [.ref qz, .ref qa, .ref qe, .int (nI (rcN sts)), .ref qs, .ref qv, .ref qp, .int (nI len), .int go, .ref qn])), (qz, .inl (cI, 46, .inl z589)), (qa, .inl (cI, 46, .inl as)), (qe, .inl (cI, 276, .inl (rcB be z sts))), (qs, .inl (cI, 92, .inl sl)), (qv, .inl (cZ, 2, .inl sv)), (qp, .inl (cI, 60, .inl pd)), (qn, .inl (cI, 36, .inl nd))] H589 := hP
                    have hD : va_D A [(qm, .inr (6, [.ref qz, .ref qa, .ref qe, .int (nI (rcN sts)), .ref qs, .ref qv, .ref qp, .int (nI len), .int go, .ref qn])), (qz, .inl (cI, 46, .inl z589)), (qa, .inl (cI, 46, .inl as)), (qe, .inl (cI, 276, .inl (rcB be z sts))), (qs, .inl (cI, 92, .inl sl)), (qv, .inl (cZ, 2, .inl sv)), (qp, .inl (cI, 60, .inl pd)), (qn, .inl (cI, 36, .inl nd))] := hD
                    refine lv_iload hx hb dX6_lay_151 (lv_at hl 0 rfl) ?_
                    subst hQ
                    exact W.iret (v := z j) hx hb hr (fun t ht hW => ⟨⟨z j, (z589, (rcB be z sts), (rcN sts), sl, sv, pd, len, as, go, nd), rfl, ⟨by show _ = Prod.fst (_ : Int32 × KS); rw [m_lay, if_neg (fun h => h c_560), if_neg (fun h => h.2 c_578), (show (nI j).toNatClampNeg = j from nI_clamp (by omega)), (show laO z v0 j = f by rw [hf2, show i - 3 * (j / 3) = 3 by omega]; rfl), if_neg (fun h => h.elim c_583 (fun h => h.elim (fun h => absurd h (by omega)) c_586))], by rw [m_lay, if_neg (fun h => h c_560), if_neg (fun h => h.2 c_578), (show (nI j).toNatClampNeg = j from nI_clamp (by omega)), (show laO z v0 j = f by rw [hf2, show i - 3 * (j / 3) = 3 by omega]; rfl), if_neg (fun h => h.elim c_583 (fun h => h.elim (fun h => absurd h (by omega)) c_586))]; exact cor_eq hw589 rfl rfl rfl rfl rfl rfl⟩, by rw [ht]; exact hP, hD⟩, hS.F ht⟩) hS.2.2 dX6_lay_153
                  · refine lv_bipush (v := (-5)) hx hb dX6_lay_125 (by decide) ?_
                    subst hQ
                    exact W.iret (v := (-5)) hx hb hr (fun t ht hW => ⟨⟨(-5), (z, be, sts, sl, sv, pd, len, as, go, nd), rfl, ⟨by show _ = Prod.fst (_ : Int32 × KS); rw [m_lay, if_neg (fun h => h c_560), if_neg (fun h => h.2 c_578), (show (nI j).toNatClampNeg = j from nI_clamp (by omega)), if_pos (Or.inr (Or.inr c_586))], by rw [m_lay, if_neg (fun h => h c_560), if_neg (fun h => h.2 c_578), (show (nI j).toNatClampNeg = j from nI_clamp (by omega)), if_pos (Or.inr (Or.inr c_586))]; rfl⟩, by rw [ht]; exact hP, hD⟩, hS.F ht⟩) hS.2.2 dX6_lay_127
            · refine lv_iload hx hb dX6_lay_57 (lv_at hl 1 rfl) ?_
              refine lv_iload hx hb dX6_lay_59 (lv_at hl 0 rfl) ?_
              refine lv_iload_n hx hb dX6_lay_61 rfl (lv_at hl 5 rfl) ?_
              refine zi_eq (tgt := 90) hx hb i j dX6_lay_62 (by decide) rfl rfl (by omega) (by omega) (fun c_590 => ?_) (fun c_590 => ?_)
              · refine lv_iconst (v := 0) hx hb dX6_lay_90 (by decide) ?_
                refine zi_add hx hb f 0 dX6_lay_91 rfl rfl ?_
                refine lv_istore (lv' := [(5, .int (nI (f + 0))), (6, .int (nI i)), (4, .int (rf (j / 3) v0)), (3, .int (nI (j / 3))), (0, .ref qm), (1, .int (nI j)), (2, .int v0)]) hx hb dX6_lay_92 hl (by decide) rfl (fun ls hl => ?_)
                refine lv_iinc (v := nI (i + 1)) (lv' := [(6, .int (nI (i + 1))), (5, .int (nI (f + 0))), (4, .int (rf (j / 3) v0)), (3, .int (nI (j / 3))), (0, .ref qm), (1, .int (nI j)), (2, .int v0)]) hx hb dX6_lay_94 hl (k := 1) rfl (nI_inc i) (by decide) rfl (fun ls hl => ?_)
                refine lv_goto (tgt := 47) hx hb dX6_lay_97 (by decide) ?_
                exact ih2 (i + 1) (f + 0) (by omega) (by omega) (by rw [hb3, Nat.add_zero, cnt_f (by rw [laP, hb2]; simp [c_581, c_590]), hf2]) (by omega) _ (lv_sub hl [0, 1, 2, 3, 4, 5, 6] rfl)
              · refine lv_aload_n hx hb dX6_lay_65 rfl (lv_at hl 4 rfl) ?_
                refine va_get (D := G) (ci := 6) (v := .ref qz) (C := RX6) (T := TX6) (N := 10) hx hb hts inlX6 hown hK.1 hP 0 rfl rfl 0 (by decide) (hts _ wd78) (fun _ h9 => h9) rfl dX6_lay_66 ?_
                refine lv_iload hx hb dX6_lay_69 (lv_at hl 0 rfl) ?_
                refine za_ld hx hb hK.1 hP 1 0 rfl rfl i rfl (by omega) (by decide) dX6_lay_71 ?_
                refine lv_iload_n hx hb dX6_lay_72 rfl (lv_at hl 6 rfl) ?_
                refine lv_icmp_ne (tgt := 90) hx hb dX6_lay_73 (by decide) (fun c_591 => ?_) (fun c_591 => ?_)
                · refine lv_iconst (v := 0) hx hb dX6_lay_90 (by decide) ?_
                  refine zi_add hx hb f 0 dX6_lay_91 rfl rfl ?_
                  refine lv_istore (lv' := [(5, .int (nI (f + 0))), (6, .int (nI i)), (4, .int (rf (j / 3) v0)), (3, .int (nI (j / 3))), (0, .ref qm), (1, .int (nI j)), (2, .int v0)]) hx hb dX6_lay_92 hl (by decide) rfl (fun ls hl => ?_)
                  refine lv_iinc (v := nI (i + 1)) (lv' := [(6, .int (nI (i + 1))), (5, .int (nI (f + 0))), (4, .int (rf (j / 3) v0)), (3, .int (nI (j / 3))), (0, .ref qm), (1, .int (nI j)), (2, .int v0)]) hx hb dX6_lay_94 hl (k := 1) rfl (nI_inc i) (by decide) rfl (fun ls hl => ?_)
                  refine lv_goto (tgt := 47) hx hb dX6_lay_97 (by decide) ?_
                  exact ih2 (i + 1) (f + 0) (by omega) (by omega) (by rw [hb3, Nat.add_zero, cnt_f (by rw [laP, hb2]; simp [c_581, c_590, c_591]), hf2]) (by omega) _ (lv_sub hl [0, 1, 2, 3, 4, 5, 6] rfl)
                · refine lv_iload_n hx hb dX6_lay_76 rfl (lv_at hl 6 rfl) ?_
                  refine lv_iconst (v := 0) hx hb dX6_lay_77 (by decide) ?_
                  refine lv_bipush (v := 34) hx hb dX6_lay_78 (by decide) ?_
                  refine vp_callSi (va_Run.run (va_runS (As := [.int v0, .int 0, .int 34]) (rest := [.int (nI f)]) ⟨hx, hb, hml, hown, hts⟩ (c_X6_in l v0 0 34) (cf_RX6_32 hts ⟨Nat.le_of_ble_eq_true rfl, Nat.le_of_ble_eq_true rfl⟩) pre_P rfl rfl hl.1 rfl (lv_room (Nat.le_of_ble_eq_true rfl)) dX6_lay_80 ⟨Nat.le_of_ble_eq_true rfl, Nat.le_of_ble_eq_true rfl⟩)) (fun r592 hr592 => ?_)
                  subst hr592
                  refine zb_eq (tgt := 90) hx hb dX6_lay_83 (by decide) (fun c_593 => ?_) (fun c_593 => ?_)
                  · refine lv_iconst (v := 0) hx hb dX6_lay_90 (by decide) ?_
                    refine zi_add hx hb f 0 dX6_lay_91 rfl rfl ?_
                    refine lv_istore (lv' := [(5, .int (nI (f + 0))), (6, .int (nI i)), (4, .int (rf (j / 3) v0)), (3, .int (nI (j / 3))), (0, .ref qm), (1, .int (nI j)), (2, .int v0)]) hx hb dX6_lay_92 hl (by decide) rfl (fun ls hl => ?_)
                    refine lv_iinc (v := nI (i + 1)) (lv' := [(6, .int (nI (i + 1))), (5, .int (nI (f + 0))), (4, .int (rf (j / 3) v0)), (3, .int (nI (j / 3))), (0, .ref qm), (1, .int (nI j)), (2, .int v0)]) hx hb dX6_lay_94 hl (k := 1) rfl (nI_inc i) (by decide) rfl (fun ls hl => ?_)
                    refine lv_goto (tgt := 47) hx hb dX6_lay_97 (by decide) ?_
                    exact ih2 (i + 1) (f + 0) (by omega) (by omega) (by rw [hb3, Nat.add_zero, cnt_f (by rw [laP, hb2]; simp [c_581, c_590, c_591, c_593]), hf2]) (by omega) _ (lv_sub hl [0, 1, 2, 3, 4, 5, 6] rfl)
                  · refine lv_iconst (v := 1) hx hb dX6_lay_86 (by decide) ?_
                    refine lv_goto (tgt := 91) hx hb dX6_lay_87 (by decide) ?_
                    refine zi_add hx hb f 1 dX6_lay_91 rfl rfl ?_
                    refine lv_istore (lv' := [(5, .int (nI (f + 1))), (6, .int (nI i)), (4, .int (rf (j / 3) v0)), (3, .int (nI (j / 3))), (0, .ref qm), (1, .int (nI j)), (2, .int v0)]) hx hb dX6_lay_92 hl (by decide) rfl (fun ls hl => ?_)
                    refine lv_iinc (v := nI (i + 1)) (lv' := [(6, .int (nI (i + 1))), (5, .int (nI (f + 1))), (4, .int (rf (j / 3) v0)), (3, .int (nI (j / 3))), (0, .ref qm), (1, .int (nI j)), (2, .int v0)]) hx hb dX6_lay_94 hl (k := 1) rfl (nI_inc i) (by decide) rfl (fun ls hl => ?_)
                    refine lv_goto (tgt := 47) hx hb dX6_lay_97 (by decide) ?_
                    exact ih2 (i + 1) (f + 1) (by omega) (by omega) (by rw [hb3, cnt_t (by rw [laP, hb2]; simp [c_581, c_590, c_591, c_593]), hf2]) (by omega) _ (lv_sub hl [0, 1, 2, 3, 4, 5, 6] rfl)
        exact L2 4 (3 * (j / 3)) 0 (Nat.le_refl _) (by omega) (by rw [Nat.sub_self]; rfl) (by omega) _ (lv_sub hl [0, 1, 2, 3, 4, 5, 6] rfl)
      · refine lv_bipush (v := (-2)) hx hb dX6_lay_25 (by decide) ?_
        subst hQ
        exact W.iret (v := (-2)) hx hb hr (fun t ht hW => ⟨⟨(-2), (z, be, sts, sl, sv, pd, len, as, go, nd), rfl, ⟨by show _ = Prod.fst (_ : Int32 × KS); rw [m_lay, if_neg (fun h => h c_560), if_pos ⟨c_561, c_578⟩], by rw [m_lay, if_neg (fun h => h c_560), if_pos ⟨c_561, c_578⟩]; rfl⟩, by rw [ht]; exact hP, hD⟩, hS.F ht⟩) hS.2.2 dX6_lay_27
  · refine lv_iconst (v := (-1)) hx hb dX6_lay_7 (by decide) ?_
    subst hQ
    exact W.iret (v := (-1)) hx hb hr (fun t ht hW => ⟨⟨(-1), (z, be, sts, sl, sv, pd, len, as, go, nd), rfl, ⟨by show _ = Prod.fst (_ : Int32 × KS); rw [m_lay, if_pos c_560], by rw [m_lay, if_pos c_560]; rfl⟩, by rw [ht]; exact hP, hD⟩, hS.F ht⟩) hS.2.2 dX6_lay_8

abbrev rm_X6_piece : Room := { frames := 4, cells := 0, slots := 0, locals := 88 }
set_option maxHeartbeats 1000000 in
set_option maxRecDepth 100000 in
theorem c_X6_piece (l : Launch) (G : va_G) (cI cC cZ cG : ClassId) (sz : Nat) (qm qz qa qe qs qv qp qn : Nat) (z as be sl sv pd nd : IA) (sts len : Nat) (go : Int32) (k0 w0 : Int32) : Met l yX6_piece (.code yX6_piece cX6_piece 3 (some .int) :: wsL_law) rm_X6_piece (va_Pc [.ref qm, .int k0, .int w0] (bw G cI cC cZ cG false sz [(qm, .inr (6, [.ref qz, .ref qa, .ref qe, .int (nI sts), .ref qs, .ref qv, .ref qp, .int (nI len), .int go, .ref qn])), (qz, .inl (cI, 46, .inl z)), (qa, .inl (cI, 46, .inl as)), (qe, .inl (cI, 276, .inl be)), (qs, .inl (cI, 92, .inl sl)), (qv, .inl (cZ, 2, .inl sv)), (qp, .inl (cI, 60, .inl pd)), (qn, .inl (cI, 36, .inl nd))])) (vp_Si (fun r => r = m_piece k0 w0 z)) 0 0 (fun _ => False) := by
  refine met_bw rfl (Nat.le_of_ble_eq_true rfl) ?_
  intro p e s m below meth c ls hx hb hr hml hown hts hlocks hin hsz hP hK hD0 hX0 hl
  have hown : s.vm.findClass RX6 = some m.cls := hown
  have hl : lv_has ls 3 [(0, .ref qm), (1, .int k0), (2, .int w0)] := hl
  refine lv_iload_n hx hb dX6_piece_0 rfl (lv_at hl 1 rfl) ?_
  refine vp_callSi (va_Run.run (va_runS (As := [.int k0]) (rest := []) ⟨hx, hb, hml, hown, hts⟩ (c_X6_isPiece l k0) (cf_RX6_146 hts ⟨Nat.le_of_ble_eq_true rfl, Nat.le_of_ble_eq_true rfl⟩) pre_P rfl rfl hl.1 rfl (lv_room (Nat.le_of_ble_eq_true rfl)) dX6_piece_1 ⟨Nat.le_of_ble_eq_true rfl, Nat.le_of_ble_eq_true rfl⟩)) (fun r594 hr594 => ?_)
  subst hr594
  refine zb_ne (tgt := 9) hx hb dX6_piece_4 (by decide) (fun c_595 => ?_) (fun c_595 => ?_)
  · obtain ⟨j, hj0, hj, rfl⟩ := inQ_nI (lo := 0) (hi := 11) (by decide) (by decide) c_595
    refine lv_iload_n hx hb dX6_piece_9 rfl (lv_at hl 2 rfl) ?_
    rcases sw_cases2 0 3 w0 with hsw596 | ⟨j596, hg596, hj596, hsw596⟩
    · refine lv_tableOut (tgt := 85) hx hb dX6_piece_10 hsw596 (by decide) ?_
      refine lv_bipush (v := (-2)) hx hb dX6_piece_85 (by decide) ?_
      exact W.iret (v := (-2)) hx hb hr (fun t ht hW => ⟨(-2), rfl, by rw [m_piece, if_neg (fun h => h c_595), (show (nI j).toNatClampNeg = j from nI_clamp (by omega)), if_neg (show ¬ w0 = 0 from sw_ne hsw596 (by decide)), if_neg (show ¬ w0 = 1 from sw_ne hsw596 (by decide)), if_neg (show ¬ w0 = 2 from sw_ne hsw596 (by decide)), if_neg (show ¬ w0 = 3 from sw_ne hsw596 (by decide))], ht⟩) (fun _ h => absurd h List.not_mem_nil) dX6_piece_87
    · rcases (show j596 = 0 ∨ j596 = 1 ∨ j596 = 2 ∨ j596 = 3 by omega) with rfl | rfl | rfl | rfl
      · refine lv_tableIn (off := 30) (tgt := 40) hx hb dX6_piece_10 (by rw [hsw596]; decide) (by rw [hsw596]; decide) (by rw [hsw596]; rfl) (by decide) ?_
        refine lv_aload_n hx hb dX6_piece_40 rfl (lv_at hl 0 rfl) ?_
        refine va_get (D := G) (ci := 6) (v := .ref qz) (C := RX6) (T := TX6) (N := 10) hx hb hts inlX6 hown hK.1 hP 0 rfl rfl 0 (by decide) (hts _ wd78) (fun _ h9 => h9) rfl dX6_piece_41 ?_
        refine lv_iload_n hx hb dX6_piece_44 rfl (lv_at hl 1 rfl) ?_
        refine za_ld hx hb hK.1 hP 1 0 rfl rfl j rfl (by omega) (by decide) dX6_piece_45 ?_
        exact W.iret (v := z j) hx hb hr (fun t ht hW => ⟨z j, rfl, by rw [m_piece, if_neg (fun h => h c_595), (show (nI j).toNatClampNeg = j from nI_clamp (by omega)), if_pos (show w0 = 0 from hsw596)], ht⟩) (fun _ h => absurd h List.not_mem_nil) dX6_piece_46
      · refine lv_tableIn (off := 37) (tgt := 47) hx hb dX6_piece_10 (by rw [hsw596]; decide) (by rw [hsw596]; decide) (by rw [hsw596]; rfl) (by decide) ?_
        refine lv_aload_n hx hb dX6_piece_47 rfl (lv_at hl 0 rfl) ?_
        refine lv_iload_n hx hb dX6_piece_48 rfl (lv_at hl 1 rfl) ?_
        have hPc : va_P G vwCl [(qm, .inr (6, [.ref qz, .ref qa, .ref qe, .int (nI sts), .ref qs, .ref qv, .ref qp, .int (nI len), .int go, .ref qn])), (qz, .inl (cI, 46, .inl z)), (qa, .inl (cI, 46, .inl as)), (qe, .inl (cI, 276, .inl be)), (qs, .inl (cI, 92, .inl sl)), (qv, .inl (cZ, 2, .inl sv)), (qp, .inl (cI, 60, .inl pd)), (qn, .inl (cI, 36, .inl nd))] s.heap := hP
        have hDc := hD0
        refine vp_callSi (va_Run.run (va_runV (As := [.int (nI j)]) (rest := []) ⟨hx, hb, hml, hown, hts⟩ (c_X6_fieldOf l G cI cC cZ cG s.heap.size qm qz qa qe qs qv qp qn z as be sl sv pd nd sts len go j (by omega)) (cf_RX6_44 hts ⟨Nat.le_of_ble_eq_true rfl, Nat.le_of_ble_eq_true rfl⟩) (pre_V hK hPc hDc (ci := 6) (q0 := 0) rfl rfl) rfl rfl hl.1 rfl (lv_room (Nat.le_of_ble_eq_true rfl)) dX6_piece_49 ⟨Nat.le_of_ble_eq_true rfl, Nat.le_of_ble_eq_true rfl⟩)) (fun r597 hr597 => ?_)
        subst hr597
        exact W.iret (v := rf (j / 3) (z j)) hx hb hr (fun t ht hW => ⟨rf (j / 3) (z j), rfl, by rw [m_piece, if_neg (fun h => h c_595), (show (nI j).toNatClampNeg = j from nI_clamp (by omega)), if_neg (show ¬ w0 = 0 by rw [hsw596]; decide), if_pos (show w0 = 1 from hsw596)], ht⟩) (fun _ h => absurd h List.not_mem_nil) dX6_piece_52
      · refine lv_tableIn (off := 43) (tgt := 53) hx hb dX6_piece_10 (by rw [hsw596]; decide) (by rw [hsw596]; decide) (by rw [hsw596]; rfl) (by decide) ?_
        refine lv_aload_n hx hb dX6_piece_53 rfl (lv_at hl 0 rfl) ?_
        refine lv_iload_n hx hb dX6_piece_54 rfl (lv_at hl 1 rfl) ?_
        refine lv_iconst (v := 3) hx hb dX6_piece_55 (by decide) ?_
        refine zi_div hx hb j 3 dX6_piece_56 rfl rfl (by omega) (by decide) (by decide) ?_
        refine lv_aload_n hx hb dX6_piece_57 rfl (lv_at hl 0 rfl) ?_
        refine lv_iload_n hx hb dX6_piece_58 rfl (lv_at hl 1 rfl) ?_
        have hPc : va_P G vwCl [(qm, .inr (6, [.ref qz, .ref qa, .ref qe, .int (nI sts), .ref qs, .ref qv, .ref qp, .int (nI len), .int go, .ref qn])), (qz, .inl (cI, 46, .inl z)), (qa, .inl (cI, 46, .inl as)), (qe, .inl (cI, 276, .inl be)), (qs, .inl (cI, 92, .inl sl)), (qv, .inl (cZ, 2, .inl sv)), (qp, .inl (cI, 60, .inl pd)), (qn, .inl (cI, 36, .inl nd))] s.heap := hP
        have hDc := hD0
        refine vp_callSi (va_Run.run (va_runV (As := [.int (nI j)]) (rest := [.int (nI (j / 3)), .ref qm]) ⟨hx, hb, hml, hown, hts⟩ (c_X6_fieldOf l G cI cC cZ cG s.heap.size qm qz qa qe qs qv qp qn z as be sl sv pd nd sts len go j (by omega)) (cf_RX6_44 hts ⟨Nat.le_of_ble_eq_true rfl, Nat.le_of_ble_eq_true rfl⟩) (pre_V hK hPc hDc (ci := 6) (q0 := 0) rfl rfl) rfl rfl hl.1 rfl (lv_room (Nat.le_of_ble_eq_true rfl)) dX6_piece_59 ⟨Nat.le_of_ble_eq_true rfl, Nat.le_of_ble_eq_true rfl⟩)) (fun r598 hr598 => ?_)
        subst hr598
        have hPc : va_P G vwCl [(qm, .inr (6, [.ref qz, .ref qa, .ref qe, .int (nI sts), .ref qs, .ref qv, .ref qp, .int (nI len), .int go, .ref qn])), (qz, .inl (cI, 46, .inl z)), (qa, .inl (cI, 46, .inl as)), (qe, .inl (cI, 276, .inl be)), (qs, .inl (cI, 92, .inl sl)), (qv, .inl (cZ, 2, .inl sv)), (qp, .inl (cI, 60, .inl pd)), (qn, .inl (cI, 36, .inl nd))] s.heap := hP
        have hDc := hD0
        refine vp_callSi (va_Run.run (va_runV (As := [.int (nI (j / 3)), .int (rf (j / 3) (z j))]) (rest := []) ⟨hx, hb, hml, hown, hts⟩ (c_X6_piecesOn l G cI cC cZ cG s.heap.size qm qz qa qe qs qv qp qn z as be sl sv pd nd sts len go (j / 3) (rf (j / 3) (z j)) (by omega)) (cf_RX6_48 hts ⟨Nat.le_of_ble_eq_true rfl, Nat.le_of_ble_eq_true rfl⟩) (pre_V hK hPc hDc (ci := 6) (q0 := 0) rfl rfl) rfl rfl hl.1 rfl (lv_room (Nat.le_of_ble_eq_true rfl)) dX6_piece_62 ⟨Nat.le_of_ble_eq_true rfl, Nat.le_of_ble_eq_true rfl⟩)) (fun r599 hr599 => ?_)
        subst hr599
        have hf600 := (@mpc_le z (j / 3) (rf (j / 3) (z j)))
        refine lv_iconst (v := 1) hx hb dX6_piece_65 (by decide) ?_
        refine zi_le (tgt := 73) hx hb (mpc z (j / 3) (rf (j / 3) (z j))) 1 dX6_piece_66 (by decide) rfl rfl (by omega) (by decide) (fun c_601 => ?_) (fun c_601 => ?_)
        · refine lv_iconst (v := 0) hx hb dX6_piece_73 (by decide) ?_
          exact W.iret (v := 0) hx hb hr (fun t ht hW => ⟨0, rfl, by rw [m_piece, if_neg (fun h => h c_595), (show (nI j).toNatClampNeg = j from nI_clamp (by omega)), if_neg (show ¬ w0 = 0 by rw [hsw596]; decide), if_neg (show ¬ w0 = 1 by rw [hsw596]; decide), if_pos (show w0 = 2 from hsw596), if_neg (by omega)], ht⟩) (fun _ h => absurd h List.not_mem_nil) dX6_piece_74
        · refine lv_iconst (v := 1) hx hb dX6_piece_69 (by decide) ?_
          refine lv_goto (tgt := 74) hx hb dX6_piece_70 (by decide) ?_
          exact W.iret (v := 1) hx hb hr (fun t ht hW => ⟨1, rfl, by rw [m_piece, if_neg (fun h => h c_595), (show (nI j).toNatClampNeg = j from nI_clamp (by omega)), if_neg (show ¬ w0 = 0 by rw [hsw596]; decide), if_neg (show ¬ w0 = 1 by rw [hsw596]; decide), if_pos (show w0 = 2 from hsw596), if_pos c_601], ht⟩) (fun _ h => absurd h List.not_mem_nil) dX6_piece_74
      · refine lv_tableIn (off := 65) (tgt := 75) hx hb dX6_piece_10 (by rw [hsw596]; decide) (by rw [hsw596]; decide) (by rw [hsw596]; rfl) (by decide) ?_
        refine lv_aload_n hx hb dX6_piece_75 rfl (lv_at hl 0 rfl) ?_
        refine va_get (D := G) (ci := 6) (v := .ref qz) (C := RX6) (T := TX6) (N := 10) hx hb hts inlX6 hown hK.1 hP 0 rfl rfl 0 (by decide) (hts _ wd78) (fun _ h9 => h9) rfl dX6_piece_76 ?_
        refine lv_bipush (v := 12) hx hb dX6_piece_79 (by decide) ?_
        refine lv_iload_n hx hb dX6_piece_81 rfl (lv_at hl 1 rfl) ?_
        refine zi_add hx hb 12 j dX6_piece_82 rfl rfl ?_
        refine za_ld hx hb hK.1 hP 1 0 rfl rfl (12 + j) rfl (by omega) (by decide) dX6_piece_83 ?_
        exact W.iret (v := z (12 + j)) hx hb hr (fun t ht hW => ⟨z (12 + j), rfl, by rw [m_piece, if_neg (fun h => h c_595), (show (nI j).toNatClampNeg = j from nI_clamp (by omega)), if_neg (show ¬ w0 = 0 by rw [hsw596]; decide), if_neg (show ¬ w0 = 1 by rw [hsw596]; decide), if_neg (show ¬ w0 = 2 by rw [hsw596]; decide), if_pos (show w0 = 3 from hsw596)], ht⟩) (fun _ h => absurd h List.not_mem_nil) dX6_piece_84
  · refine lv_iconst (v := (-1)) hx hb dX6_piece_7 (by decide) ?_
    exact W.iret (v := (-1)) hx hb hr (fun t ht hW => ⟨(-1), rfl, by rw [m_piece, if_pos c_595], ht⟩) (fun _ h => absurd h List.not_mem_nil) dX6_piece_8

abbrev rm_X6_field : Room := { frames := 5, cells := 0, slots := 0, locals := 111 }
theorem cf_RX6_149 {R : Room} {s : State} {args : Array Value} (ht : ∀ w ∈ wsL_law, w.before args s = true) (hR : rm_X6_lowestOn.frames + 1 ≤ R.frames ∧ 8 + (4 + 11) + rm_X6_lowestOn.locals ≤ R.locals) : CallW R s args RX6 RX6 149 yX6_lowestOn cX6_lowestOn 4 (some .int) (.code yX6_lowestOn cX6_lowestOn 4 (some .int) :: wsL_law) rm_X6_lowestOn 0 0 1 := ⟨cw_B 1 ht wd460 wd5 wd463 (by decide +kernel) rfl rfl hR, ht _ wd461, ht _ wd462⟩
theorem cf_RX6_152 {R : Room} {s : State} {args : Array Value} (ht : ∀ w ∈ wsL_law, w.before args s = true) (hR : rm_X6_bridgeOn.frames + 1 ≤ R.frames ∧ 8 + (3 + 11) + rm_X6_bridgeOn.locals ≤ R.locals) : CallW R s args RX6 RX6 152 yX6_bridgeOn cX6_bridgeOn 3 (some .int) (.code yX6_bridgeOn cX6_bridgeOn 3 (some .int) :: wsL_law) rm_X6_bridgeOn 0 0 1 := ⟨cw_B 1 ht wd464 wd5 wd467 (by decide +kernel) rfl rfl hR, ht _ wd465, ht _ wd466⟩
theorem cf_RX6_155 {R : Room} {s : State} {args : Array Value} (ht : ∀ w ∈ wsL_law, w.before args s = true) (hR : rm_X6_mendedIn.frames + 1 ≤ R.frames ∧ 8 + (3 + 11) + rm_X6_mendedIn.locals ≤ R.locals) : CallW R s args RX6 RX6 155 yX6_mendedIn cX6_mendedIn 3 (some .int) (.code yX6_mendedIn cX6_mendedIn 3 (some .int) :: wsL_law) rm_X6_mendedIn 0 0 1 := ⟨cw_B 1 ht wd468 wd5 wd471 (by decide +kernel) rfl rfl hR, ht _ wd469, ht _ wd470⟩
set_option maxHeartbeats 1000000 in
set_option maxRecDepth 100000 in
theorem c_X6_field (l : Launch) (G : va_G) (cI cC cZ cG : ClassId) (sz : Nat) (qm qz qa qe qs qv qp qn : Nat) (z as be sl sv pd nd : IA) (sts len : Nat) (go : Int32) (k0 w0 : Int32) : Met l yX6_field (.code yX6_field cX6_field 3 (some .int) :: wsL_law) rm_X6_field (va_Pc [.ref qm, .int k0, .int w0] (bw G cI cC cZ cG false sz [(qm, .inr (6, [.ref qz, .ref qa, .ref qe, .int (nI sts), .ref qs, .ref qv, .ref qp, .int (nI len), .int go, .ref qn])), (qz, .inl (cI, 46, .inl z)), (qa, .inl (cI, 46, .inl as)), (qe, .inl (cI, 276, .inl be)), (qs, .inl (cI, 92, .inl sl)), (qv, .inl (cZ, 2, .inl sv)), (qp, .inl (cI, 60, .inl pd)), (qn, .inl (cI, 36, .inl nd))])) (vp_Si (fun r => r = m_field k0 w0 z)) 0 0 (fun _ => False) := by
  refine met_bw rfl (Nat.le_of_ble_eq_true rfl) ?_
  intro p e s m below meth c ls hx hb hr hml hown hts hlocks hin hsz hP hK hD0 hX0 hl
  have hown : s.vm.findClass RX6 = some m.cls := hown
  have hl : lv_has ls 3 [(0, .ref qm), (1, .int k0), (2, .int w0)] := hl
  refine lv_iload_n hx hb dX6_field_0 rfl (lv_at hl 1 rfl) ?_
  refine lv_iconst (v := 0) hx hb dX6_field_1 (by decide) ?_
  refine lv_bipush (v := 31) hx hb dX6_field_2 (by decide) ?_
  refine vp_callSi (va_Run.run (va_runS (As := [.int k0, .int 0, .int 31]) (rest := []) ⟨hx, hb, hml, hown, hts⟩ (c_X6_in l k0 0 31) (cf_RX6_32 hts ⟨Nat.le_of_ble_eq_true rfl, Nat.le_of_ble_eq_true rfl⟩) pre_P rfl rfl hl.1 rfl (lv_room (Nat.le_of_ble_eq_true rfl)) dX6_field_4 ⟨Nat.le_of_ble_eq_true rfl, Nat.le_of_ble_eq_true rfl⟩)) (fun r602 hr602 => ?_)
  subst hr602
  refine zb_ne (tgt := 12) hx hb dX6_field_7 (by decide) (fun c_603 => ?_) (fun c_603 => ?_)
  · obtain ⟨j, hj0, hj, rfl⟩ := inQ_nI (lo := 0) (hi := 31) (by decide) (by decide) c_603
    refine lv_iload_n hx hb dX6_field_12 rfl (lv_at hl 2 rfl) ?_
    rcases sw_cases2 0 4 w0 with hsw604 | ⟨j604, hg604, hj604, hsw604⟩
    · refine lv_tableOut (tgt := 85) hx hb dX6_field_13 hsw604 (by decide) ?_
      refine lv_bipush (v := (-2)) hx hb dX6_field_85 (by decide) ?_
      exact W.iret (v := (-2)) hx hb hr (fun t ht hW => ⟨(-2), rfl, by rw [m_field, if_neg (fun h => h c_603), (show (nI j).toNatClampNeg = j from nI_clamp (by omega)), if_neg (show ¬ w0 = 0 from sw_ne hsw604 (by decide)), if_neg (show ¬ w0 = 1 from sw_ne hsw604 (by decide)), if_neg (show ¬ w0 = 2 from sw_ne hsw604 (by decide)), if_neg (show ¬ w0 = 3 from sw_ne hsw604 (by decide)), if_neg (show ¬ w0 = 4 from sw_ne hsw604 (by decide))], ht⟩) (fun _ h => absurd h List.not_mem_nil) dX6_field_87
    · rcases (show j604 = 0 ∨ j604 = 1 ∨ j604 = 2 ∨ j604 = 3 ∨ j604 = 4 by omega) with rfl | rfl | rfl | rfl | rfl
      · refine lv_tableIn (off := 35) (tgt := 48) hx hb dX6_field_13 (by rw [hsw604]; decide) (by rw [hsw604]; decide) (by rw [hsw604]; rfl) (by decide) ?_
        refine lv_aload_n hx hb dX6_field_48 rfl (lv_at hl 0 rfl) ?_
        refine lv_iload_n hx hb dX6_field_49 rfl (lv_at hl 1 rfl) ?_
        have hPc : va_P G vwCl [(qm, .inr (6, [.ref qz, .ref qa, .ref qe, .int (nI sts), .ref qs, .ref qv, .ref qp, .int (nI len), .int go, .ref qn])), (qz, .inl (cI, 46, .inl z)), (qa, .inl (cI, 46, .inl as)), (qe, .inl (cI, 276, .inl be)), (qs, .inl (cI, 92, .inl sl)), (qv, .inl (cZ, 2, .inl sv)), (qp, .inl (cI, 60, .inl pd)), (qn, .inl (cI, 36, .inl nd))] s.heap := hP
        have hDc := hD0
        refine vp_callSi (va_Run.run (va_runV (As := [.int (nI j)]) (rest := []) ⟨hx, hb, hml, hown, hts⟩ (c_X6_allOn l G cI cC cZ cG s.heap.size qm qz qa qe qs qv qp qn z as be sl sv pd nd sts len go (nI j)) (cf_RX6_61 hts ⟨Nat.le_of_ble_eq_true rfl, Nat.le_of_ble_eq_true rfl⟩) (pre_V hK hPc hDc (ci := 6) (q0 := 0) rfl rfl) rfl rfl hl.1 rfl (lv_room (Nat.le_of_ble_eq_true rfl)) dX6_field_50 ⟨Nat.le_of_ble_eq_true rfl, Nat.le_of_ble_eq_true rfl⟩)) (fun r605 hr605 => ?_)
        subst hr605
        have hf606 := (@ao_le z (nI j) 4)
        exact W.iret (v := nI (ao z (nI j) 4)) hx hb hr (fun t ht hW => ⟨nI (ao z (nI j) 4), rfl, by rw [m_field, if_neg (fun h => h c_603), (show (nI j).toNatClampNeg = j from nI_clamp (by omega)), if_pos (show w0 = 0 from hsw604)], ht⟩) (fun _ h => absurd h List.not_mem_nil) dX6_field_53
      · refine lv_tableIn (off := 41) (tgt := 54) hx hb dX6_field_13 (by rw [hsw604]; decide) (by rw [hsw604]; decide) (by rw [hsw604]; rfl) (by decide) ?_
        refine lv_aload_n hx hb dX6_field_54 rfl (lv_at hl 0 rfl) ?_
        refine lv_iload_n hx hb dX6_field_55 rfl (lv_at hl 1 rfl) ?_
        have hPc : va_P G vwCl [(qm, .inr (6, [.ref qz, .ref qa, .ref qe, .int (nI sts), .ref qs, .ref qv, .ref qp, .int (nI len), .int go, .ref qn])), (qz, .inl (cI, 46, .inl z)), (qa, .inl (cI, 46, .inl as)), (qe, .inl (cI, 276, .inl be)), (qs, .inl (cI, 92, .inl sl)), (qv, .inl (cZ, 2, .inl sv)), (qp, .inl (cI, 60, .inl pd)), (qn, .inl (cI, 36, .inl nd))] s.heap := hP
        have hDc := hD0
        refine vp_callSi (va_Run.run (va_runV (As := [.int (nI j)]) (rest := []) ⟨hx, hb, hml, hown, hts⟩ (c_X6_lowestOn l G cI cC cZ cG s.heap.size qm qz qa qe qs qv qp qn z as be sl sv pd nd sts len go (nI j)) (cf_RX6_149 hts ⟨Nat.le_of_ble_eq_true rfl, Nat.le_of_ble_eq_true rfl⟩) (pre_V hK hPc hDc (ci := 6) (q0 := 0) rfl rfl) rfl rfl hl.1 rfl (lv_room (Nat.le_of_ble_eq_true rfl)) dX6_field_56 ⟨Nat.le_of_ble_eq_true rfl, Nat.le_of_ble_eq_true rfl⟩)) (fun r607 hr607 => ?_)
        subst hr607
        exact W.iret (v := low (pcP z (nI j)) 0 12) hx hb hr (fun t ht hW => ⟨low (pcP z (nI j)) 0 12, rfl, by rw [m_field, if_neg (fun h => h c_603), (show (nI j).toNatClampNeg = j from nI_clamp (by omega)), if_neg (show ¬ w0 = 0 by rw [hsw604]; decide), if_pos (show w0 = 1 from hsw604)], ht⟩) (fun _ h => absurd h List.not_mem_nil) dX6_field_59
      · refine lv_tableIn (off := 47) (tgt := 60) hx hb dX6_field_13 (by rw [hsw604]; decide) (by rw [hsw604]; decide) (by rw [hsw604]; rfl) (by decide) ?_
        refine lv_iload_n hx hb dX6_field_60 rfl (lv_at hl 1 rfl) ?_
        refine vp_callSi (va_Run.run (va_runS (As := [.int (nI j)]) (rest := []) ⟨hx, hb, hml, hown, hts⟩ (c_X6_isSafe l (nI j)) (cf_RX6_85 hts ⟨Nat.le_of_ble_eq_true rfl, Nat.le_of_ble_eq_true rfl⟩) pre_P rfl rfl hl.1 rfl (lv_room (Nat.le_of_ble_eq_true rfl)) dX6_field_61 ⟨Nat.le_of_ble_eq_true rfl, Nat.le_of_ble_eq_true rfl⟩)) (fun r608 hr608 => ?_)
        subst hr608
        refine zb_eq (tgt := 71) hx hb dX6_field_64 (by decide) (fun c_609 => ?_) (fun c_609 => ?_)
        · refine lv_iconst (v := 0) hx hb dX6_field_71 (by decide) ?_
          exact W.iret (v := 0) hx hb hr (fun t ht hW => ⟨0, rfl, by rw [m_field, if_neg (fun h => h c_603), (show (nI j).toNatClampNeg = j from nI_clamp (by omega)), if_neg (show ¬ w0 = 0 by rw [hsw604]; decide), if_neg (show ¬ w0 = 1 by rw [hsw604]; decide), if_pos (show w0 = 2 from hsw604), if_neg c_609], ht⟩) (fun _ h => absurd h List.not_mem_nil) dX6_field_72
        · refine lv_iconst (v := 1) hx hb dX6_field_67 (by decide) ?_
          refine lv_goto (tgt := 72) hx hb dX6_field_68 (by decide) ?_
          exact W.iret (v := 1) hx hb hr (fun t ht hW => ⟨1, rfl, by rw [m_field, if_neg (fun h => h c_603), (show (nI j).toNatClampNeg = j from nI_clamp (by omega)), if_neg (show ¬ w0 = 0 by rw [hsw604]; decide), if_neg (show ¬ w0 = 1 by rw [hsw604]; decide), if_pos (show w0 = 2 from hsw604), if_pos c_609], ht⟩) (fun _ h => absurd h List.not_mem_nil) dX6_field_72
      · refine lv_tableIn (off := 60) (tgt := 73) hx hb dX6_field_13 (by rw [hsw604]; decide) (by rw [hsw604]; decide) (by rw [hsw604]; rfl) (by decide) ?_
        refine lv_aload_n hx hb dX6_field_73 rfl (lv_at hl 0 rfl) ?_
        refine lv_iload_n hx hb dX6_field_74 rfl (lv_at hl 1 rfl) ?_
        have hPc : va_P G vwCl [(qm, .inr (6, [.ref qz, .ref qa, .ref qe, .int (nI sts), .ref qs, .ref qv, .ref qp, .int (nI len), .int go, .ref qn])), (qz, .inl (cI, 46, .inl z)), (qa, .inl (cI, 46, .inl as)), (qe, .inl (cI, 276, .inl be)), (qs, .inl (cI, 92, .inl sl)), (qv, .inl (cZ, 2, .inl sv)), (qp, .inl (cI, 60, .inl pd)), (qn, .inl (cI, 36, .inl nd))] s.heap := hP
        have hDc := hD0
        refine vp_callSi (va_Run.run (va_runV (As := [.int (nI j)]) (rest := []) ⟨hx, hb, hml, hown, hts⟩ (c_X6_bridgeOn l G cI cC cZ cG s.heap.size qm qz qa qe qs qv qp qn z as be sl sv pd nd sts len go j (by omega)) (cf_RX6_152 hts ⟨Nat.le_of_ble_eq_true rfl, Nat.le_of_ble_eq_true rfl⟩) (pre_V hK hPc hDc (ci := 6) (q0 := 0) rfl rfl) rfl rfl hl.1 rfl (lv_room (Nat.le_of_ble_eq_true rfl)) dX6_field_75 ⟨Nat.le_of_ble_eq_true rfl, Nat.le_of_ble_eq_true rfl⟩)) (fun r610 hr610 => ?_)
        subst hr610
        exact W.iret (v := bsM z j) hx hb hr (fun t ht hW => ⟨bsM z j, rfl, by rw [m_field, if_neg (fun h => h c_603), (show (nI j).toNatClampNeg = j from nI_clamp (by omega)), if_neg (show ¬ w0 = 0 by rw [hsw604]; decide), if_neg (show ¬ w0 = 1 by rw [hsw604]; decide), if_neg (show ¬ w0 = 2 by rw [hsw604]; decide), if_pos (show w0 = 3 from hsw604)], ht⟩) (fun _ h => absurd h List.not_mem_nil) dX6_field_78
      · refine lv_tableIn (off := 66) (tgt := 79) hx hb dX6_field_13 (by rw [hsw604]; decide) (by rw [hsw604]; decide) (by rw [hsw604]; rfl) (by decide) ?_
        refine lv_aload_n hx hb dX6_field_79 rfl (lv_at hl 0 rfl) ?_
        refine lv_iload_n hx hb dX6_field_80 rfl (lv_at hl 1 rfl) ?_
        have hPc : va_P G vwCl [(qm, .inr (6, [.ref qz, .ref qa, .ref qe, .int (nI sts), .ref qs, .ref qv, .ref qp, .int (nI len), .int go, .ref qn])), (qz, .inl (cI, 46, .inl z)), (qa, .inl (cI, 46, .inl as)), (qe, .inl (cI, 276, .inl be)), (qs, .inl (cI, 92, .inl sl)), (qv, .inl (cZ, 2, .inl sv)), (qp, .inl (cI, 60, .inl pd)), (qn, .inl (cI, 36, .inl nd))] s.heap := hP
        have hDc := hD0
        refine vp_callSi (va_Run.run (va_runV (As := [.int (nI j)]) (rest := []) ⟨hx, hb, hml, hown, hts⟩ (c_X6_mendedIn l G cI cC cZ cG s.heap.size qm qz qa qe qs qv qp qn z as be sl sv pd nd sts len go j (by omega)) (cf_RX6_155 hts ⟨Nat.le_of_ble_eq_true rfl, Nat.le_of_ble_eq_true rfl⟩) (pre_V hK hPc hDc (ci := 6) (q0 := 0) rfl rfl) rfl rfl hl.1 rfl (lv_room (Nat.le_of_ble_eq_true rfl)) dX6_field_81 ⟨Nat.le_of_ble_eq_true rfl, Nat.le_of_ble_eq_true rfl⟩)) (fun r611 hr611 => ?_)
        subst hr611
        exact W.iret (v := mdM z j) hx hb hr (fun t ht hW => ⟨mdM z j, rfl, by rw [m_field, if_neg (fun h => h c_603), (show (nI j).toNatClampNeg = j from nI_clamp (by omega)), if_neg (show ¬ w0 = 0 by rw [hsw604]; decide), if_neg (show ¬ w0 = 1 by rw [hsw604]; decide), if_neg (show ¬ w0 = 2 by rw [hsw604]; decide), if_neg (show ¬ w0 = 3 by rw [hsw604]; decide), if_pos (show w0 = 4 from hsw604)], ht⟩) (fun _ h => absurd h List.not_mem_nil) dX6_field_84
  · refine lv_iconst (v := (-1)) hx hb dX6_field_10 (by decide) ?_
    exact W.iret (v := (-1)) hx hb hr (fun t ht hW => ⟨(-1), rfl, by rw [m_field, if_pos c_603], ht⟩) (fun _ h => absurd h List.not_mem_nil) dX6_field_11

abbrev rm_X6_count : Room := { frames := 2, cells := 0, slots := 0, locals := 45 }
theorem cf_RX6_158 {R : Room} {s : State} {args : Array Value} (ht : ∀ w ∈ wsL_law, w.before args s = true) (hR : rm_X6_fallenBridges.frames + 1 ≤ R.frames ∧ 8 + (3 + 11) + rm_X6_fallenBridges.locals ≤ R.locals) : CallW R s args RX6 RX6 158 yX6_fallenBridges cX6_fallenBridges 3 (some .int) (.code yX6_fallenBridges cX6_fallenBridges 3 (some .int) :: wsL_law) rm_X6_fallenBridges 0 0 0 := ⟨cw_B 0 ht wd494 wd5 wd497 (by decide +kernel) rfl rfl hR, ht _ wd495, ht _ wd496⟩
set_option maxHeartbeats 1000000 in
set_option maxRecDepth 100000 in
theorem c_X6_count (l : Launch) (G : va_G) (cI cC cZ cG : ClassId) (sz : Nat) (qm qz qa qe qs qv qp qn : Nat) (z as be sl sv pd nd : IA) (sts len : Nat) (go : Int32) (w0 : Int32) : Met l yX6_count (.code yX6_count cX6_count 2 (some .int) :: wsL_law) rm_X6_count (va_Pc [.ref qm, .int w0] (bw G cI cC cZ cG false sz [(qm, .inr (6, [.ref qz, .ref qa, .ref qe, .int (nI sts), .ref qs, .ref qv, .ref qp, .int (nI len), .int go, .ref qn])), (qz, .inl (cI, 46, .inl z)), (qa, .inl (cI, 46, .inl as)), (qe, .inl (cI, 276, .inl be)), (qs, .inl (cI, 92, .inl sl)), (qv, .inl (cZ, 2, .inl sv)), (qp, .inl (cI, 60, .inl pd)), (qn, .inl (cI, 36, .inl nd))])) (vp_Si (fun r => r = m_count w0 (z, be, sts, sl, sv, pd, len))) 0 0 (fun _ => False) := by
  refine met_bw rfl (Nat.le_of_ble_eq_true rfl) ?_
  intro p e s m below meth c ls hx hb hr hml hown hts hlocks hin hsz hP hK hD0 hX0 hl
  have hown : s.vm.findClass RX6 = some m.cls := hown
  have hl : lv_has ls 2 [(0, .ref qm), (1, .int w0)] := hl
  refine lv_iload_n hx hb dX6_count_0 rfl (lv_at hl 1 rfl) ?_
  refine lv_iconst (v := 0) hx hb dX6_count_1 (by decide) ?_
  refine lv_bipush (v := 7) hx hb dX6_count_2 (by decide) ?_
  refine vp_callSi (va_Run.run (va_runS (As := [.int w0, .int 0, .int 7]) (rest := []) ⟨hx, hb, hml, hown, hts⟩ (c_X6_in l w0 0 7) (cf_RX6_32 hts ⟨Nat.le_of_ble_eq_true rfl, Nat.le_of_ble_eq_true rfl⟩) pre_P rfl rfl hl.1 rfl (lv_room (Nat.le_of_ble_eq_true rfl)) dX6_count_4 ⟨Nat.le_of_ble_eq_true rfl, Nat.le_of_ble_eq_true rfl⟩)) (fun r612 hr612 => ?_)
  subst hr612
  refine zb_eq (tgt := 20) hx hb dX6_count_7 (by decide) (fun c_613 => ?_) (fun c_613 => ?_)
  · refine lv_iload_n hx hb dX6_count_20 rfl (lv_at hl 1 rfl) ?_
    refine lv_bipush (v := 9) hx hb dX6_count_21 (by decide) ?_
    refine lv_bipush (v := 12) hx hb dX6_count_23 (by decide) ?_
    refine vp_callSi (va_Run.run (va_runS (As := [.int w0, .int 9, .int 12]) (rest := []) ⟨hx, hb, hml, hown, hts⟩ (c_X6_in l w0 9 12) (cf_RX6_32 hts ⟨Nat.le_of_ble_eq_true rfl, Nat.le_of_ble_eq_true rfl⟩) pre_P rfl rfl hl.1 rfl (lv_room (Nat.le_of_ble_eq_true rfl)) dX6_count_25 ⟨Nat.le_of_ble_eq_true rfl, Nat.le_of_ble_eq_true rfl⟩)) (fun r614 hr614 => ?_)
    subst hr614
    refine zb_eq (tgt := 40) hx hb dX6_count_28 (by decide) (fun c_615 => ?_) (fun c_615 => ?_)
    · refine lv_iload_n hx hb dX6_count_40 rfl (lv_at hl 1 rfl) ?_
      rcases sw_cases2 8 17 w0 with hsw616 | ⟨j616, hg616, hj616, hsw616⟩
      · refine lv_tableOut (tgt := 132) hx hb dX6_count_41 hsw616 (by decide) ?_
        refine lv_bipush (v := (-2)) hx hb dX6_count_132 (by decide) ?_
        exact W.iret (v := (-2)) hx hb hr (fun t ht hW => ⟨(-2), rfl, by rw [m_count, if_neg c_613, if_neg c_615, if_neg (show ¬ w0 = 8 from sw_ne hsw616 (by decide)), if_neg (show ¬ w0 = 13 from sw_ne hsw616 (by decide)), if_neg (show ¬ w0 = 14 from sw_ne hsw616 (by decide)), if_neg (show ¬ w0 = 15 from sw_ne hsw616 (by decide)), if_neg (show ¬ w0 = 16 from sw_ne hsw616 (by decide)), if_neg (show ¬ w0 = 17 from sw_ne hsw616 (by decide))], ht⟩) (fun _ h => absurd h List.not_mem_nil) dX6_count_134
      · rcases (show j616 = 8 ∨ j616 = 9 ∨ j616 = 10 ∨ j616 = 11 ∨ j616 = 12 ∨ j616 = 13 ∨ j616 = 14 ∨ j616 = 15 ∨ j616 = 16 ∨ j616 = 17 by omega) with rfl | rfl | rfl | rfl | rfl | rfl | rfl | rfl | rfl | rfl
        · refine lv_tableIn (off := 55) (tgt := 96) hx hb dX6_count_41 (by rw [hsw616]; decide) (by rw [hsw616]; decide) (by rw [hsw616]; rfl) (by decide) ?_
          refine lv_aload_n hx hb dX6_count_96 rfl (lv_at hl 0 rfl) ?_
          have hPc : va_P G vwCl [(qm, .inr (6, [.ref qz, .ref qa, .ref qe, .int (nI sts), .ref qs, .ref qv, .ref qp, .int (nI len), .int go, .ref qn])), (qz, .inl (cI, 46, .inl z)), (qa, .inl (cI, 46, .inl as)), (qe, .inl (cI, 276, .inl be)), (qs, .inl (cI, 92, .inl sl)), (qv, .inl (cZ, 2, .inl sv)), (qp, .inl (cI, 60, .inl pd)), (qn, .inl (cI, 36, .inl nd))] s.heap := hP
          have hDc := hD0
          refine vp_callSi (va_Run.run (va_runV (As := []) (rest := []) ⟨hx, hb, hml, hown, hts⟩ (c_X6_winner l G cI cC cZ cG s.heap.size qm qz qa qe qs qv qp qn z as be sl sv pd nd sts len go) (cf_RX6_54 hts ⟨Nat.le_of_ble_eq_true rfl, Nat.le_of_ble_eq_true rfl⟩) (pre_V hK hPc hDc (ci := 6) (q0 := 0) rfl rfl) rfl rfl hl.1 rfl (lv_room (Nat.le_of_ble_eq_true rfl)) dX6_count_97 ⟨Nat.le_of_ble_eq_true rfl, Nat.le_of_ble_eq_true rfl⟩)) (fun r617 hr617 => ?_)
          subst hr617
          exact W.iret (v := mwi z) hx hb hr (fun t ht hW => ⟨mwi z, rfl, by rw [m_count, if_neg c_613, if_neg c_615, if_pos (show w0 = 8 from hsw616)], ht⟩) (fun _ h => absurd h List.not_mem_nil) dX6_count_100
        · refine lv_tableIn (off := 91) (tgt := 132) hx hb dX6_count_41 (by rw [hsw616]; decide) (by rw [hsw616]; decide) (by rw [hsw616]; rfl) (by decide) ?_
          refine lv_bipush (v := (-2)) hx hb dX6_count_132 (by decide) ?_
          exact W.iret (v := (-2)) hx hb hr (fun t ht hW => ⟨(-2), rfl, by rw [m_count, if_neg c_613, if_neg c_615, if_neg (show ¬ w0 = 8 by rw [hsw616]; decide), if_neg (show ¬ w0 = 13 by rw [hsw616]; decide), if_neg (show ¬ w0 = 14 by rw [hsw616]; decide), if_neg (show ¬ w0 = 15 by rw [hsw616]; decide), if_neg (show ¬ w0 = 16 by rw [hsw616]; decide), if_neg (show ¬ w0 = 17 by rw [hsw616]; decide)], ht⟩) (fun _ h => absurd h List.not_mem_nil) dX6_count_134
        · refine lv_tableIn (off := 91) (tgt := 132) hx hb dX6_count_41 (by rw [hsw616]; decide) (by rw [hsw616]; decide) (by rw [hsw616]; rfl) (by decide) ?_
          refine lv_bipush (v := (-2)) hx hb dX6_count_132 (by decide) ?_
          exact W.iret (v := (-2)) hx hb hr (fun t ht hW => ⟨(-2), rfl, by rw [m_count, if_neg c_613, if_neg c_615, if_neg (show ¬ w0 = 8 by rw [hsw616]; decide), if_neg (show ¬ w0 = 13 by rw [hsw616]; decide), if_neg (show ¬ w0 = 14 by rw [hsw616]; decide), if_neg (show ¬ w0 = 15 by rw [hsw616]; decide), if_neg (show ¬ w0 = 16 by rw [hsw616]; decide), if_neg (show ¬ w0 = 17 by rw [hsw616]; decide)], ht⟩) (fun _ h => absurd h List.not_mem_nil) dX6_count_134
        · refine lv_tableIn (off := 91) (tgt := 132) hx hb dX6_count_41 (by rw [hsw616]; decide) (by rw [hsw616]; decide) (by rw [hsw616]; rfl) (by decide) ?_
          refine lv_bipush (v := (-2)) hx hb dX6_count_132 (by decide) ?_
          exact W.iret (v := (-2)) hx hb hr (fun t ht hW => ⟨(-2), rfl, by rw [m_count, if_neg c_613, if_neg c_615, if_neg (show ¬ w0 = 8 by rw [hsw616]; decide), if_neg (show ¬ w0 = 13 by rw [hsw616]; decide), if_neg (show ¬ w0 = 14 by rw [hsw616]; decide), if_neg (show ¬ w0 = 15 by rw [hsw616]; decide), if_neg (show ¬ w0 = 16 by rw [hsw616]; decide), if_neg (show ¬ w0 = 17 by rw [hsw616]; decide)], ht⟩) (fun _ h => absurd h List.not_mem_nil) dX6_count_134
        · refine lv_tableIn (off := 91) (tgt := 132) hx hb dX6_count_41 (by rw [hsw616]; decide) (by rw [hsw616]; decide) (by rw [hsw616]; rfl) (by decide) ?_
          refine lv_bipush (v := (-2)) hx hb dX6_count_132 (by decide) ?_
          exact W.iret (v := (-2)) hx hb hr (fun t ht hW => ⟨(-2), rfl, by rw [m_count, if_neg c_613, if_neg c_615, if_neg (show ¬ w0 = 8 by rw [hsw616]; decide), if_neg (show ¬ w0 = 13 by rw [hsw616]; decide), if_neg (show ¬ w0 = 14 by rw [hsw616]; decide), if_neg (show ¬ w0 = 15 by rw [hsw616]; decide), if_neg (show ¬ w0 = 16 by rw [hsw616]; decide), if_neg (show ¬ w0 = 17 by rw [hsw616]; decide)], ht⟩) (fun _ h => absurd h List.not_mem_nil) dX6_count_134
        · refine lv_tableIn (off := 60) (tgt := 101) hx hb dX6_count_41 (by rw [hsw616]; decide) (by rw [hsw616]; decide) (by rw [hsw616]; rfl) (by decide) ?_
          refine lv_aload_n hx hb dX6_count_101 rfl (lv_at hl 0 rfl) ?_
          refine va_get (D := G) (ci := 6) (v := .ref qz) (C := RX6) (T := TX6) (N := 10) hx hb hts inlX6 hown hK.1 hP 0 rfl rfl 0 (by decide) (hts _ wd78) (fun _ h9 => h9) rfl dX6_count_102 ?_
          refine lv_bipush (v := 44) hx hb dX6_count_105 (by decide) ?_
          refine za_ld hx hb hK.1 hP 1 0 rfl rfl 44 rfl (by decide) (by decide) dX6_count_107 ?_
          exact W.iret (v := z 44) hx hb hr (fun t ht hW => ⟨z 44, rfl, by rw [m_count, if_neg c_613, if_neg c_615, if_neg (show ¬ w0 = 8 by rw [hsw616]; decide), if_pos (show w0 = 13 from hsw616)], ht⟩) (fun _ h => absurd h List.not_mem_nil) dX6_count_108
        · refine lv_tableIn (off := 68) (tgt := 109) hx hb dX6_count_41 (by rw [hsw616]; decide) (by rw [hsw616]; decide) (by rw [hsw616]; rfl) (by decide) ?_
          refine lv_aload_n hx hb dX6_count_109 rfl (lv_at hl 0 rfl) ?_
          have hPc : va_P G vwCl [(qm, .inr (6, [.ref qz, .ref qa, .ref qe, .int (nI sts), .ref qs, .ref qv, .ref qp, .int (nI len), .int go, .ref qn])), (qz, .inl (cI, 46, .inl z)), (qa, .inl (cI, 46, .inl as)), (qe, .inl (cI, 276, .inl be)), (qs, .inl (cI, 92, .inl sl)), (qv, .inl (cZ, 2, .inl sv)), (qp, .inl (cI, 60, .inl pd)), (qn, .inl (cI, 36, .inl nd))] s.heap := hP
          have hDc := hD0
          refine vp_callSi (va_Run.run (va_runV (As := []) (rest := []) ⟨hx, hb, hml, hown, hts⟩ (c_X6_fallenBridges l G cI cC cZ cG s.heap.size qm qz qa qe qs qv qp qn z as be sl sv pd nd sts len go) (cf_RX6_158 hts ⟨Nat.le_of_ble_eq_true rfl, Nat.le_of_ble_eq_true rfl⟩) (pre_V hK hPc hDc (ci := 6) (q0 := 0) rfl rfl) rfl rfl hl.1 rfl (lv_room (Nat.le_of_ble_eq_true rfl)) dX6_count_110 ⟨Nat.le_of_ble_eq_true rfl, Nat.le_of_ble_eq_true rfl⟩)) (fun r618 hr618 => ?_)
          subst hr618
          exact W.iret (v := fbM z 4) hx hb hr (fun t ht hW => ⟨fbM z 4, rfl, by rw [m_count, if_neg c_613, if_neg c_615, if_neg (show ¬ w0 = 8 by rw [hsw616]; decide), if_neg (show ¬ w0 = 13 by rw [hsw616]; decide), if_pos (show w0 = 14 from hsw616)], ht⟩) (fun _ h => absurd h List.not_mem_nil) dX6_count_113
        · refine lv_tableIn (off := 73) (tgt := 114) hx hb dX6_count_41 (by rw [hsw616]; decide) (by rw [hsw616]; decide) (by rw [hsw616]; rfl) (by decide) ?_
          refine lv_aload_n hx hb dX6_count_114 rfl (lv_at hl 0 rfl) ?_
          refine va_get (D := G) (ci := 6) (v := .ref qz) (C := RX6) (T := TX6) (N := 10) hx hb hts inlX6 hown hK.1 hP 0 rfl rfl 0 (by decide) (hts _ wd78) (fun _ h9 => h9) rfl dX6_count_115 ?_
          refine lv_bipush (v := 45) hx hb dX6_count_118 (by decide) ?_
          refine za_ld hx hb hK.1 hP 1 0 rfl rfl 45 rfl (by decide) (by decide) dX6_count_120 ?_
          exact W.iret (v := z 45) hx hb hr (fun t ht hW => ⟨z 45, rfl, by rw [m_count, if_neg c_613, if_neg c_615, if_neg (show ¬ w0 = 8 by rw [hsw616]; decide), if_neg (show ¬ w0 = 13 by rw [hsw616]; decide), if_neg (show ¬ w0 = 14 by rw [hsw616]; decide), if_pos (show w0 = 15 from hsw616)], ht⟩) (fun _ h => absurd h List.not_mem_nil) dX6_count_121
        · refine lv_tableIn (off := 81) (tgt := 122) hx hb dX6_count_41 (by rw [hsw616]; decide) (by rw [hsw616]; decide) (by rw [hsw616]; rfl) (by decide) ?_
          refine lv_aload_n hx hb dX6_count_122 rfl (lv_at hl 0 rfl) ?_
          refine va_get (D := G) (ci := 6) (v := .int (nI len)) (C := RX6) (T := TX6) (N := 10) hx hb hts inlX6 hown hK.1 hP 0 rfl rfl 7 (by decide) (hts _ wd402) (fun _ h9 => h9) rfl dX6_count_123 ?_
          exact W.iret (v := nI len) hx hb hr (fun t ht hW => ⟨nI len, rfl, by rw [m_count, if_neg c_613, if_neg c_615, if_neg (show ¬ w0 = 8 by rw [hsw616]; decide), if_neg (show ¬ w0 = 13 by rw [hsw616]; decide), if_neg (show ¬ w0 = 14 by rw [hsw616]; decide), if_neg (show ¬ w0 = 15 by rw [hsw616]; decide), if_pos (show w0 = 16 from hsw616)], ht⟩) (fun _ h => absurd h List.not_mem_nil) dX6_count_126
        · refine lv_tableIn (off := 86) (tgt := 127) hx hb dX6_count_41 (by rw [hsw616]; decide) (by rw [hsw616]; decide) (by rw [hsw616]; rfl) (by decide) ?_
          refine lv_aload_n hx hb dX6_count_127 rfl (lv_at hl 0 rfl) ?_
          refine va_get (D := G) (ci := 6) (v := .int (nI sts)) (C := RX6) (T := TX6) (N := 10) hx hb hts inlX6 hown hK.1 hP 0 rfl rfl 3 (by decide) (hts _ wd123) (fun _ h9 => h9) rfl dX6_count_128 ?_
          exact W.iret (v := nI sts) hx hb hr (fun t ht hW => ⟨nI sts, rfl, by rw [m_count, if_neg c_613, if_neg c_615, if_neg (show ¬ w0 = 8 by rw [hsw616]; decide), if_neg (show ¬ w0 = 13 by rw [hsw616]; decide), if_neg (show ¬ w0 = 14 by rw [hsw616]; decide), if_neg (show ¬ w0 = 15 by rw [hsw616]; decide), if_neg (show ¬ w0 = 16 by rw [hsw616]; decide), if_pos (show w0 = 17 from hsw616)], ht⟩) (fun _ h => absurd h List.not_mem_nil) dX6_count_131
    · obtain ⟨j, hj0, hj, rfl⟩ := inQ_nI (lo := 9) (hi := 12) (by decide) (by decide) c_615
      refine lv_aload_n hx hb dX6_count_31 rfl (lv_at hl 0 rfl) ?_
      refine lv_iload_n hx hb dX6_count_32 rfl (lv_at hl 1 rfl) ?_
      refine lv_bipush (v := 9) hx hb dX6_count_33 (by decide) ?_
      refine zi_sub hx hb j 9 dX6_count_35 rfl rfl (by omega) ?_
      have hPc : va_P G vwCl [(qm, .inr (6, [.ref qz, .ref qa, .ref qe, .int (nI sts), .ref qs, .ref qv, .ref qp, .int (nI len), .int go, .ref qn])), (qz, .inl (cI, 46, .inl z)), (qa, .inl (cI, 46, .inl as)), (qe, .inl (cI, 276, .inl be)), (qs, .inl (cI, 92, .inl sl)), (qv, .inl (cZ, 2, .inl sv)), (qp, .inl (cI, 60, .inl pd)), (qn, .inl (cI, 36, .inl nd))] s.heap := hP
      have hDc := hD0
      refine vp_callSi (va_Run.run (va_runV (As := [.int (nI (j - 9))]) (rest := []) ⟨hx, hb, hml, hown, hts⟩ (c_X6_atHome l G cI cC cZ cG s.heap.size qm qz qa qe qs qv qp qn z as be sl sv pd nd sts len go (j - 9) (by omega)) (cf_RX6_51 hts ⟨Nat.le_of_ble_eq_true rfl, Nat.le_of_ble_eq_true rfl⟩) (pre_V hK hPc hDc (ci := 6) (q0 := 0) rfl rfl) rfl rfl hl.1 rfl (lv_room (Nat.le_of_ble_eq_true rfl)) dX6_count_36 ⟨Nat.le_of_ble_eq_true rfl, Nat.le_of_ble_eq_true rfl⟩)) (fun r619 hr619 => ?_)
      subst hr619
      have hf620 := (show mho z (j - 9) ≤ 3 from cnt_le (mhP z (j - 9)) 3)
      exact W.iret (v := nI (mho z (j - 9))) hx hb hr (fun t ht hW => ⟨nI (mho z (j - 9)), rfl, by rw [m_count, if_neg c_613, if_pos c_615, (show (nI j).toNatClampNeg = j from nI_clamp (by omega))], ht⟩) (fun _ h => absurd h List.not_mem_nil) dX6_count_39
  · obtain ⟨j, hj0, hj, rfl⟩ := inQ_nI (lo := 0) (hi := 7) (by decide) (by decide) c_613
    refine lv_aload_n hx hb dX6_count_10 rfl (lv_at hl 0 rfl) ?_
    refine va_get (D := G) (ci := 6) (v := .ref qz) (C := RX6) (T := TX6) (N := 10) hx hb hts inlX6 hown hK.1 hP 0 rfl rfl 0 (by decide) (hts _ wd78) (fun _ h9 => h9) rfl dX6_count_11 ?_
    refine lv_bipush (v := 36) hx hb dX6_count_14 (by decide) ?_
    refine lv_iload_n hx hb dX6_count_16 rfl (lv_at hl 1 rfl) ?_
    refine zi_add hx hb 36 j dX6_count_17 rfl rfl ?_
    refine za_ld hx hb hK.1 hP 1 0 rfl rfl (36 + j) rfl (by omega) (by decide) dX6_count_18 ?_
    exact W.iret (v := z (36 + j)) hx hb hr (fun t ht hW => ⟨z (36 + j), rfl, by rw [m_count, if_pos c_613, (show (nI j).toNatClampNeg = j from nI_clamp (by omega))], ht⟩) (fun _ h => absurd h List.not_mem_nil) dX6_count_19

abbrev rm_X6_fault : Room := { frames := 2, cells := 0, slots := 0, locals := 44 }
theorem cf_RX6_140 {R : Room} {s : State} {args : Array Value} (ht : ∀ w ∈ wsL_law, w.before args s = true) (hR : rm_X6_findFault.frames + 1 ≤ R.frames ∧ 8 + (3 + 11) + rm_X6_findFault.locals ≤ R.locals) : CallW R s args RX6 RX6 140 yX6_findFault cX6_findFault 3 (some .int) (.code yX6_findFault cX6_findFault 3 (some .int) :: wsL_law) rm_X6_findFault 0 0 0 := ⟨cw_B 0 ht wd403 wd5 wd406 (by decide +kernel) rfl rfl hR, ht _ wd404, ht _ wd405⟩
set_option maxHeartbeats 1000000 in
set_option maxRecDepth 100000 in
theorem c_X6_fault (l : Launch) (G : va_G) (cI cC cZ cG : ClassId) (sz : Nat) (qm qz qa qe qs qv qp qn : Nat) (z as be sl sv pd nd : IA) (sts len : Nat) (go : Int32) (hln : len ≤ 60) : Met l yX6_fault (.code yX6_fault cX6_fault 1 (some .int) :: wsL_law) rm_X6_fault (va_Pc [.ref qm] (bw G cI cC cZ cG false sz [(qm, .inr (6, [.ref qz, .ref qa, .ref qe, .int (nI sts), .ref qs, .ref qv, .ref qp, .int (nI len), .int go, .ref qn])), (qz, .inl (cI, 46, .inl z)), (qa, .inl (cI, 46, .inl as)), (qe, .inl (cI, 276, .inl be)), (qs, .inl (cI, 92, .inl sl)), (qv, .inl (cZ, 2, .inl sv)), (qp, .inl (cI, 60, .inl pd)), (qn, .inl (cI, 36, .inl nd))])) (vp_Si (fun r => r = ffM pd len)) 0 0 (fun _ => False) := by
  refine met_bw rfl (Nat.le_of_ble_eq_true rfl) ?_
  intro p e s m below meth c ls hx hb hr hml hown hts hlocks hin hsz hP hK hD0 hX0 hl
  have hown : s.vm.findClass RX6 = some m.cls := hown
  have hl : lv_has ls 1 [(0, .ref qm)] := hl
  refine lv_aload_n hx hb dX6_fault_0 rfl (lv_at hl 0 rfl) ?_
  have hPc : va_P G vwCl [(qm, .inr (6, [.ref qz, .ref qa, .ref qe, .int (nI sts), .ref qs, .ref qv, .ref qp, .int (nI len), .int go, .ref qn])), (qz, .inl (cI, 46, .inl z)), (qa, .inl (cI, 46, .inl as)), (qe, .inl (cI, 276, .inl be)), (qs, .inl (cI, 92, .inl sl)), (qv, .inl (cZ, 2, .inl sv)), (qp, .inl (cI, 60, .inl pd)), (qn, .inl (cI, 36, .inl nd))] s.heap := hP
  have hDc := hD0
  refine vp_callSi (va_Run.run (va_runV (As := []) (rest := []) ⟨hx, hb, hml, hown, hts⟩ (c_X6_findFault l G cI cC cZ cG s.heap.size qm qz qa qe qs qv qp qn z as be sl sv pd nd sts len go (by omega)) (cf_RX6_140 hts ⟨Nat.le_of_ble_eq_true rfl, Nat.le_of_ble_eq_true rfl⟩) (pre_V hK hPc hDc (ci := 6) (q0 := 0) rfl rfl) rfl rfl hl.1 rfl (lv_room (Nat.le_of_ble_eq_true rfl)) dX6_fault_1 ⟨Nat.le_of_ble_eq_true rfl, Nat.le_of_ble_eq_true rfl⟩)) (fun r621 hr621 => ?_)
  subst hr621
  exact W.iret (v := ffM pd len) hx hb hr (fun t ht hW => ⟨ffM pd len, rfl, rfl, ht⟩) (fun _ h => absurd h List.not_mem_nil) dX6_fault_4

abbrev rm_X6_why : Room := { frames := 6, cells := 0, slots := 0, locals := 138 }
set_option maxHeartbeats 1000000 in
set_option maxRecDepth 100000 in
theorem c_X6_why (l : Launch) (G : va_G) (cI cC cZ cG : ClassId) (sz : Nat) (qm qz qa qe qs qv qp qn : Nat) (z as be sl sv pd nd : IA) (sts len : Nat) (go : Int32) (pl : Nat) (k0 c0 : Int32) (hz : ∀ k, k < 12 → okv (z k)) (hx0 : ¬ z 39 < 0) (hpl : pl < 4) (h40 : z 40 = nI pl) (h4c : okc (z 41)) (hst : sts ≤ 6) (hln : len ≤ 60) : Met l yX6_why (.code yX6_why cX6_why 3 (some .int) :: wsL_law) rm_X6_why (va_Pc [.ref qm, .int k0, .int c0] (bw G cI cC cZ cG false sz [(qm, .inr (6, [.ref qz, .ref qa, .ref qe, .int (nI sts), .ref qs, .ref qv, .ref qp, .int (nI len), .int go, .ref qn])), (qz, .inl (cI, 46, .inl z)), (qa, .inl (cI, 46, .inl as)), (qe, .inl (cI, 276, .inl be)), (qs, .inl (cI, 92, .inl sl)), (qv, .inl (cZ, 2, .inl sv)), (qp, .inl (cI, 60, .inl pd)), (qn, .inl (cI, 36, .inl nd))])) (va_Qi (fun (r : Int32) (u : MS) => r = m_why k0 c0 z ∧ cor u = (z, be, sts, sl, sv, pd, len)) (fun (u : MS) t => va_P G vwCl [(qm, .inr (6, [.ref qz, .ref qa, .ref qe, .int (nI u.2.2.1), .ref qs, .ref qv, .ref qp, .int (nI u.2.2.2.2.2.2.1), .int u.2.2.2.2.2.2.2.2.1, .ref qn])), (qz, .inl (cI, 46, .inl u.1)), (qa, .inl (cI, 46, .inl u.2.2.2.2.2.2.2.1)), (qe, .inl (cI, 276, .inl u.2.1)), (qs, .inl (cI, 92, .inl u.2.2.2.1)), (qv, .inl (cZ, 2, .inl u.2.2.2.2.1)), (qp, .inl (cI, 60, .inl u.2.2.2.2.2.1)), (qn, .inl (cI, 36, .inl u.2.2.2.2.2.2.2.2.2))] t.heap ∧ va_D (va_A [(qm, .inr (6, [.ref qz, .ref qa, .ref qe, .int (nI sts), .ref qs, .ref qv, .ref qp, .int (nI len), .int go, .ref qn])), (qz, .inl (cI, 46, .inl z)), (qa, .inl (cI, 46, .inl as)), (qe, .inl (cI, 276, .inl be)), (qs, .inl (cI, 92, .inl sl)), (qv, .inl (cZ, 2, .inl sv)), (qp, .inl (cI, 60, .inl pd)), (qn, .inl (cI, 36, .inl nd))] sz) [(qm, .inr (6, [.ref qz, .ref qa, .ref qe, .int (nI u.2.2.1), .ref qs, .ref qv, .ref qp, .int (nI u.2.2.2.2.2.2.1), .int u.2.2.2.2.2.2.2.2.1, .ref qn])), (qz, .inl (cI, 46, .inl u.1)), (qa, .inl (cI, 46, .inl u.2.2.2.2.2.2.2.1)), (qe, .inl (cI, 276, .inl u.2.1)), (qs, .inl (cI, 92, .inl u.2.2.2.1)), (qv, .inl (cZ, 2, .inl u.2.2.2.2.1)), (qp, .inl (cI, 60, .inl u.2.2.2.2.2.1)), (qn, .inl (cI, 36, .inl u.2.2.2.2.2.2.2.2.2))]) (va_A [(qm, .inr (6, [.ref qz, .ref qa, .ref qe, .int (nI sts), .ref qs, .ref qv, .ref qp, .int (nI len), .int go, .ref qn])), (qz, .inl (cI, 46, .inl z)), (qa, .inl (cI, 46, .inl as)), (qe, .inl (cI, 276, .inl be)), (qs, .inl (cI, 92, .inl sl)), (qv, .inl (cZ, 2, .inl sv)), (qp, .inl (cI, 60, .inl pd)), (qn, .inl (cI, 36, .inl nd))] sz)) 0 0 (va_A [(qm, .inr (6, [.ref qz, .ref qa, .ref qe, .int (nI sts), .ref qs, .ref qv, .ref qp, .int (nI len), .int go, .ref qn])), (qz, .inl (cI, 46, .inl z)), (qa, .inl (cI, 46, .inl as)), (qe, .inl (cI, 276, .inl be)), (qs, .inl (cI, 92, .inl sl)), (qv, .inl (cZ, 2, .inl sv)), (qp, .inl (cI, 60, .inl pd)), (qn, .inl (cI, 36, .inl nd))] sz) := by
  refine met_bw rfl (Nat.le_of_ble_eq_true rfl) ?_
  intro p e s m below meth c ls hx hb hr hml hown hts hlocks hin hsz hP hK hD0 hX0 hl
  have hown : s.vm.findClass RX6 = some m.cls := hown
  have hl : lv_has ls 3 [(0, .ref qm), (1, .int k0), (2, .int c0)] := hl
  subst hsz
  have hD := hD0.self (sz := s.heap.size)
  generalize hAe : va_A [(qm, .inr (6, [.ref qz, .ref qa, .ref qe, .int (nI sts), .ref qs, .ref qv, .ref qp, .int (nI len), .int go, .ref qn])), (qz, .inl (cI, 46, .inl z)), (qa, .inl (cI, 46, .inl as)), (qe, .inl (cI, 276, .inl be)), (qs, .inl (cI, 92, .inl sl)), (qv, .inl (cZ, 2, .inl sv)), (qp, .inl (cI, 60, .inl pd)), (qn, .inl (cI, 36, .inl nd))] s.heap.size = A at hD ⊢
  have hA : ∀ q : Nat, s.heap.size ≤ q → A q := fun q h => by rw [← hAe]; exact Or.inr h
  have hS : va_S A s.heap s.heap [] := va_S.rf
  refine lv_iload_n hx hb dX6_why_0 rfl (lv_at hl 1 rfl) ?_
  refine vp_callSi (va_Run.run (va_runS (As := [.int k0]) (rest := []) ⟨hx, hb, hml, hown, hts⟩ (c_X6_isPiece l k0) (cf_RX6_146 hts ⟨Nat.le_of_ble_eq_true rfl, Nat.le_of_ble_eq_true rfl⟩) pre_P rfl rfl hl.1 rfl (lv_room (Nat.le_of_ble_eq_true rfl)) dX6_why_1 ⟨Nat.le_of_ble_eq_true rfl, Nat.le_of_ble_eq_true rfl⟩)) (fun r622 hr622 => ?_)
  subst hr622
  refine zb_ne (tgt := 11) hx hb dX6_why_4 (by decide) (fun c_623 => ?_) (fun c_623 => ?_)
  · obtain ⟨j, hj0, hj, rfl⟩ := inQ_nI (lo := 0) (hi := 11) (by decide) (by decide) c_623
    refine lv_iload_n hx hb dX6_why_11 rfl (lv_at hl 2 rfl) ?_
    refine lv_iconst (v := 1) hx hb dX6_why_12 (by decide) ?_
    refine lv_bipush (v := 6) hx hb dX6_why_13 (by decide) ?_
    refine vp_callSi (va_Run.run (va_runS (As := [.int c0, .int 1, .int 6]) (rest := []) ⟨hx, hb, hml, hown, hts⟩ (c_X6_in l c0 1 6) (cf_RX6_32 hts ⟨Nat.le_of_ble_eq_true rfl, Nat.le_of_ble_eq_true rfl⟩) pre_P rfl rfl hl.1 rfl (lv_room (Nat.le_of_ble_eq_true rfl)) dX6_why_15 ⟨Nat.le_of_ble_eq_true rfl, Nat.le_of_ble_eq_true rfl⟩)) (fun r624 hr624 => ?_)
    subst hr624
    refine zb_eq (tgt := 30) hx hb dX6_why_18 (by decide) (fun c_625 => ?_) (fun c_625 => ?_)
    · refine lv_bipush (v := (-2)) hx hb dX6_why_30 (by decide) ?_
      exact W.iret (v := (-2)) hx hb hr (fun t ht hW => ⟨⟨(-2), (z, be, sts, sl, sv, pd, len, as, go, nd), rfl, ⟨by rw [m_why, if_neg (fun h => h c_623), if_neg c_625], rfl⟩, by rw [ht]; exact hP, hD⟩, hS.F ht⟩) hS.2.2 dX6_why_32
    · obtain ⟨j2, hj3, hj4, rfl⟩ := inQ_nI (lo := 1) (hi := 6) (by decide) (by decide) c_625
      refine lv_aload_n hx hb dX6_why_21 rfl (lv_at hl 0 rfl) ?_
      refine lv_iload_n hx hb dX6_why_22 rfl (lv_at hl 1 rfl) ?_
      refine lv_iload_n hx hb dX6_why_23 rfl (lv_at hl 2 rfl) ?_
      have hPc : va_P G vwCl [(qm, .inr (6, [.ref qz, .ref qa, .ref qe, .int (nI sts), .ref qs, .ref qv, .ref qp, .int (nI len), .int go, .ref qn])), (qz, .inl (cI, 46, .inl z)), (qa, .inl (cI, 46, .inl as)), (qe, .inl (cI, 276, .inl be)), (qs, .inl (cI, 92, .inl sl)), (qv, .inl (cZ, 2, .inl sv)), (qp, .inl (cI, 60, .inl pd)), (qn, .inl (cI, 36, .inl nd))] s.heap := hP
      have hDc := hD.tt
      have hFc := va_free (wc := [(qm, .inr (6, [.ref qz, .ref qa, .ref qe, .int (nI sts), .ref qs, .ref qv, .ref qp, .int (nI len), .int go, .ref qn])), (qz, .inl (cI, 46, .inl z)), (qa, .inl (cI, 46, .inl as)), (qe, .inl (cI, 276, .inl be)), (qs, .inl (cI, 92, .inl sl)), (qv, .inl (cZ, 2, .inl sv)), (qp, .inl (cI, 60, .inl pd)), (qn, .inl (cI, 36, .inl nd))]) hD hS hA [0, 1, 2, 3, 4, 5, 6, 7] rfl
      refine va_calli (va_runV (As := [.int (nI j), .int (nI j2)]) (rest := []) ⟨hx, hb, hml, hown, hts⟩ (c_X6_whyNot l G cI cC cZ cG s.heap.size qm qz qa qe qs qv qp qn z as be sl sv pd nd sts len go j j2 hz (by omega) hj3 hj4) (cf_RX6_88 hts ⟨Nat.le_of_ble_eq_true rfl, Nat.le_of_ble_eq_true rfl⟩) (pre_V hK hPc hDc (ci := 6) (q0 := 0) rfl rfl) rfl rfl hl.1 rfl (lv_room (Nat.le_of_ble_eq_true rfl)) dX6_why_24 ⟨Nat.le_of_ble_eq_true rfl, Nat.le_of_ble_eq_true rfl⟩) hS (fun q _ h => hFc q h) hFc (fun r626 u626 t626 H626 locs626 ht626 hvm626 hw626 hB626 hz626 hk626 hS => ?_)
      obtain ⟨go626, rfl⟩ : ∃ z, z = u626 := ⟨_, rfl⟩
      obtain ⟨hP1, hD1⟩ := hB626
      rw [ht626] at hP1
      try dsimp only at hw626
      obtain ⟨hr626, hw626⟩ := hw626
      subst hr626
      obtain ⟨hP, hD⟩ := va_join (wr := []) (w1 := [(qm, .inr (6, [.ref qz, .ref qa, .ref qe, .int (nI sts), .ref qs, .ref qv, .ref qp, .int (nI len), .int go626, .ref qn])), (qz, .inl (cI, 46, .inl z)), (qa, .inl (cI, 46, .inl as)), (qe, .inl (cI, 276, .inl be)), (qs, .inl (cI, 92, .inl sl)), (qv, .inl (cZ, 2, .inl sv)), (qp, .inl (cI, 60, .inl pd)), (qn, .inl (cI, 36, .inl nd))]) hP hD [0, 1, 2, 3, 4, 5, 6, 7] [] rfl rfl (by decide) (by decide) hk626 hFc hP1 hD1
      have hP : va_P G vwCl [(qm, .inr (6, [.ref qz, .ref qa, .ref qe, .int (nI sts), .ref qs, .ref qv, .ref qp, .int (nI len), .int go626, .ref qn])), (qz, .inl (cI, 46, .inl z)), (qa, .inl (cI, 46, .inl as)), (qe, .inl (cI, 276, .inl be)), (qs, .inl (cI, 92, .inl sl)), (qv, .inl (cZ, 2, .inl sv)), (qp, .inl (cI, 60, .inl pd)), (qn, .inl (cI, 36, .inl nd))] H626 := hP
      have hD : va_D A [(qm, .inr (6, [.ref qz, .ref qa, .ref qe, .int (nI sts), .ref qs, .ref qv, .ref qp, .int (nI len), .int go626, .ref qn])), (qz, .inl (cI, 46, .inl z)), (qa, .inl (cI, 46, .inl as)), (qe, .inl (cI, 276, .inl be)), (qs, .inl (cI, 92, .inl sl)), (qv, .inl (cZ, 2, .inl sv)), (qp, .inl (cI, 60, .inl pd)), (qn, .inl (cI, 36, .inl nd))] := hD
      refine lv_goto (tgt := 32) hx hb dX6_why_27 (by decide) ?_
      exact W.iret (v := mwn z j j2) hx hb hr (fun t ht hW => ⟨⟨mwn z j j2, (z, be, sts, sl, sv, pd, len, as, go626, nd), rfl, ⟨by rw [m_why, if_neg (fun h => h c_623), if_pos c_625, (show (nI j).toNatClampNeg = j from nI_clamp (by omega)), (show (nI j2).toNatClampNeg = j2 from nI_clamp (by omega))], rfl⟩, by rw [ht]; exact hP, hD⟩, hS.F ht⟩) hS.2.2 dX6_why_32
  · refine lv_iconst (v := (-1)) hx hb dX6_why_7 (by decide) ?_
    refine lv_goto (tgt := 32) hx hb dX6_why_8 (by decide) ?_
    exact W.iret (v := (-1)) hx hb hr (fun t ht hW => ⟨⟨(-1), (z, be, sts, sl, sv, pd, len, as, go, nd), rfl, ⟨by rw [m_why, if_pos c_623], rfl⟩, by rw [ht]; exact hP, hD⟩, hS.F ht⟩) hS.2.2 dX6_why_32

abbrev rm_X6_best : Room := { frames := 8, cells := 0, slots := 0, locals := 188 }
set_option maxHeartbeats 1000000 in
set_option maxRecDepth 100000 in
theorem c_X6_best (l : Launch) (G : va_G) (cI cC cZ cG : ClassId) (sz : Nat) (qm qz qa qe qs qv qp qn : Nat) (z as be sl sv pd nd : IA) (sts len : Nat) (go : Int32) (pl : Nat) (hz : ∀ k, k < 12 → okv (z k)) (hx0 : ¬ z 39 < 0) (hpl : pl < 4) (h40 : z 40 = nI pl) (h4c : okc (z 41)) (hst : sts ≤ 6) (hln : len ≤ 60) : Met l yX6_best (.code yX6_best cX6_best 1 (some .int) :: wsL_law) rm_X6_best (va_Pc [.ref qm] (bw G cI cC cZ cG false sz [(qm, .inr (6, [.ref qz, .ref qa, .ref qe, .int (nI sts), .ref qs, .ref qv, .ref qp, .int (nI len), .int go, .ref qn])), (qz, .inl (cI, 46, .inl z)), (qa, .inl (cI, 46, .inl as)), (qe, .inl (cI, 276, .inl be)), (qs, .inl (cI, 92, .inl sl)), (qv, .inl (cZ, 2, .inl sv)), (qp, .inl (cI, 60, .inl pd)), (qn, .inl (cI, 36, .inl nd))])) (va_Qi (fun (r : Int32) (u : MS) => r = m_best z ∧ cor u = (z, be, sts, sl, sv, pd, len)) (fun (u : MS) t => va_P G vwCl [(qm, .inr (6, [.ref qz, .ref qa, .ref qe, .int (nI u.2.2.1), .ref qs, .ref qv, .ref qp, .int (nI u.2.2.2.2.2.2.1), .int u.2.2.2.2.2.2.2.2.1, .ref qn])), (qz, .inl (cI, 46, .inl u.1)), (qa, .inl (cI, 46, .inl u.2.2.2.2.2.2.2.1)), (qe, .inl (cI, 276, .inl u.2.1)), (qs, .inl (cI, 92, .inl u.2.2.2.1)), (qv, .inl (cZ, 2, .inl u.2.2.2.2.1)), (qp, .inl (cI, 60, .inl u.2.2.2.2.2.1)), (qn, .inl (cI, 36, .inl u.2.2.2.2.2.2.2.2.2))] t.heap ∧ va_D (va_A [(qm, .inr (6, [.ref qz, .ref qa, .ref qe, .int (nI sts), .ref qs, .ref qv, .ref qp, .int (nI len), .int go, .ref qn])), (qz, .inl (cI, 46, .inl z)), (qa, .inl (cI, 46, .inl as)), (qe, .inl (cI, 276, .inl be)), (qs, .inl (cI, 92, .inl sl)), (qv, .inl (cZ, 2, .inl sv)), (qp, .inl (cI, 60, .inl pd)), (qn, .inl (cI, 36, .inl nd))] sz) [(qm, .inr (6, [.ref qz, .ref qa, .ref qe, .int (nI u.2.2.1), .ref qs, .ref qv, .ref qp, .int (nI u.2.2.2.2.2.2.1), .int u.2.2.2.2.2.2.2.2.1, .ref qn])), (qz, .inl (cI, 46, .inl u.1)), (qa, .inl (cI, 46, .inl u.2.2.2.2.2.2.2.1)), (qe, .inl (cI, 276, .inl u.2.1)), (qs, .inl (cI, 92, .inl u.2.2.2.1)), (qv, .inl (cZ, 2, .inl u.2.2.2.2.1)), (qp, .inl (cI, 60, .inl u.2.2.2.2.2.1)), (qn, .inl (cI, 36, .inl u.2.2.2.2.2.2.2.2.2))]) (va_A [(qm, .inr (6, [.ref qz, .ref qa, .ref qe, .int (nI sts), .ref qs, .ref qv, .ref qp, .int (nI len), .int go, .ref qn])), (qz, .inl (cI, 46, .inl z)), (qa, .inl (cI, 46, .inl as)), (qe, .inl (cI, 276, .inl be)), (qs, .inl (cI, 92, .inl sl)), (qv, .inl (cZ, 2, .inl sv)), (qp, .inl (cI, 60, .inl pd)), (qn, .inl (cI, 36, .inl nd))] sz)) 0 0 (va_A [(qm, .inr (6, [.ref qz, .ref qa, .ref qe, .int (nI sts), .ref qs, .ref qv, .ref qp, .int (nI len), .int go, .ref qn])), (qz, .inl (cI, 46, .inl z)), (qa, .inl (cI, 46, .inl as)), (qe, .inl (cI, 276, .inl be)), (qs, .inl (cI, 92, .inl sl)), (qv, .inl (cZ, 2, .inl sv)), (qp, .inl (cI, 60, .inl pd)), (qn, .inl (cI, 36, .inl nd))] sz) := by
  refine met_bw rfl (Nat.le_of_ble_eq_true rfl) ?_
  intro p e s m below meth c ls hx hb hr hml hown hts hlocks hin hsz hP hK hD0 hX0 hl
  have hown : s.vm.findClass RX6 = some m.cls := hown
  have hl : lv_has ls 1 [(0, .ref qm)] := hl
  subst hsz
  have hD := hD0.self (sz := s.heap.size)
  generalize hAe : va_A [(qm, .inr (6, [.ref qz, .ref qa, .ref qe, .int (nI sts), .ref qs, .ref qv, .ref qp, .int (nI len), .int go, .ref qn])), (qz, .inl (cI, 46, .inl z)), (qa, .inl (cI, 46, .inl as)), (qe, .inl (cI, 276, .inl be)), (qs, .inl (cI, 92, .inl sl)), (qv, .inl (cZ, 2, .inl sv)), (qp, .inl (cI, 60, .inl pd)), (qn, .inl (cI, 36, .inl nd))] s.heap.size = A at hD ⊢
  have hA : ∀ q : Nat, s.heap.size ≤ q → A q := fun q h => by rw [← hAe]; exact Or.inr h
  have hS : va_S A s.heap s.heap [] := va_S.rf
  refine lv_aload_n hx hb dX6_best_0 rfl (lv_at hl 0 rfl) ?_
  have hPc : va_P G vwCl [(qm, .inr (6, [.ref qz, .ref qa, .ref qe, .int (nI sts), .ref qs, .ref qv, .ref qp, .int (nI len), .int go, .ref qn])), (qz, .inl (cI, 46, .inl z)), (qa, .inl (cI, 46, .inl as)), (qe, .inl (cI, 276, .inl be)), (qs, .inl (cI, 92, .inl sl)), (qv, .inl (cZ, 2, .inl sv)), (qp, .inl (cI, 60, .inl pd)), (qn, .inl (cI, 36, .inl nd))] s.heap := hP
  have hDc := hD.tt
  refine vp_callSi (va_Run.run (va_runV (As := []) (rest := []) ⟨hx, hb, hml, hown, hts⟩ (c_X6_hasCast l G cI cC cZ cG s.heap.size qm qz qa qe qs qv qp qn z as be sl sv pd nd sts len go) (cf_RX6_114 hts ⟨Nat.le_of_ble_eq_true rfl, Nat.le_of_ble_eq_true rfl⟩) (pre_V hK hPc hDc (ci := 6) (q0 := 0) rfl rfl) rfl rfl hl.1 rfl (lv_room (Nat.le_of_ble_eq_true rfl)) dX6_best_1 ⟨Nat.le_of_ble_eq_true rfl, Nat.le_of_ble_eq_true rfl⟩)) (fun r627 hr627 => ?_)
  subst hr627
  refine zb_eq (tgt := 14) hx hb dX6_best_4 (by decide) (fun c_628 => ?_) (fun c_628 => ?_)
  · refine lv_bipush (v := (-5)) hx hb dX6_best_14 (by decide) ?_
    exact W.iret (v := (-5)) hx hb hr (fun t ht hW => ⟨⟨(-5), (z, be, sts, sl, sv, pd, len, as, go, nd), rfl, ⟨by rw [m_best, if_pos (Decidable.not_not.mp c_628)], rfl⟩, by rw [ht]; exact hP, hD⟩, hS.F ht⟩) hS.2.2 dX6_best_16
  · obtain ⟨cn, hc1, hc, h41⟩ := okc_ne h4c c_628
    refine lv_aload_n hx hb dX6_best_7 rfl (lv_at hl 0 rfl) ?_
    have hPc : va_P G vwCl [(qm, .inr (6, [.ref qz, .ref qa, .ref qe, .int (nI sts), .ref qs, .ref qv, .ref qp, .int (nI len), .int go, .ref qn])), (qz, .inl (cI, 46, .inl z)), (qa, .inl (cI, 46, .inl as)), (qe, .inl (cI, 276, .inl be)), (qs, .inl (cI, 92, .inl sl)), (qv, .inl (cZ, 2, .inl sv)), (qp, .inl (cI, 60, .inl pd)), (qn, .inl (cI, 36, .inl nd))] s.heap := hP
    have hDc := hD.tt
    have hFc := va_free (wc := [(qm, .inr (6, [.ref qz, .ref qa, .ref qe, .int (nI sts), .ref qs, .ref qv, .ref qp, .int (nI len), .int go, .ref qn])), (qz, .inl (cI, 46, .inl z)), (qa, .inl (cI, 46, .inl as)), (qe, .inl (cI, 276, .inl be)), (qs, .inl (cI, 92, .inl sl)), (qv, .inl (cZ, 2, .inl sv)), (qp, .inl (cI, 60, .inl pd)), (qn, .inl (cI, 36, .inl nd))]) hD hS hA [0, 1, 2, 3, 4, 5, 6, 7] rfl
    refine va_calli (va_runV (As := []) (rest := []) ⟨hx, hb, hml, hown, hts⟩ (c_X6_bestPiece l G cI cC cZ cG s.heap.size qm qz qa qe qs qv qp qn z as be sl sv pd nd sts len go pl cn hz hpl h40 h41 hc1 hc) (cf_RX6_134 hts ⟨Nat.le_of_ble_eq_true rfl, Nat.le_of_ble_eq_true rfl⟩) (pre_V hK hPc hDc (ci := 6) (q0 := 0) rfl rfl) rfl rfl hl.1 rfl (lv_room (Nat.le_of_ble_eq_true rfl)) dX6_best_8 ⟨Nat.le_of_ble_eq_true rfl, Nat.le_of_ble_eq_true rfl⟩) hS (fun q _ h => hFc q h) hFc (fun r629 u629 t629 H629 locs629 ht629 hvm629 hw629 hB629 hz629 hk629 hS => ?_)
    obtain ⟨go629, rfl⟩ : ∃ z, z = u629 := ⟨_, rfl⟩
    obtain ⟨hP1, hD1⟩ := hB629
    rw [ht629] at hP1
    try dsimp only at hw629
    obtain ⟨hr629, hw629⟩ := hw629
    subst hr629
    obtain ⟨hP, hD⟩ := va_join (wr := []) (w1 := [(qm, .inr (6, [.ref qz, .ref qa, .ref qe, .int (nI sts), .ref qs, .ref qv, .ref qp, .int (nI len), .int go629, .ref qn])), (qz, .inl (cI, 46, .inl z)), (qa, .inl (cI, 46, .inl as)), (qe, .inl (cI, 276, .inl be)), (qs, .inl (cI, 92, .inl sl)), (qv, .inl (cZ, 2, .inl sv)), (qp, .inl (cI, 60, .inl pd)), (qn, .inl (cI, 36, .inl nd))]) hP hD [0, 1, 2, 3, 4, 5, 6, 7] [] rfl rfl (by decide) (by decide) hk629 hFc hP1 hD1
    have hP : va_P G vwCl [(qm, .inr (6, [.ref qz, .ref qa, .ref qe, .int (nI sts), .ref qs, .ref qv, .ref qp, .int (nI len), .int go629, .ref qn])), (qz, .inl (cI, 46, .inl z)), (qa, .inl (cI, 46, .inl as)), (qe, .inl (cI, 276, .inl be)), (qs, .inl (cI, 92, .inl sl)), (qv, .inl (cZ, 2, .inl sv)), (qp, .inl (cI, 60, .inl pd)), (qn, .inl (cI, 36, .inl nd))] H629 := hP
    have hD : va_D A [(qm, .inr (6, [.ref qz, .ref qa, .ref qe, .int (nI sts), .ref qs, .ref qv, .ref qp, .int (nI len), .int go629, .ref qn])), (qz, .inl (cI, 46, .inl z)), (qa, .inl (cI, 46, .inl as)), (qe, .inl (cI, 276, .inl be)), (qs, .inl (cI, 92, .inl sl)), (qv, .inl (cZ, 2, .inl sv)), (qp, .inl (cI, 60, .inl pd)), (qn, .inl (cI, 36, .inl nd))] := hD
    refine lv_goto (tgt := 16) hx hb dX6_best_11 (by decide) ?_
    exact W.iret (v := bpM z pl cn) hx hb hr (fun t ht hW => ⟨⟨bpM z pl cn, (z, be, sts, sl, sv, pd, len, as, go629, nd), rfl, ⟨by rw [m_best, if_neg c_628, (show (z 41).toNatClampNeg = cn by rw [h41]; exact nI_clamp (by omega)), (show (z 40).toNatClampNeg = pl by rw [h40]; exact nI_clamp (by omega))], rfl⟩, by rw [ht]; exact hP, hD⟩, hS.F ht⟩) hS.2.2 dX6_best_16

abbrev rm_X6_nextCast : Room := { frames := 1, cells := 0, slots := 0, locals := 22 }
set_option maxHeartbeats 1000000 in
set_option maxRecDepth 100000 in
theorem c_X6_nextCast (l : Launch) (G : va_G) (cI cC cZ cG : ClassId) (sz : Nat) (qm qz qa qe qs qv qp qn : Nat) (z as be sl sv pd nd : IA) (sts len : Nat) (go : Int32) (pl : Nat) (n0 : Int32) (hz : ∀ k, k < 12 → okv (z k)) (hx0 : ¬ z 39 < 0) (hpl : pl < 4) (h40 : z 40 = nI pl) (h4c : okc (z 41)) (hst : sts ≤ 6) (hln : len ≤ 60) : Met l yX6_nextCast (.code yX6_nextCast cX6_nextCast 5 (some .int) :: wsL_law) rm_X6_nextCast (va_Pc [.ref qm, .int n0] (bw G cI cC cZ cG false sz [(qm, .inr (6, [.ref qz, .ref qa, .ref qe, .int (nI sts), .ref qs, .ref qv, .ref qp, .int (nI len), .int go, .ref qn])), (qz, .inl (cI, 46, .inl z)), (qa, .inl (cI, 46, .inl as)), (qe, .inl (cI, 276, .inl be)), (qs, .inl (cI, 92, .inl sl)), (qv, .inl (cZ, 2, .inl sv)), (qp, .inl (cI, 60, .inl pd)), (qn, .inl (cI, 36, .inl nd))])) (va_Qi (fun (r : Int32) (u : MS) => r = m_nextCast n0 z ∧ cor u = (z, be, sts, sl, sv, pd, len)) (fun (u : MS) t => va_P G vwCl [(qm, .inr (6, [.ref qz, .ref qa, .ref qe, .int (nI u.2.2.1), .ref qs, .ref qv, .ref qp, .int (nI u.2.2.2.2.2.2.1), .int u.2.2.2.2.2.2.2.2.1, .ref qn])), (qz, .inl (cI, 46, .inl u.1)), (qa, .inl (cI, 46, .inl u.2.2.2.2.2.2.2.1)), (qe, .inl (cI, 276, .inl u.2.1)), (qs, .inl (cI, 92, .inl u.2.2.2.1)), (qv, .inl (cZ, 2, .inl u.2.2.2.2.1)), (qp, .inl (cI, 60, .inl u.2.2.2.2.2.1)), (qn, .inl (cI, 36, .inl u.2.2.2.2.2.2.2.2.2))] t.heap ∧ va_D (va_A [(qm, .inr (6, [.ref qz, .ref qa, .ref qe, .int (nI sts), .ref qs, .ref qv, .ref qp, .int (nI len), .int go, .ref qn])), (qz, .inl (cI, 46, .inl z)), (qa, .inl (cI, 46, .inl as)), (qe, .inl (cI, 276, .inl be)), (qs, .inl (cI, 92, .inl sl)), (qv, .inl (cZ, 2, .inl sv)), (qp, .inl (cI, 60, .inl pd)), (qn, .inl (cI, 36, .inl nd))] sz) [(qm, .inr (6, [.ref qz, .ref qa, .ref qe, .int (nI u.2.2.1), .ref qs, .ref qv, .ref qp, .int (nI u.2.2.2.2.2.2.1), .int u.2.2.2.2.2.2.2.2.1, .ref qn])), (qz, .inl (cI, 46, .inl u.1)), (qa, .inl (cI, 46, .inl u.2.2.2.2.2.2.2.1)), (qe, .inl (cI, 276, .inl u.2.1)), (qs, .inl (cI, 92, .inl u.2.2.2.1)), (qv, .inl (cZ, 2, .inl u.2.2.2.2.1)), (qp, .inl (cI, 60, .inl u.2.2.2.2.2.1)), (qn, .inl (cI, 36, .inl u.2.2.2.2.2.2.2.2.2))]) (va_A [(qm, .inr (6, [.ref qz, .ref qa, .ref qe, .int (nI sts), .ref qs, .ref qv, .ref qp, .int (nI len), .int go, .ref qn])), (qz, .inl (cI, 46, .inl z)), (qa, .inl (cI, 46, .inl as)), (qe, .inl (cI, 276, .inl be)), (qs, .inl (cI, 92, .inl sl)), (qv, .inl (cZ, 2, .inl sv)), (qp, .inl (cI, 60, .inl pd)), (qn, .inl (cI, 36, .inl nd))] sz)) 0 0 (va_A [(qm, .inr (6, [.ref qz, .ref qa, .ref qe, .int (nI sts), .ref qs, .ref qv, .ref qp, .int (nI len), .int go, .ref qn])), (qz, .inl (cI, 46, .inl z)), (qa, .inl (cI, 46, .inl as)), (qe, .inl (cI, 276, .inl be)), (qs, .inl (cI, 92, .inl sl)), (qv, .inl (cZ, 2, .inl sv)), (qp, .inl (cI, 60, .inl pd)), (qn, .inl (cI, 36, .inl nd))] sz) := by
  refine met_bw rfl (Nat.le_of_ble_eq_true rfl) ?_
  intro p e s m below meth c ls hx hb hr hml hown hts hlocks hin hsz hP hK hD0 hX0 hl
  have hown : s.vm.findClass RX6 = some m.cls := hown
  have hl : lv_has ls 5 [(0, .ref qm), (1, .int n0)] := hl
  subst hsz
  have hD := hD0.self (sz := s.heap.size)
  generalize hAe : va_A [(qm, .inr (6, [.ref qz, .ref qa, .ref qe, .int (nI sts), .ref qs, .ref qv, .ref qp, .int (nI len), .int go, .ref qn])), (qz, .inl (cI, 46, .inl z)), (qa, .inl (cI, 46, .inl as)), (qe, .inl (cI, 276, .inl be)), (qs, .inl (cI, 92, .inl sl)), (qv, .inl (cZ, 2, .inl sv)), (qp, .inl (cI, 60, .inl pd)), (qn, .inl (cI, 36, .inl nd))] s.heap.size = A at hD ⊢
  have hA : ∀ q : Nat, s.heap.size ≤ q → A q := fun q h => by rw [← hAe]; exact Or.inr h
  have hS : va_S A s.heap s.heap [] := va_S.rf
  generalize hQ : MQ below (va_Qi (fun (r : Int32) (u : MS) => r = m_nextCast n0 z ∧ cor u = (z, be, sts, sl, sv, pd, len)) (fun (u : MS) t => va_P G vwCl [(qm, .inr (6, [.ref qz, .ref qa, .ref qe, .int (nI u.2.2.1), .ref qs, .ref qv, .ref qp, .int (nI u.2.2.2.2.2.2.1), .int u.2.2.2.2.2.2.2.2.1, .ref qn])), (qz, .inl (cI, 46, .inl u.1)), (qa, .inl (cI, 46, .inl u.2.2.2.2.2.2.2.1)), (qe, .inl (cI, 276, .inl u.2.1)), (qs, .inl (cI, 92, .inl u.2.2.2.1)), (qv, .inl (cZ, 2, .inl u.2.2.2.2.1)), (qp, .inl (cI, 60, .inl u.2.2.2.2.2.1)), (qn, .inl (cI, 36, .inl u.2.2.2.2.2.2.2.2.2))] t.heap ∧ va_D A [(qm, .inr (6, [.ref qz, .ref qa, .ref qe, .int (nI u.2.2.1), .ref qs, .ref qv, .ref qp, .int (nI u.2.2.2.2.2.2.1), .int u.2.2.2.2.2.2.2.2.1, .ref qn])), (qz, .inl (cI, 46, .inl u.1)), (qa, .inl (cI, 46, .inl u.2.2.2.2.2.2.2.1)), (qe, .inl (cI, 276, .inl u.2.1)), (qs, .inl (cI, 92, .inl u.2.2.2.1)), (qv, .inl (cZ, 2, .inl u.2.2.2.2.1)), (qp, .inl (cI, 60, .inl u.2.2.2.2.2.1)), (qn, .inl (cI, 36, .inl u.2.2.2.2.2.2.2.2.2))]) A) ([.ref qm, .int n0] : List Value).toArray s 0 0 A = Q
  generalize hag : ([.ref qm, .int n0] : List Value).toArray = ag at hts hQ ⊢
  refine lv_iload_n hx hb dX6_nextCast_0 rfl (lv_at hl 1 rfl) ?_
  refine lv_iconst (v := 0) hx hb dX6_nextCast_1 (by decide) ?_
  refine lv_bipush (v := 99) hx hb dX6_nextCast_2 (by decide) ?_
  refine vp_callSi (va_Run.run (va_runS (As := [.int n0, .int 0, .int 99]) (rest := []) ⟨hx, hb, hml, hown, hts⟩ (c_X6_in l n0 0 99) (cf_RX6_32 hts ⟨Nat.le_of_ble_eq_true rfl, Nat.le_of_ble_eq_true rfl⟩) pre_P rfl rfl hl.1 rfl (lv_room (Nat.le_of_ble_eq_true rfl)) dX6_nextCast_4 ⟨Nat.le_of_ble_eq_true rfl, Nat.le_of_ble_eq_true rfl⟩)) (fun r630 hr630 => ?_)
  subst hr630
  refine zb_ne (tgt := 13) hx hb dX6_nextCast_7 (by decide) (fun c_631 => ?_) (fun c_631 => ?_)
  · obtain ⟨j, hj0, hj, rfl⟩ := inQ_nI (lo := 0) (hi := 99) (by decide) (by decide) c_631
    refine lv_aload_n hx hb dX6_nextCast_13 rfl (lv_at hl 0 rfl) ?_
    refine va_get (D := G) (ci := 6) (v := .ref qz) (C := RX6) (T := TX6) (N := 10) hx hb hts inlX6 hown hK.1 hP 0 rfl rfl 0 (by decide) (hts _ wd78) (fun _ h9 => h9) rfl dX6_nextCast_14 ?_
    refine lv_bipush (v := 39) hx hb dX6_nextCast_17 (by decide) ?_
    refine za_ld hx hb hK.1 hP 1 0 rfl rfl 39 rfl (by decide) (by decide) dX6_nextCast_19 ?_
    refine lv_istore_n (lv' := [(2, .int (z 39)), (0, .ref qm), (1, .int (nI j))]) hx hb dX6_nextCast_20 rfl hl (by decide) rfl (fun ls hl => ?_)
    refine lv_iconst (v := 0) hx hb dX6_nextCast_21 (by decide) ?_
    refine lv_istore_n (lv' := [(3, .int 0), (2, .int (z 39)), (0, .ref qm), (1, .int (nI j))]) hx hb dX6_nextCast_22 rfl hl (by decide) rfl (fun ls hl => ?_)
    refine lv_iconst (v := 0) hx hb dX6_nextCast_23 (by decide) ?_
    refine lv_istore (lv' := [(4, .int 0), (3, .int 0), (2, .int (z 39)), (0, .ref qm), (1, .int (nI j))]) hx hb dX6_nextCast_24 hl (by decide) rfl (fun ls hl => ?_)
    have L1 : ∀ (n : Nat), ∀ (i : Nat), ∀ (zc : IA), ∀ (cc0 : Int32), ∀ (hi : i ≤ j + 1), ∀ (hf2 : zc = upd z 39 (xN (z 39) i)), ∀ (hf3 : cc0 = if i = 0 then 0 else co (xN (z 39) i)), ∀ (hn : j + 2 ≤ i + n), ∀ (H632 : Heap) (locs632 : List Loc), va_P G vwCl [(qm, .inr (6, [.ref qz, .ref qa, .ref qe, .int (nI sts), .ref qs, .ref qv, .ref qp, .int (nI len), .int go, .ref qn])), (qz, .inl (cI, 46, .inl zc)), (qa, .inl (cI, 46, .inl as)), (qe, .inl (cI, 276, .inl be)), (qs, .inl (cI, 92, .inl sl)), (qv, .inl (cZ, 2, .inl sv)), (qp, .inl (cI, 60, .inl pd)), (qn, .inl (cI, 36, .inl nd))] H632 → va_D A [(qm, .inr (6, [.ref qz, .ref qa, .ref qe, .int (nI sts), .ref qs, .ref qv, .ref qp, .int (nI len), .int go, .ref qn])), (qz, .inl (cI, 46, .inl zc)), (qa, .inl (cI, 46, .inl as)), (qe, .inl (cI, 276, .inl be)), (qs, .inl (cI, 92, .inl sl)), (qv, .inl (cZ, 2, .inl sv)), (qp, .inl (cI, 60, .inl pd)), (qn, .inl (cI, 36, .inl nd))] → va_S A s.heap H632 locs632 → ∀ (ls : Array Slot), lv_has ls 5 [(4, .int (nI i)), (3, .int cc0), (2, .int (z 39)), (0, .ref qm), (1, .int (nI j))] → W p l e rm_X6_nextCast s m ag below meth c H632 locs632 0 0 Q (F0 m 26 ls []) := by
      intro n
      induction n with
      | zero =>
        intro i zc cc0 hi hf2 hf3 hn H632 locs632 hP hD hS ls hl
        omega
      | succ n ih1 =>
        intro i zc cc0 hi hf2 hf3 hn H632 locs632 hP hD hS ls hl
        refine lv_iload hx hb dX6_nextCast_26 (lv_at hl 0 rfl) ?_
        refine lv_iload_n hx hb dX6_nextCast_28 rfl (lv_at hl 4 rfl) ?_
        refine zi_gt (tgt := 43) hx hb i j dX6_nextCast_29 (by decide) rfl rfl (by omega) (by omega) (fun c_633 => ?_) (fun c_633 => ?_)
        · refine lv_aload_n hx hb dX6_nextCast_43 rfl (lv_at hl 3 rfl) ?_
          refine va_get (D := G) (ci := 6) (v := .ref qz) (C := RX6) (T := TX6) (N := 10) hx hb hts inlX6 hown hK.1 hP 0 rfl rfl 0 (by decide) (hts _ wd78) (fun _ h9 => h9) rfl dX6_nextCast_44 ?_
          refine lv_bipush (v := 39) hx hb dX6_nextCast_47 (by decide) ?_
          refine lv_iload_n hx hb dX6_nextCast_49 rfl (lv_at hl 2 rfl) ?_
          refine za_st hx hb hK.1 hP hD hS 1 0 rfl rfl 39 rfl (by decide) (by decide) dX6_nextCast_50 (fun H634 locs634 hP hD hS => ?_)
          have hP : va_P G vwCl [(qm, .inr (6, [.ref qz, .ref qa, .ref qe, .int (nI sts), .ref qs, .ref qv, .ref qp, .int (nI len), .int go, .ref qn])), (qz, .inl (cI, 46, .inl (upd zc 39 (z 39)))), (qa, .inl (cI, 46, .inl as)), (qe, .inl (cI, 276, .inl be)), (qs, .inl (cI, 92, .inl sl)), (qv, .inl (cZ, 2, .inl sv)), (qp, .inl (cI, 60, .inl pd)), (qn, .inl (cI, 36, .inl nd))] H634 := hP
          have hD : va_D A [(qm, .inr (6, [.ref qz, .ref qa, .ref qe, .int (nI sts), .ref qs, .ref qv, .ref qp, .int (nI len), .int go, .ref qn])), (qz, .inl (cI, 46, .inl (upd zc 39 (z 39)))), (qa, .inl (cI, 46, .inl as)), (qe, .inl (cI, 276, .inl be)), (qs, .inl (cI, 92, .inl sl)), (qv, .inl (cZ, 2, .inl sv)), (qp, .inl (cI, 60, .inl pd)), (qn, .inl (cI, 36, .inl nd))] := hD
          refine lv_iload_n hx hb dX6_nextCast_51 rfl (lv_at hl 1 rfl) ?_
          subst hQ
          exact W.iret (v := cc0) hx hb hr (fun t ht hW => ⟨⟨cc0, (upd zc 39 (z 39), be, sts, sl, sv, pd, len, as, go, nd), rfl, ⟨by rw [m_nextCast, if_pos c_631, (show (nI j).toNatClampNeg = j from nI_clamp (by omega)), hf3, show j + 1 = i by omega, if_neg (by omega)], (cor_eq (by rw [hf2, upd_upd]; exact upd_self) rfl rfl rfl rfl rfl rfl)⟩, by rw [ht]; exact hP, hD⟩, hS.F ht⟩) hS.2.2 dX6_nextCast_52
        · refine lv_aload_n hx hb dX6_nextCast_32 rfl (lv_at hl 3 rfl) ?_
          have hPc : va_P G vwCl [(qm, .inr (6, [.ref qz, .ref qa, .ref qe, .int (nI sts), .ref qs, .ref qv, .ref qp, .int (nI len), .int go, .ref qn])), (qz, .inl (cI, 46, .inl zc)), (qa, .inl (cI, 46, .inl as)), (qe, .inl (cI, 276, .inl be)), (qs, .inl (cI, 92, .inl sl)), (qv, .inl (cZ, 2, .inl sv)), (qp, .inl (cI, 60, .inl pd)), (qn, .inl (cI, 36, .inl nd))] H632 := hP
          have hDc := hD.tt
          have hFc := va_free (wc := [(qm, .inr (6, [.ref qz, .ref qa, .ref qe, .int (nI sts), .ref qs, .ref qv, .ref qp, .int (nI len), .int go, .ref qn])), (qz, .inl (cI, 46, .inl zc)), (qa, .inl (cI, 46, .inl as)), (qe, .inl (cI, 276, .inl be)), (qs, .inl (cI, 92, .inl sl)), (qv, .inl (cZ, 2, .inl sv)), (qp, .inl (cI, 60, .inl pd)), (qn, .inl (cI, 36, .inl nd))]) hD hS hA [0, 1, 2, 3, 4, 5, 6, 7] rfl
          refine va_calli (va_runV (As := []) (rest := []) ⟨hx, hb, hml, hown, hts⟩ (c_X6_draw l G cI cC cZ cG H632.size qm qz qa qe qs qv qp qn zc as be sl sv pd nd sts len go) (cf_RX6_117 hts ⟨Nat.le_of_ble_eq_true rfl, Nat.le_of_ble_eq_true rfl⟩) (pre_V hK hPc hDc (ci := 6) (q0 := 0) rfl rfl) rfl rfl hl.1 rfl (lv_room (Nat.le_of_ble_eq_true rfl)) dX6_nextCast_33 ⟨Nat.le_of_ble_eq_true rfl, Nat.le_of_ble_eq_true rfl⟩) hS (fun q _ h => hFc q h) hFc (fun r635 u635 t635 H635 locs635 ht635 hvm635 hw635 hB635 hz635 hk635 hS => ?_)
          obtain ⟨q635, rfl⟩ : ∃ z, z = u635 := ⟨_, rfl⟩
          obtain ⟨hP1, hD1⟩ := hB635
          rw [ht635] at hP1
          try dsimp only at hw635
          obtain ⟨hr635, hw635⟩ := hw635
          subst hr635
          obtain ⟨hP, hD⟩ := va_join (wr := []) (w1 := [(qm, .inr (6, [.ref qz, .ref qa, .ref qe, .int (nI sts), .ref qs, .ref qv, .ref qp, .int (nI len), .int go, .ref qn])), (qz, .inl (cI, 46, .inl (drM zc))), (qa, .inl (cI, 46, .inl as)), (qe, .inl (cI, 276, .inl be)), (qs, .inl (cI, 92, .inl sl)), (qv, .inl (cZ, 2, .inl sv)), (qp, .inl (cI, 60, .inl pd)), (qn, .inl (cI, 36, .inl nd))]) hP hD [0, 1, 2, 3, 4, 5, 6, 7] [] rfl rfl (by decide) (by decide) hk635 hFc hP1 hD1
          have hP : va_P G vwCl [(qm, .inr (6, [.ref qz, .ref qa, .ref qe, .int (nI sts), .ref qs, .ref qv, .ref qp, .int (nI len), .int go, .ref qn])), (qz, .inl (cI, 46, .inl (drM zc))), (qa, .inl (cI, 46, .inl as)), (qe, .inl (cI, 276, .inl be)), (qs, .inl (cI, 92, .inl sl)), (qv, .inl (cZ, 2, .inl sv)), (qp, .inl (cI, 60, .inl pd)), (qn, .inl (cI, 36, .inl nd))] H635 := hP
          have hD : va_D A [(qm, .inr (6, [.ref qz, .ref qa, .ref qe, .int (nI sts), .ref qs, .ref qv, .ref qp, .int (nI len), .int go, .ref qn])), (qz, .inl (cI, 46, .inl (drM zc))), (qa, .inl (cI, 46, .inl as)), (qe, .inl (cI, 276, .inl be)), (qs, .inl (cI, 92, .inl sl)), (qv, .inl (cZ, 2, .inl sv)), (qp, .inl (cI, 60, .inl pd)), (qn, .inl (cI, 36, .inl nd))] := hD
          refine lv_istore_n (lv' := [(3, .int (co (nx (zc 39)))), (4, .int (nI i)), (2, .int (z 39)), (0, .ref qm), (1, .int (nI j))]) hx hb dX6_nextCast_36 rfl hl (by decide) rfl (fun ls hl => ?_)
          refine lv_iinc (v := nI (i + 1)) (lv' := [(4, .int (nI (i + 1))), (3, .int (co (nx (zc 39)))), (2, .int (z 39)), (0, .ref qm), (1, .int (nI j))]) hx hb dX6_nextCast_37 hl (k := 1) rfl (nI_inc i) (by decide) rfl (fun ls hl => ?_)
          refine lv_goto (tgt := 26) hx hb dX6_nextCast_40 (by decide) ?_
          exact ih1 (i + 1) (drM zc) (co (nx (zc 39))) (by omega) (by rw [hf2, drM, upd_eq, upd_upd, xN]) (by rw [hf2, upd_eq, if_neg (by omega), xN]) (by omega) H635 locs635 hP hD hS _ (lv_sub hl [0, 1, 2, 3, 4] rfl)
    exact L1 (j + 2) 0 z 0 (by omega) (by rw [xN]; exact upd_self.symm) rfl (by omega) s.heap [] hP hD hS _ (lv_sub hl [0, 1, 2, 3, 4] rfl)
  · refine lv_bipush (v := (-2)) hx hb dX6_nextCast_10 (by decide) ?_
    subst hQ
    exact W.iret (v := (-2)) hx hb hr (fun t ht hW => ⟨⟨(-2), (z, be, sts, sl, sv, pd, len, as, go, nd), rfl, ⟨by rw [m_nextCast, if_neg c_631], rfl⟩, by rw [ht]; exact hP, hD⟩, hS.F ht⟩) hS.2.2 dX6_nextCast_12

abbrev rm_X6_untilOver : Room := { frames := 9, cells := 0, slots := 0, locals := 211 }
theorem cf_RX6_167 {R : Room} {s : State} {args : Array Value} (ht : ∀ w ∈ wsL_law, w.before args s = true) (hR : rm_X6_putAside.frames + 1 ≤ R.frames ∧ 8 + (2 + 11) + rm_X6_putAside.locals ≤ R.locals) : CallW R s args RX6 RX6 167 yX6_putAside cX6_putAside 2 none (.code yX6_putAside cX6_putAside 2 none :: wsL_law) rm_X6_putAside 0 0 0 := ⟨cw_B 0 ht wd547 wd5 wd550 (by decide +kernel) rfl rfl hR, ht _ wd548, ht _ wd549⟩
theorem cf_RX6_170 {R : Room} {s : State} {args : Array Value} (ht : ∀ w ∈ wsL_law, w.before args s = true) (hR : rm_X6_putBack.frames + 1 ≤ R.frames ∧ 8 + (2 + 11) + rm_X6_putBack.locals ≤ R.locals) : CallW R s args RX6 RX6 170 yX6_putBack cX6_putBack 2 none (.code yX6_putBack cX6_putBack 2 none :: wsL_law) rm_X6_putBack 0 0 0 := ⟨cw_B 0 ht wd551 wd5 wd554 (by decide +kernel) rfl rfl hR, ht _ wd552, ht _ wd553⟩
set_option maxHeartbeats 1000000 in
set_option maxRecDepth 100000 in
theorem c_X6_untilOver (l : Launch) (G : va_G) (cI cC cZ cG : ClassId) (sz : Nat) (qm qz qa qe qs qv qp qn : Nat) (z as be sl sv pd nd : IA) (sts len : Nat) (go : Int32) (pl : Nat) (hz : ∀ k, k < 12 → okv (z k)) (hx0 : ¬ z 39 < 0) (hpl : pl < 4) (h40 : z 40 = nI pl) (h4c : okc (z 41)) (hst : sts ≤ 6) (hln : len ≤ 60) : Met l yX6_untilOver (.code yX6_untilOver cX6_untilOver 3 (some .int) :: wsL_law) rm_X6_untilOver (va_Pc [.ref qm] (bw G cI cC cZ cG false sz [(qm, .inr (6, [.ref qz, .ref qa, .ref qe, .int (nI sts), .ref qs, .ref qv, .ref qp, .int (nI len), .int go, .ref qn])), (qz, .inl (cI, 46, .inl z)), (qa, .inl (cI, 46, .inl as)), (qe, .inl (cI, 276, .inl be)), (qs, .inl (cI, 92, .inl sl)), (qv, .inl (cZ, 2, .inl sv)), (qp, .inl (cI, 60, .inl pd)), (qn, .inl (cI, 36, .inl nd))])) (va_Qi (fun (r : Int32) (u : MS) => r = m_untilOver z ∧ (∀ k, k < 46 → u.1 k = z k) ∧ cor u = (u.1, be, sts, sl, sv, pd, len)) (fun (u : MS) t => va_P G vwCl [(qm, .inr (6, [.ref qz, .ref qa, .ref qe, .int (nI u.2.2.1), .ref qs, .ref qv, .ref qp, .int (nI u.2.2.2.2.2.2.1), .int u.2.2.2.2.2.2.2.2.1, .ref qn])), (qz, .inl (cI, 46, .inl u.1)), (qa, .inl (cI, 46, .inl u.2.2.2.2.2.2.2.1)), (qe, .inl (cI, 276, .inl u.2.1)), (qs, .inl (cI, 92, .inl u.2.2.2.1)), (qv, .inl (cZ, 2, .inl u.2.2.2.2.1)), (qp, .inl (cI, 60, .inl u.2.2.2.2.2.1)), (qn, .inl (cI, 36, .inl u.2.2.2.2.2.2.2.2.2))] t.heap ∧ va_D (va_A [(qm, .inr (6, [.ref qz, .ref qa, .ref qe, .int (nI sts), .ref qs, .ref qv, .ref qp, .int (nI len), .int go, .ref qn])), (qz, .inl (cI, 46, .inl z)), (qa, .inl (cI, 46, .inl as)), (qe, .inl (cI, 276, .inl be)), (qs, .inl (cI, 92, .inl sl)), (qv, .inl (cZ, 2, .inl sv)), (qp, .inl (cI, 60, .inl pd)), (qn, .inl (cI, 36, .inl nd))] sz) [(qm, .inr (6, [.ref qz, .ref qa, .ref qe, .int (nI u.2.2.1), .ref qs, .ref qv, .ref qp, .int (nI u.2.2.2.2.2.2.1), .int u.2.2.2.2.2.2.2.2.1, .ref qn])), (qz, .inl (cI, 46, .inl u.1)), (qa, .inl (cI, 46, .inl u.2.2.2.2.2.2.2.1)), (qe, .inl (cI, 276, .inl u.2.1)), (qs, .inl (cI, 92, .inl u.2.2.2.1)), (qv, .inl (cZ, 2, .inl u.2.2.2.2.1)), (qp, .inl (cI, 60, .inl u.2.2.2.2.2.1)), (qn, .inl (cI, 36, .inl u.2.2.2.2.2.2.2.2.2))]) (va_A [(qm, .inr (6, [.ref qz, .ref qa, .ref qe, .int (nI sts), .ref qs, .ref qv, .ref qp, .int (nI len), .int go, .ref qn])), (qz, .inl (cI, 46, .inl z)), (qa, .inl (cI, 46, .inl as)), (qe, .inl (cI, 276, .inl be)), (qs, .inl (cI, 92, .inl sl)), (qv, .inl (cZ, 2, .inl sv)), (qp, .inl (cI, 60, .inl pd)), (qn, .inl (cI, 36, .inl nd))] sz)) 0 0 (va_A [(qm, .inr (6, [.ref qz, .ref qa, .ref qe, .int (nI sts), .ref qs, .ref qv, .ref qp, .int (nI len), .int go, .ref qn])), (qz, .inl (cI, 46, .inl z)), (qa, .inl (cI, 46, .inl as)), (qe, .inl (cI, 276, .inl be)), (qs, .inl (cI, 92, .inl sl)), (qv, .inl (cZ, 2, .inl sv)), (qp, .inl (cI, 60, .inl pd)), (qn, .inl (cI, 36, .inl nd))] sz) := by
  refine met_bw rfl (Nat.le_of_ble_eq_true rfl) ?_
  intro p e s m below meth c ls hx hb hr hml hown hts hlocks hin hsz hP hK hD0 hX0 hl
  have hown : s.vm.findClass RX6 = some m.cls := hown
  have hl : lv_has ls 3 [(0, .ref qm)] := hl
  subst hsz
  have hD := hD0.self (sz := s.heap.size)
  generalize hAe : va_A [(qm, .inr (6, [.ref qz, .ref qa, .ref qe, .int (nI sts), .ref qs, .ref qv, .ref qp, .int (nI len), .int go, .ref qn])), (qz, .inl (cI, 46, .inl z)), (qa, .inl (cI, 46, .inl as)), (qe, .inl (cI, 276, .inl be)), (qs, .inl (cI, 92, .inl sl)), (qv, .inl (cZ, 2, .inl sv)), (qp, .inl (cI, 60, .inl pd)), (qn, .inl (cI, 36, .inl nd))] s.heap.size = A at hD ⊢
  have hA : ∀ q : Nat, s.heap.size ≤ q → A q := fun q h => by rw [← hAe]; exact Or.inr h
  have hS : va_S A s.heap s.heap [] := va_S.rf
  refine lv_aload_n hx hb dX6_untilOver_0 rfl (lv_at hl 0 rfl) ?_
  have hPc : va_P G vwCl [(qm, .inr (6, [.ref qz, .ref qa, .ref qe, .int (nI sts), .ref qs, .ref qv, .ref qp, .int (nI len), .int go, .ref qn])), (qz, .inl (cI, 46, .inl z)), (qa, .inl (cI, 46, .inl as)), (qe, .inl (cI, 276, .inl be)), (qs, .inl (cI, 92, .inl sl)), (qv, .inl (cZ, 2, .inl sv)), (qp, .inl (cI, 60, .inl pd)), (qn, .inl (cI, 36, .inl nd))] s.heap := hP
  have hDc := hD.tt
  refine vp_callSi (va_Run.run (va_runV (As := []) (rest := []) ⟨hx, hb, hml, hown, hts⟩ (c_X6_hasCast l G cI cC cZ cG s.heap.size qm qz qa qe qs qv qp qn z as be sl sv pd nd sts len go) (cf_RX6_114 hts ⟨Nat.le_of_ble_eq_true rfl, Nat.le_of_ble_eq_true rfl⟩) (pre_V hK hPc hDc (ci := 6) (q0 := 0) rfl rfl) rfl rfl hl.1 rfl (lv_room (Nat.le_of_ble_eq_true rfl)) dX6_untilOver_1 ⟨Nat.le_of_ble_eq_true rfl, Nat.le_of_ble_eq_true rfl⟩)) (fun r636 hr636 => ?_)
  subst hr636
  refine zb_eq (tgt := 10) hx hb dX6_untilOver_4 (by decide) (fun c_637 => ?_) (fun c_637 => ?_)
  · refine lv_aload_n hx hb dX6_untilOver_10 rfl (lv_at hl 0 rfl) ?_
    have hPc : va_P G vwCl [(qm, .inr (6, [.ref qz, .ref qa, .ref qe, .int (nI sts), .ref qs, .ref qv, .ref qp, .int (nI len), .int go, .ref qn])), (qz, .inl (cI, 46, .inl z)), (qa, .inl (cI, 46, .inl as)), (qe, .inl (cI, 276, .inl be)), (qs, .inl (cI, 92, .inl sl)), (qv, .inl (cZ, 2, .inl sv)), (qp, .inl (cI, 60, .inl pd)), (qn, .inl (cI, 36, .inl nd))] s.heap := hP
    have hDc := hD.tt
    have hFc := va_free (wc := [(qm, .inr (6, [.ref qz, .ref qa, .ref qe, .int (nI sts), .ref qs, .ref qv, .ref qp, .int (nI len), .int go, .ref qn])), (qz, .inl (cI, 46, .inl z)), (qa, .inl (cI, 46, .inl as)), (qe, .inl (cI, 276, .inl be)), (qs, .inl (cI, 92, .inl sl)), (qv, .inl (cZ, 2, .inl sv)), (qp, .inl (cI, 60, .inl pd)), (qn, .inl (cI, 36, .inl nd))]) hD hS hA [0, 1, 2, 3, 4, 5, 6, 7] rfl
    refine va_callv (va_runV (As := []) (rest := []) ⟨hx, hb, hml, hown, hts⟩ (c_X6_putAside l G cI cC cZ cG s.heap.size qm qz qa qe qs qv qp qn z as be sl sv pd nd sts len go) (cf_RX6_167 hts ⟨Nat.le_of_ble_eq_true rfl, Nat.le_of_ble_eq_true rfl⟩) (pre_V hK hPc hDc (ci := 6) (q0 := 0) rfl rfl) rfl rfl hl.1 rfl (lv_room (Nat.le_of_ble_eq_true rfl)) dX6_untilOver_11 ⟨Nat.le_of_ble_eq_true rfl, Nat.le_of_ble_eq_true rfl⟩) hS (fun q _ h => hFc q h) hFc (fun u638 t638 H638 locs638 ht638 hvm638 hw638 hB638 hz638 hk638 hS => ?_)
    obtain ⟨as_638, rfl⟩ : ∃ z, z = u638 := ⟨_, rfl⟩
    obtain ⟨hP1, hD1⟩ := hB638
    rw [ht638] at hP1
    try dsimp only at hw638
    obtain ⟨hP, hD⟩ := va_join (wr := []) (w1 := [(qm, .inr (6, [.ref qz, .ref qa, .ref qe, .int (nI sts), .ref qs, .ref qv, .ref qp, .int (nI len), .int go, .ref qn])), (qz, .inl (cI, 46, .inl z)), (qa, .inl (cI, 46, .inl as_638)), (qe, .inl (cI, 276, .inl be)), (qs, .inl (cI, 92, .inl sl)), (qv, .inl (cZ, 2, .inl sv)), (qp, .inl (cI, 60, .inl pd)), (qn, .inl (cI, 36, .inl nd))]) hP hD [0, 1, 2, 3, 4, 5, 6, 7] [] rfl rfl (by decide) (by decide) hk638 hFc hP1 hD1
    have hP : va_P G vwCl [(qm, .inr (6, [.ref qz, .ref qa, .ref qe, .int (nI sts), .ref qs, .ref qv, .ref qp, .int (nI len), .int go, .ref qn])), (qz, .inl (cI, 46, .inl z)), (qa, .inl (cI, 46, .inl as_638)), (qe, .inl (cI, 276, .inl be)), (qs, .inl (cI, 92, .inl sl)), (qv, .inl (cZ, 2, .inl sv)), (qp, .inl (cI, 60, .inl pd)), (qn, .inl (cI, 36, .inl nd))] H638 := hP
    have hD : va_D A [(qm, .inr (6, [.ref qz, .ref qa, .ref qe, .int (nI sts), .ref qs, .ref qv, .ref qp, .int (nI len), .int go, .ref qn])), (qz, .inl (cI, 46, .inl z)), (qa, .inl (cI, 46, .inl as_638)), (qe, .inl (cI, 276, .inl be)), (qs, .inl (cI, 92, .inl sl)), (qv, .inl (cZ, 2, .inl sv)), (qp, .inl (cI, 60, .inl pd)), (qn, .inl (cI, 36, .inl nd))] := hD
    refine lv_aload_n hx hb dX6_untilOver_14 rfl (lv_at hl 0 rfl) ?_
    refine lv_sipush (v := 400) hx hb dX6_untilOver_15 (by decide) ?_
    have hPc : va_P G vwCl [(qm, .inr (6, [.ref qz, .ref qa, .ref qe, .int (nI sts), .ref qs, .ref qv, .ref qp, .int (nI len), .int go, .ref qn])), (qz, .inl (cI, 46, .inl z)), (qa, .inl (cI, 46, .inl as_638)), (qe, .inl (cI, 276, .inl be)), (qs, .inl (cI, 92, .inl sl)), (qv, .inl (cZ, 2, .inl sv)), (qp, .inl (cI, 60, .inl pd)), (qn, .inl (cI, 36, .inl nd))] H638 := hP
    have hDc := hD.tt
    have hFc := va_free (wc := [(qm, .inr (6, [.ref qz, .ref qa, .ref qe, .int (nI sts), .ref qs, .ref qv, .ref qp, .int (nI len), .int go, .ref qn])), (qz, .inl (cI, 46, .inl z)), (qa, .inl (cI, 46, .inl as_638)), (qe, .inl (cI, 276, .inl be)), (qs, .inl (cI, 92, .inl sl)), (qv, .inl (cZ, 2, .inl sv)), (qp, .inl (cI, 60, .inl pd)), (qn, .inl (cI, 36, .inl nd))]) hD hS hA [0, 1, 2, 3, 4, 5, 6, 7] rfl
    refine va_calli (va_runV (As := [.int 400]) (rest := []) ⟨hx, hb, hml, hown, hts⟩ (c_X6_doPlay l G cI cC cZ cG H638.size qm qz qa qe qs qv qp qn z as_638 be sl sv pd nd sts len go 400 (⟨hz, hx0, pl, hpl, h40⟩) (by decide)) (cf_RX6_137 hts ⟨Nat.le_of_ble_eq_true rfl, Nat.le_of_ble_eq_true rfl⟩) (pre_V hK hPc hDc (ci := 6) (q0 := 0) rfl rfl) rfl rfl hl.1 rfl (lv_room (Nat.le_of_ble_eq_true rfl)) dX6_untilOver_18 ⟨Nat.le_of_ble_eq_true rfl, Nat.le_of_ble_eq_true rfl⟩) hS (fun q _ h => hFc q h) hFc (fun r639 u639 t639 H639 locs639 ht639 hvm639 hw639 hB639 hz639 hk639 hS => ?_)
    obtain ⟨z639, go639⟩ := u639
    obtain ⟨hP1, hD1⟩ := hB639
    rw [ht639] at hP1
    try dsimp only at hw639
    obtain ⟨hr639, hw639⟩ := hw639
    subst hr639
    obtain ⟨hP, hD⟩ := va_join (wr := []) (w1 := [(qm, .inr (6, [.ref qz, .ref qa, .ref qe, .int (nI sts), .ref qs, .ref qv, .ref qp, .int (nI len), .int go639, .ref qn])), (qz, .inl (cI, 46, .inl z639)), (qa, .inl (cI, 46, .inl as_638)), (qe, .inl (cI, 276, .inl be)), (qs, .inl (cI, 92, .inl sl)), (qv, .inl (cZ, 2, .inl sv)), (qp, .inl (cI, 60, .inl pd)), (qn, .inl (cI, 36, .inl nd))]) hP hD [0, 1, 2, 3, 4, 5, 6, 7] [] rfl rfl (by decide) (by decide) hk639 hFc hP1 hD1
    have hP : va_P G vwCl [(qm, .inr (6, [.ref qz, .ref qa, .ref qe, .int (nI sts), .ref qs, .ref qv, .ref qp, .int (nI len), .int go639, .ref qn])), (qz, .inl (cI, 46, .inl z639)), (qa, .inl (cI, 46, .inl as_638)), (qe, .inl (cI, 276, .inl be)), (qs, .inl (cI, 92, .inl sl)), (qv, .inl (cZ, 2, .inl sv)), (qp, .inl (cI, 60, .inl pd)), (qn, .inl (cI, 36, .inl nd))] H639 := hP
    have hD : va_D A [(qm, .inr (6, [.ref qz, .ref qa, .ref qe, .int (nI sts), .ref qs, .ref qv, .ref qp, .int (nI len), .int go639, .ref qn])), (qz, .inl (cI, 46, .inl z639)), (qa, .inl (cI, 46, .inl as_638)), (qe, .inl (cI, 276, .inl be)), (qs, .inl (cI, 92, .inl sl)), (qv, .inl (cZ, 2, .inl sv)), (qp, .inl (cI, 60, .inl pd)), (qn, .inl (cI, 36, .inl nd))] := hD
    have eplay := hw639
    refine lv_istore_n (lv' := [(1, .int (nI ((pgM 400 z).2))), (0, .ref qm)]) hx hb dX6_untilOver_21 rfl hl (by decide) rfl (fun ls hl => ?_)
    refine lv_aload_n hx hb dX6_untilOver_22 rfl (lv_at hl 1 rfl) ?_
    have hPc : va_P G vwCl [(qm, .inr (6, [.ref qz, .ref qa, .ref qe, .int (nI sts), .ref qs, .ref qv, .ref qp, .int (nI len), .int go639, .ref qn])), (qz, .inl (cI, 46, .inl z639)), (qa, .inl (cI, 46, .inl as_638)), (qe, .inl (cI, 276, .inl be)), (qs, .inl (cI, 92, .inl sl)), (qv, .inl (cZ, 2, .inl sv)), (qp, .inl (cI, 60, .inl pd)), (qn, .inl (cI, 36, .inl nd))] H639 := hP
    have hDc := hD.tt
    refine vp_callSi (va_Run.run (va_runV (As := []) (rest := []) ⟨hx, hb, hml, hown, hts⟩ (c_X6_isOver l G cI cC cZ cG H639.size qm qz qa qe qs qv qp qn z639 as_638 be sl sv pd nd sts len go639) (cf_RX6_97 hts ⟨Nat.le_of_ble_eq_true rfl, Nat.le_of_ble_eq_true rfl⟩) (pre_V hK hPc hDc (ci := 6) (q0 := 0) rfl rfl) rfl rfl hl.1 rfl (lv_room (Nat.le_of_ble_eq_true rfl)) dX6_untilOver_23 ⟨Nat.le_of_ble_eq_true rfl, Nat.le_of_ble_eq_true rfl⟩)) (fun r640 hr640 => ?_)
    subst hr640
    refine lv_istore_n (lv' := [(2, .int (bz (¬ mwi z639 < 0))), (1, .int (nI ((pgM 400 z).2))), (0, .ref qm)]) hx hb dX6_untilOver_26 rfl hl (by decide) rfl (fun ls hl => ?_)
    refine lv_aload_n hx hb dX6_untilOver_27 rfl (lv_at hl 2 rfl) ?_
    have hPc : va_P G vwCl [(qm, .inr (6, [.ref qz, .ref qa, .ref qe, .int (nI sts), .ref qs, .ref qv, .ref qp, .int (nI len), .int go639, .ref qn])), (qz, .inl (cI, 46, .inl z639)), (qa, .inl (cI, 46, .inl as_638)), (qe, .inl (cI, 276, .inl be)), (qs, .inl (cI, 92, .inl sl)), (qv, .inl (cZ, 2, .inl sv)), (qp, .inl (cI, 60, .inl pd)), (qn, .inl (cI, 36, .inl nd))] H639 := hP
    have hDc := hD.tt
    have hFc := va_free (wc := [(qm, .inr (6, [.ref qz, .ref qa, .ref qe, .int (nI sts), .ref qs, .ref qv, .ref qp, .int (nI len), .int go639, .ref qn])), (qz, .inl (cI, 46, .inl z639)), (qa, .inl (cI, 46, .inl as_638)), (qe, .inl (cI, 276, .inl be)), (qs, .inl (cI, 92, .inl sl)), (qv, .inl (cZ, 2, .inl sv)), (qp, .inl (cI, 60, .inl pd)), (qn, .inl (cI, 36, .inl nd))]) hD hS hA [0, 1, 2, 3, 4, 5, 6, 7] rfl
    refine va_callv (va_runV (As := []) (rest := []) ⟨hx, hb, hml, hown, hts⟩ (c_X6_putBack l G cI cC cZ cG H639.size qm qz qa qe qs qv qp qn z639 as_638 be sl sv pd nd sts len go639) (cf_RX6_170 hts ⟨Nat.le_of_ble_eq_true rfl, Nat.le_of_ble_eq_true rfl⟩) (pre_V hK hPc hDc (ci := 6) (q0 := 0) rfl rfl) rfl rfl hl.1 rfl (lv_room (Nat.le_of_ble_eq_true rfl)) dX6_untilOver_28 ⟨Nat.le_of_ble_eq_true rfl, Nat.le_of_ble_eq_true rfl⟩) hS (fun q _ h => hFc q h) hFc (fun u641 t641 H641 locs641 ht641 hvm641 hw641 hB641 hz641 hk641 hS => ?_)
    obtain ⟨z641, rfl⟩ : ∃ z, z = u641 := ⟨_, rfl⟩
    obtain ⟨hP1, hD1⟩ := hB641
    rw [ht641] at hP1
    try dsimp only at hw641
    obtain ⟨hP, hD⟩ := va_join (wr := []) (w1 := [(qm, .inr (6, [.ref qz, .ref qa, .ref qe, .int (nI sts), .ref qs, .ref qv, .ref qp, .int (nI len), .int go639, .ref qn])), (qz, .inl (cI, 46, .inl z641)), (qa, .inl (cI, 46, .inl as_638)), (qe, .inl (cI, 276, .inl be)), (qs, .inl (cI, 92, .inl sl)), (qv, .inl (cZ, 2, .inl sv)), (qp, .inl (cI, 60, .inl pd)), (qn, .inl (cI, 36, .inl nd))]) hP hD [0, 1, 2, 3, 4, 5, 6, 7] [] rfl rfl (by decide) (by decide) hk641 hFc hP1 hD1
    have hP : va_P G vwCl [(qm, .inr (6, [.ref qz, .ref qa, .ref qe, .int (nI sts), .ref qs, .ref qv, .ref qp, .int (nI len), .int go639, .ref qn])), (qz, .inl (cI, 46, .inl z641)), (qa, .inl (cI, 46, .inl as_638)), (qe, .inl (cI, 276, .inl be)), (qs, .inl (cI, 92, .inl sl)), (qv, .inl (cZ, 2, .inl sv)), (qp, .inl (cI, 60, .inl pd)), (qn, .inl (cI, 36, .inl nd))] H641 := hP
    have hD : va_D A [(qm, .inr (6, [.ref qz, .ref qa, .ref qe, .int (nI sts), .ref qs, .ref qv, .ref qp, .int (nI len), .int go639, .ref qn])), (qz, .inl (cI, 46, .inl z641)), (qa, .inl (cI, 46, .inl as_638)), (qe, .inl (cI, 276, .inl be)), (qs, .inl (cI, 92, .inl sl)), (qv, .inl (cZ, 2, .inl sv)), (qp, .inl (cI, 60, .inl pd)), (qn, .inl (cI, 36, .inl nd))] := hD
    refine lv_iload_n hx hb dX6_untilOver_31 rfl (lv_at hl 0 rfl) ?_
    refine zb_eq (tgt := 39) hx hb dX6_untilOver_32 (by decide) (fun c_642 => ?_) (fun c_642 => ?_)
    · refine lv_bipush (v := (-6)) hx hb dX6_untilOver_39 (by decide) ?_
      exact W.iret (v := (-6)) hx hb hr (fun t ht hW => ⟨⟨(-6), (z641, be, sts, sl, sv, pd, len, as_638, go639, nd), rfl, ⟨by rw [m_untilOver, if_neg c_637, if_neg (by rw [← eplay]; exact c_642)], ⟨fun k hk => (congrFun hw641 k).trans ((cpz_in hk).trans ((congrFun hw638 k).trans (cpz_in hk))), rfl⟩⟩, by rw [ht]; exact hP, hD⟩, hS.F ht⟩) hS.2.2 dX6_untilOver_41
    · refine lv_iload_n hx hb dX6_untilOver_35 rfl (lv_at hl 1 rfl) ?_
      refine lv_goto (tgt := 41) hx hb dX6_untilOver_36 (by decide) ?_
      exact W.iret (v := nI ((pgM 400 z).2)) hx hb hr (fun t ht hW => ⟨⟨nI ((pgM 400 z).2), (z641, be, sts, sl, sv, pd, len, as_638, go639, nd), rfl, ⟨by rw [m_untilOver, if_neg c_637, if_pos (by rw [← eplay]; exact c_642)], ⟨fun k hk => (congrFun hw641 k).trans ((cpz_in hk).trans ((congrFun hw638 k).trans (cpz_in hk))), rfl⟩⟩, by rw [ht]; exact hP, hD⟩, hS.F ht⟩) hS.2.2 dX6_untilOver_41
  · refine lv_bipush (v := (-5)) hx hb dX6_untilOver_7 (by decide) ?_
    exact W.iret (v := (-5)) hx hb hr (fun t ht hW => ⟨⟨(-5), (z, be, sts, sl, sv, pd, len, as, go, nd), rfl, ⟨by rw [m_untilOver, if_pos c_637], ⟨fun _ _ => rfl, rfl⟩⟩, by rw [ht]; exact hP, hD⟩, hS.F ht⟩) hS.2.2 dX6_untilOver_9

abbrev rm_X6_wipe : Room := { frames := 0, cells := 0, slots := 0, locals := 0 }
set_option maxHeartbeats 1000000 in
set_option maxRecDepth 100000 in
theorem c_X6_wipe (l : Launch) (G : va_G) (cI cC cZ cG : ClassId) (sz : Nat) (qm qz qa qe qs qv qp qn : Nat) (z as be sl sv pd nd : IA) (sts len : Nat) (go : Int32) (pl : Nat) (hz : ∀ k, k < 12 → okv (z k)) (hx0 : ¬ z 39 < 0) (hpl : pl < 4) (h40 : z 40 = nI pl) (h4c : okc (z 41)) (hst : sts ≤ 6) (hln : len ≤ 60) : Met l yX6_wipe (.code yX6_wipe cX6_wipe 2 (some .int) :: wsL_law) rm_X6_wipe (va_Pc [.ref qm] (bw G cI cC cZ cG false sz [(qm, .inr (6, [.ref qz, .ref qa, .ref qe, .int (nI sts), .ref qs, .ref qv, .ref qp, .int (nI len), .int go, .ref qn])), (qz, .inl (cI, 46, .inl z)), (qa, .inl (cI, 46, .inl as)), (qe, .inl (cI, 276, .inl be)), (qs, .inl (cI, 92, .inl sl)), (qv, .inl (cZ, 2, .inl sv)), (qp, .inl (cI, 60, .inl pd)), (qn, .inl (cI, 36, .inl nd))])) (va_Qi (fun (r : Int32) (u : MS) => r = (m_wipe (z, be, sts, sl, sv, pd, len)).1 ∧ cor u = (m_wipe (z, be, sts, sl, sv, pd, len)).2) (fun (u : MS) t => va_P G vwCl [(qm, .inr (6, [.ref qz, .ref qa, .ref qe, .int (nI u.2.2.1), .ref qs, .ref qv, .ref qp, .int (nI u.2.2.2.2.2.2.1), .int u.2.2.2.2.2.2.2.2.1, .ref qn])), (qz, .inl (cI, 46, .inl u.1)), (qa, .inl (cI, 46, .inl u.2.2.2.2.2.2.2.1)), (qe, .inl (cI, 276, .inl u.2.1)), (qs, .inl (cI, 92, .inl u.2.2.2.1)), (qv, .inl (cZ, 2, .inl u.2.2.2.2.1)), (qp, .inl (cI, 60, .inl u.2.2.2.2.2.1)), (qn, .inl (cI, 36, .inl u.2.2.2.2.2.2.2.2.2))] t.heap ∧ va_D (va_A [(qm, .inr (6, [.ref qz, .ref qa, .ref qe, .int (nI sts), .ref qs, .ref qv, .ref qp, .int (nI len), .int go, .ref qn])), (qz, .inl (cI, 46, .inl z)), (qa, .inl (cI, 46, .inl as)), (qe, .inl (cI, 276, .inl be)), (qs, .inl (cI, 92, .inl sl)), (qv, .inl (cZ, 2, .inl sv)), (qp, .inl (cI, 60, .inl pd)), (qn, .inl (cI, 36, .inl nd))] sz) [(qm, .inr (6, [.ref qz, .ref qa, .ref qe, .int (nI u.2.2.1), .ref qs, .ref qv, .ref qp, .int (nI u.2.2.2.2.2.2.1), .int u.2.2.2.2.2.2.2.2.1, .ref qn])), (qz, .inl (cI, 46, .inl u.1)), (qa, .inl (cI, 46, .inl u.2.2.2.2.2.2.2.1)), (qe, .inl (cI, 276, .inl u.2.1)), (qs, .inl (cI, 92, .inl u.2.2.2.1)), (qv, .inl (cZ, 2, .inl u.2.2.2.2.1)), (qp, .inl (cI, 60, .inl u.2.2.2.2.2.1)), (qn, .inl (cI, 36, .inl u.2.2.2.2.2.2.2.2.2))]) (va_A [(qm, .inr (6, [.ref qz, .ref qa, .ref qe, .int (nI sts), .ref qs, .ref qv, .ref qp, .int (nI len), .int go, .ref qn])), (qz, .inl (cI, 46, .inl z)), (qa, .inl (cI, 46, .inl as)), (qe, .inl (cI, 276, .inl be)), (qs, .inl (cI, 92, .inl sl)), (qv, .inl (cZ, 2, .inl sv)), (qp, .inl (cI, 60, .inl pd)), (qn, .inl (cI, 36, .inl nd))] sz)) 0 0 (va_A [(qm, .inr (6, [.ref qz, .ref qa, .ref qe, .int (nI sts), .ref qs, .ref qv, .ref qp, .int (nI len), .int go, .ref qn])), (qz, .inl (cI, 46, .inl z)), (qa, .inl (cI, 46, .inl as)), (qe, .inl (cI, 276, .inl be)), (qs, .inl (cI, 92, .inl sl)), (qv, .inl (cZ, 2, .inl sv)), (qp, .inl (cI, 60, .inl pd)), (qn, .inl (cI, 36, .inl nd))] sz) := by
  refine met_bw rfl (Nat.le_of_ble_eq_true rfl) ?_
  intro p e s m below meth c ls hx hb hr hml hown hts hlocks hin hsz hP hK hD0 hX0 hl
  have hown : s.vm.findClass RX6 = some m.cls := hown
  have hl : lv_has ls 2 [(0, .ref qm)] := hl
  subst hsz
  have hD := hD0.self (sz := s.heap.size)
  generalize hAe : va_A [(qm, .inr (6, [.ref qz, .ref qa, .ref qe, .int (nI sts), .ref qs, .ref qv, .ref qp, .int (nI len), .int go, .ref qn])), (qz, .inl (cI, 46, .inl z)), (qa, .inl (cI, 46, .inl as)), (qe, .inl (cI, 276, .inl be)), (qs, .inl (cI, 92, .inl sl)), (qv, .inl (cZ, 2, .inl sv)), (qp, .inl (cI, 60, .inl pd)), (qn, .inl (cI, 36, .inl nd))] s.heap.size = A at hD ⊢
  have hA : ∀ q : Nat, s.heap.size ≤ q → A q := fun q h => by rw [← hAe]; exact Or.inr h
  have hS : va_S A s.heap s.heap [] := va_S.rf
  refine lv_aload_n hx hb dX6_wipe_0 rfl (lv_at hl 0 rfl) ?_
  refine va_get (D := G) (ci := 6) (v := .int (nI len)) (C := RX6) (T := TX6) (N := 10) hx hb hts inlX6 hown hK.1 hP 0 rfl rfl 7 (by decide) (hts _ wd402) (fun _ h9 => h9) rfl dX6_wipe_1 ?_
  refine lv_istore_n (lv' := [(1, .int (nI len)), (0, .ref qm)]) hx hb dX6_wipe_4 rfl hl (by decide) rfl (fun ls hl => ?_)
  refine lv_aload_n hx hb dX6_wipe_5 rfl (lv_at hl 1 rfl) ?_
  refine lv_iconst (v := 0) hx hb dX6_wipe_6 (by decide) ?_
  refine va_put (D := G) (ci := 6) (v := .int 0) (ty := .int) (C := RX6) (T := TX6) (N := 10) hx hb hts inlX6 tyX6 tyX6_ok nmX6 hown hK.1 hP hD hS 0 rfl rfl 7 (by decide) (hts _ wd402) (fun _ h9 => h9) rfl (by decide +kernel) rfl rfl (Nat.le_of_ble_eq_true rfl) dX6_wipe_7 (fun H643 locs643 hP hD hS => ?_)
  have hP : va_P G vwCl [(qm, .inr (6, [.ref qz, .ref qa, .ref qe, .int (nI sts), .ref qs, .ref qv, .ref qp, .int 0, .int go, .ref qn])), (qz, .inl (cI, 46, .inl z)), (qa, .inl (cI, 46, .inl as)), (qe, .inl (cI, 276, .inl be)), (qs, .inl (cI, 92, .inl sl)), (qv, .inl (cZ, 2, .inl sv)), (qp, .inl (cI, 60, .inl pd)), (qn, .inl (cI, 36, .inl nd))] H643 := hP
  have hD : va_D A [(qm, .inr (6, [.ref qz, .ref qa, .ref qe, .int (nI sts), .ref qs, .ref qv, .ref qp, .int 0, .int go, .ref qn])), (qz, .inl (cI, 46, .inl z)), (qa, .inl (cI, 46, .inl as)), (qe, .inl (cI, 276, .inl be)), (qs, .inl (cI, 92, .inl sl)), (qv, .inl (cZ, 2, .inl sv)), (qp, .inl (cI, 60, .inl pd)), (qn, .inl (cI, 36, .inl nd))] := hD
  refine lv_iload_n hx hb dX6_wipe_10 rfl (lv_at hl 0 rfl) ?_
  exact W.iret (v := nI len) hx hb hr (fun t ht hW => ⟨⟨nI len, (z, be, sts, sl, sv, pd, 0, as, go, nd), rfl, ⟨rfl, rfl⟩, by rw [ht]; exact hP, hD⟩, hS.F ht⟩) hS.2.2 dX6_wipe_11

abbrev rm_X6_undo : Room := { frames := 0, cells := 0, slots := 0, locals := 0 }
set_option maxHeartbeats 1000000 in
set_option maxRecDepth 100000 in
theorem c_X6_undo (l : Launch) (G : va_G) (cI cC cZ cG : ClassId) (sz : Nat) (qm qz qa qe qs qv qp qn : Nat) (z as be sl sv pd nd : IA) (sts len : Nat) (go : Int32) (pl : Nat) (hz : ∀ k, k < 12 → okv (z k)) (hx0 : ¬ z 39 < 0) (hpl : pl < 4) (h40 : z 40 = nI pl) (h4c : okc (z 41)) (hst : sts ≤ 6) (hln : len ≤ 60) : Met l yX6_undo (.code yX6_undo cX6_undo 2 (some .int) :: wsL_law) rm_X6_undo (va_Pc [.ref qm] (bw G cI cC cZ cG false sz [(qm, .inr (6, [.ref qz, .ref qa, .ref qe, .int (nI sts), .ref qs, .ref qv, .ref qp, .int (nI len), .int go, .ref qn])), (qz, .inl (cI, 46, .inl z)), (qa, .inl (cI, 46, .inl as)), (qe, .inl (cI, 276, .inl be)), (qs, .inl (cI, 92, .inl sl)), (qv, .inl (cZ, 2, .inl sv)), (qp, .inl (cI, 60, .inl pd)), (qn, .inl (cI, 36, .inl nd))])) (va_Qi (fun (r : Int32) (u : MS) => r = (m_undo (z, be, sts, sl, sv, pd, len)).1 ∧ cor u = (m_undo (z, be, sts, sl, sv, pd, len)).2) (fun (u : MS) t => va_P G vwCl [(qm, .inr (6, [.ref qz, .ref qa, .ref qe, .int (nI u.2.2.1), .ref qs, .ref qv, .ref qp, .int (nI u.2.2.2.2.2.2.1), .int u.2.2.2.2.2.2.2.2.1, .ref qn])), (qz, .inl (cI, 46, .inl u.1)), (qa, .inl (cI, 46, .inl u.2.2.2.2.2.2.2.1)), (qe, .inl (cI, 276, .inl u.2.1)), (qs, .inl (cI, 92, .inl u.2.2.2.1)), (qv, .inl (cZ, 2, .inl u.2.2.2.2.1)), (qp, .inl (cI, 60, .inl u.2.2.2.2.2.1)), (qn, .inl (cI, 36, .inl u.2.2.2.2.2.2.2.2.2))] t.heap ∧ va_D (va_A [(qm, .inr (6, [.ref qz, .ref qa, .ref qe, .int (nI sts), .ref qs, .ref qv, .ref qp, .int (nI len), .int go, .ref qn])), (qz, .inl (cI, 46, .inl z)), (qa, .inl (cI, 46, .inl as)), (qe, .inl (cI, 276, .inl be)), (qs, .inl (cI, 92, .inl sl)), (qv, .inl (cZ, 2, .inl sv)), (qp, .inl (cI, 60, .inl pd)), (qn, .inl (cI, 36, .inl nd))] sz) [(qm, .inr (6, [.ref qz, .ref qa, .ref qe, .int (nI u.2.2.1), .ref qs, .ref qv, .ref qp, .int (nI u.2.2.2.2.2.2.1), .int u.2.2.2.2.2.2.2.2.1, .ref qn])), (qz, .inl (cI, 46, .inl u.1)), (qa, .inl (cI, 46, .inl u.2.2.2.2.2.2.2.1)), (qe, .inl (cI, 276, .inl u.2.1)), (qs, .inl (cI, 92, .inl u.2.2.2.1)), (qv, .inl (cZ, 2, .inl u.2.2.2.2.1)), (qp, .inl (cI, 60, .inl u.2.2.2.2.2.1)), (qn, .inl (cI, 36, .inl u.2.2.2.2.2.2.2.2.2))]) (va_A [(qm, .inr (6, [.ref qz, .ref qa, .ref qe, .int (nI sts), .ref qs, .ref qv, .ref qp, .int (nI len), .int go, .ref qn])), (qz, .inl (cI, 46, .inl z)), (qa, .inl (cI, 46, .inl as)), (qe, .inl (cI, 276, .inl be)), (qs, .inl (cI, 92, .inl sl)), (qv, .inl (cZ, 2, .inl sv)), (qp, .inl (cI, 60, .inl pd)), (qn, .inl (cI, 36, .inl nd))] sz)) 0 0 (va_A [(qm, .inr (6, [.ref qz, .ref qa, .ref qe, .int (nI sts), .ref qs, .ref qv, .ref qp, .int (nI len), .int go, .ref qn])), (qz, .inl (cI, 46, .inl z)), (qa, .inl (cI, 46, .inl as)), (qe, .inl (cI, 276, .inl be)), (qs, .inl (cI, 92, .inl sl)), (qv, .inl (cZ, 2, .inl sv)), (qp, .inl (cI, 60, .inl pd)), (qn, .inl (cI, 36, .inl nd))] sz) := by
  refine met_bw rfl (Nat.le_of_ble_eq_true rfl) ?_
  intro p e s m below meth c ls hx hb hr hml hown hts hlocks hin hsz hP hK hD0 hX0 hl
  have hown : s.vm.findClass RX6 = some m.cls := hown
  have hl : lv_has ls 2 [(0, .ref qm)] := hl
  subst hsz
  have hD := hD0.self (sz := s.heap.size)
  generalize hAe : va_A [(qm, .inr (6, [.ref qz, .ref qa, .ref qe, .int (nI sts), .ref qs, .ref qv, .ref qp, .int (nI len), .int go, .ref qn])), (qz, .inl (cI, 46, .inl z)), (qa, .inl (cI, 46, .inl as)), (qe, .inl (cI, 276, .inl be)), (qs, .inl (cI, 92, .inl sl)), (qv, .inl (cZ, 2, .inl sv)), (qp, .inl (cI, 60, .inl pd)), (qn, .inl (cI, 36, .inl nd))] s.heap.size = A at hD ⊢
  have hA : ∀ q : Nat, s.heap.size ≤ q → A q := fun q h => by rw [← hAe]; exact Or.inr h
  have hS : va_S A s.heap s.heap [] := va_S.rf
  generalize hQ : MQ below (va_Qi (fun (r : Int32) (u : MS) => r = (m_undo (z, be, sts, sl, sv, pd, len)).1 ∧ cor u = (m_undo (z, be, sts, sl, sv, pd, len)).2) (fun (u : MS) t => va_P G vwCl [(qm, .inr (6, [.ref qz, .ref qa, .ref qe, .int (nI u.2.2.1), .ref qs, .ref qv, .ref qp, .int (nI u.2.2.2.2.2.2.1), .int u.2.2.2.2.2.2.2.2.1, .ref qn])), (qz, .inl (cI, 46, .inl u.1)), (qa, .inl (cI, 46, .inl u.2.2.2.2.2.2.2.1)), (qe, .inl (cI, 276, .inl u.2.1)), (qs, .inl (cI, 92, .inl u.2.2.2.1)), (qv, .inl (cZ, 2, .inl u.2.2.2.2.1)), (qp, .inl (cI, 60, .inl u.2.2.2.2.2.1)), (qn, .inl (cI, 36, .inl u.2.2.2.2.2.2.2.2.2))] t.heap ∧ va_D A [(qm, .inr (6, [.ref qz, .ref qa, .ref qe, .int (nI u.2.2.1), .ref qs, .ref qv, .ref qp, .int (nI u.2.2.2.2.2.2.1), .int u.2.2.2.2.2.2.2.2.1, .ref qn])), (qz, .inl (cI, 46, .inl u.1)), (qa, .inl (cI, 46, .inl u.2.2.2.2.2.2.2.1)), (qe, .inl (cI, 276, .inl u.2.1)), (qs, .inl (cI, 92, .inl u.2.2.2.1)), (qv, .inl (cZ, 2, .inl u.2.2.2.2.1)), (qp, .inl (cI, 60, .inl u.2.2.2.2.2.1)), (qn, .inl (cI, 36, .inl u.2.2.2.2.2.2.2.2.2))]) A) ([.ref qm] : List Value).toArray s 0 0 A = Q
  generalize hag : ([.ref qm] : List Value).toArray = ag at hts hQ ⊢
  refine lv_aload_n hx hb dX6_undo_0 rfl (lv_at hl 0 rfl) ?_
  refine va_get (D := G) (ci := 6) (v := .int (nI sts)) (C := RX6) (T := TX6) (N := 10) hx hb hts inlX6 hown hK.1 hP 0 rfl rfl 3 (by decide) (hts _ wd123) (fun _ h9 => h9) rfl dX6_undo_1 ?_
  refine z0_ne (tgt := 10) hx hb sts dX6_undo_4 (by decide) rfl (by omega) (fun c_644 => ?_) (fun c_644 => ?_)
  · refine lv_aload_n hx hb dX6_undo_10 rfl (lv_at hl 0 rfl) ?_
    refine lv_dup hx hb dX6_undo_11 rfl ?_
    refine va_get (D := G) (ci := 6) (v := .int (nI sts)) (C := RX6) (T := TX6) (N := 10) hx hb hts inlX6 hown hK.1 hP 0 rfl rfl 3 (by decide) (hts _ wd123) (fun _ h9 => h9) rfl dX6_undo_12 ?_
    refine lv_iconst (v := 1) hx hb dX6_undo_15 (by decide) ?_
    refine zi_sub hx hb sts 1 dX6_undo_16 rfl rfl (by omega) ?_
    refine va_put (D := G) (ci := 6) (v := .int (nI (sts - 1))) (ty := .int) (C := RX6) (T := TX6) (N := 10) hx hb hts inlX6 tyX6 tyX6_ok nmX6 hown hK.1 hP hD hS 0 rfl rfl 3 (by decide) (hts _ wd123) (fun _ h9 => h9) rfl (by decide +kernel) rfl rfl (Nat.le_of_ble_eq_true rfl) dX6_undo_17 (fun H645 locs645 hP hD hS => ?_)
    have hP : va_P G vwCl [(qm, .inr (6, [.ref qz, .ref qa, .ref qe, .int (nI (sts - 1)), .ref qs, .ref qv, .ref qp, .int (nI len), .int go, .ref qn])), (qz, .inl (cI, 46, .inl z)), (qa, .inl (cI, 46, .inl as)), (qe, .inl (cI, 276, .inl be)), (qs, .inl (cI, 92, .inl sl)), (qv, .inl (cZ, 2, .inl sv)), (qp, .inl (cI, 60, .inl pd)), (qn, .inl (cI, 36, .inl nd))] H645 := hP
    have hD : va_D A [(qm, .inr (6, [.ref qz, .ref qa, .ref qe, .int (nI (sts - 1)), .ref qs, .ref qv, .ref qp, .int (nI len), .int go, .ref qn])), (qz, .inl (cI, 46, .inl z)), (qa, .inl (cI, 46, .inl as)), (qe, .inl (cI, 276, .inl be)), (qs, .inl (cI, 92, .inl sl)), (qv, .inl (cZ, 2, .inl sv)), (qp, .inl (cI, 60, .inl pd)), (qn, .inl (cI, 36, .inl nd))] := hD
    refine lv_iconst (v := 0) hx hb dX6_undo_20 (by decide) ?_
    refine lv_istore_n (lv' := [(1, .int 0), (0, .ref qm)]) hx hb dX6_undo_21 rfl hl (by decide) rfl (fun ls hl => ?_)
    have L1 : ∀ (n : Nat), ∀ (i : Nat), ∀ (zc : IA), ∀ (hi : i ≤ 46), ∀ (hf2 : zc = cpz z be 0 (46 * (sts - 1)) i), ∀ (hn : 47 ≤ i + n), ∀ (H646 : Heap) (locs646 : List Loc), va_P G vwCl [(qm, .inr (6, [.ref qz, .ref qa, .ref qe, .int (nI (sts - 1)), .ref qs, .ref qv, .ref qp, .int (nI len), .int go, .ref qn])), (qz, .inl (cI, 46, .inl zc)), (qa, .inl (cI, 46, .inl as)), (qe, .inl (cI, 276, .inl be)), (qs, .inl (cI, 92, .inl sl)), (qv, .inl (cZ, 2, .inl sv)), (qp, .inl (cI, 60, .inl pd)), (qn, .inl (cI, 36, .inl nd))] H646 → va_D A [(qm, .inr (6, [.ref qz, .ref qa, .ref qe, .int (nI (sts - 1)), .ref qs, .ref qv, .ref qp, .int (nI len), .int go, .ref qn])), (qz, .inl (cI, 46, .inl zc)), (qa, .inl (cI, 46, .inl as)), (qe, .inl (cI, 276, .inl be)), (qs, .inl (cI, 92, .inl sl)), (qv, .inl (cZ, 2, .inl sv)), (qp, .inl (cI, 60, .inl pd)), (qn, .inl (cI, 36, .inl nd))] → va_S A s.heap H646 locs646 → ∀ (ls : Array Slot), lv_has ls 2 [(1, .int (nI i)), (0, .ref qm)] → W p l e rm_X6_undo s m ag below meth c H646 locs646 0 0 Q (F0 m 22 ls []) := by
      intro n
      induction n with
      | zero =>
        intro i zc hi hf2 hn H646 locs646 hP hD hS ls hl
        omega
      | succ n ih1 =>
        intro i zc hi hf2 hn H646 locs646 hP hD hS ls hl
        refine lv_iload_n hx hb dX6_undo_22 rfl (lv_at hl 0 rfl) ?_
        refine lv_bipush (v := 46) hx hb dX6_undo_23 (by decide) ?_
        refine zi_ge (tgt := 54) hx hb i 46 dX6_undo_25 (by decide) rfl rfl (by omega) (by decide) (fun c_647 => ?_) (fun c_647 => ?_)
        · refine lv_aload_n hx hb dX6_undo_54 rfl (lv_at hl 1 rfl) ?_
          refine va_get (D := G) (ci := 6) (v := .int (nI (sts - 1))) (C := RX6) (T := TX6) (N := 10) hx hb hts inlX6 hown hK.1 hP 0 rfl rfl 3 (by decide) (hts _ wd123) (fun _ h9 => h9) rfl dX6_undo_55 ?_
          subst hQ
          exact W.iret (v := nI (sts - 1)) hx hb hr (fun t ht hW => ⟨⟨nI (sts - 1), (zc, be, sts - 1, sl, sv, pd, len, as, go, nd), rfl, ⟨by show _ = Prod.fst (_ : Int32 × KS); rw [m_undo, if_neg c_644], by rw [m_undo, if_neg c_644]; exact cor_eq (by rw [hf2, show i = 46 by omega]) rfl rfl rfl rfl rfl rfl⟩, by rw [ht]; exact hP, hD⟩, hS.F ht⟩) hS.2.2 dX6_undo_58
        · refine lv_aload_n hx hb dX6_undo_28 rfl (lv_at hl 1 rfl) ?_
          refine va_get (D := G) (ci := 6) (v := .ref qz) (C := RX6) (T := TX6) (N := 10) hx hb hts inlX6 hown hK.1 hP 0 rfl rfl 0 (by decide) (hts _ wd78) (fun _ h9 => h9) rfl dX6_undo_29 ?_
          refine lv_iload_n hx hb dX6_undo_32 rfl (lv_at hl 0 rfl) ?_
          refine lv_aload_n hx hb dX6_undo_33 rfl (lv_at hl 1 rfl) ?_
          refine va_get (D := G) (ci := 6) (v := .ref qe) (C := RX6) (T := TX6) (N := 10) hx hb hts inlX6 hown hK.1 hP 0 rfl rfl 2 (by decide) (hts _ wd80) (fun _ h9 => h9) rfl dX6_undo_34 ?_
          refine lv_bipush (v := 46) hx hb dX6_undo_37 (by decide) ?_
          refine lv_aload_n hx hb dX6_undo_39 rfl (lv_at hl 1 rfl) ?_
          refine va_get (D := G) (ci := 6) (v := .int (nI (sts - 1))) (C := RX6) (T := TX6) (N := 10) hx hb hts inlX6 hown hK.1 hP 0 rfl rfl 3 (by decide) (hts _ wd123) (fun _ h9 => h9) rfl dX6_undo_40 ?_
          refine zi_mul hx hb 46 (sts - 1) dX6_undo_43 rfl rfl ?_
          refine lv_iload_n hx hb dX6_undo_44 rfl (lv_at hl 0 rfl) ?_
          refine zi_add hx hb (46 * (sts - 1)) i dX6_undo_45 rfl rfl ?_
          refine za_ld hx hb hK.1 hP 3 0 rfl rfl ((46 * (sts - 1)) + i) rfl (by omega) (by decide) dX6_undo_46 ?_
          refine za_st hx hb hK.1 hP hD hS 1 0 rfl rfl i rfl (by omega) (by decide) dX6_undo_47 (fun H648 locs648 hP hD hS => ?_)
          have hP : va_P G vwCl [(qm, .inr (6, [.ref qz, .ref qa, .ref qe, .int (nI (sts - 1)), .ref qs, .ref qv, .ref qp, .int (nI len), .int go, .ref qn])), (qz, .inl (cI, 46, .inl (upd zc i (be ((46 * (sts - 1)) + i))))), (qa, .inl (cI, 46, .inl as)), (qe, .inl (cI, 276, .inl be)), (qs, .inl (cI, 92, .inl sl)), (qv, .inl (cZ, 2, .inl sv)), (qp, .inl (cI, 60, .inl pd)), (qn, .inl (cI, 36, .inl nd))] H648 := hP
          have hD : va_D A [(qm, .inr (6, [.ref qz, .ref qa, .ref qe, .int (nI (sts - 1)), .ref qs, .ref qv, .ref qp, .int (nI len), .int go, .ref qn])), (qz, .inl (cI, 46, .inl (upd zc i (be ((46 * (sts - 1)) + i))))), (qa, .inl (cI, 46, .inl as)), (qe, .inl (cI, 276, .inl be)), (qs, .inl (cI, 92, .inl sl)), (qv, .inl (cZ, 2, .inl sv)), (qp, .inl (cI, 60, .inl pd)), (qn, .inl (cI, 36, .inl nd))] := hD
          refine lv_iinc (v := nI (i + 1)) (lv' := [(1, .int (nI (i + 1))), (0, .ref qm)]) hx hb dX6_undo_48 hl (k := 0) rfl (nI_inc i) (by decide) rfl (fun ls hl => ?_)
          refine lv_goto (tgt := 22) hx hb dX6_undo_51 (by decide) ?_
          exact ih1 (i + 1) (upd zc i (be ((46 * (sts - 1)) + i))) (by omega) (by rw [cpz, ← hf2, Nat.zero_add]) (by omega) H648 locs648 hP hD hS _ (lv_sub hl [0, 1] rfl)
    exact L1 47 0 z (by decide) rfl (by decide) H645 locs645 hP hD hS _ (lv_sub hl [0, 1] rfl)
  · refine lv_bipush (v := (-5)) hx hb dX6_undo_7 (by decide) ?_
    subst hQ
    exact W.iret (v := (-5)) hx hb hr (fun t ht hW => ⟨⟨(-5), (z, be, sts, sl, sv, pd, len, as, go, nd), rfl, ⟨by show _ = Prod.fst (_ : Int32 × KS); rw [m_undo, if_pos c_644], by rw [m_undo, if_pos c_644]; rfl⟩, by rw [ht]; exact hP, hD⟩, hS.F ht⟩) hS.2.2 dX6_undo_9

abbrev rm_X6_save : Room := { frames := 1, cells := 0, slots := 0, locals := 22 }
set_option maxHeartbeats 1000000 in
set_option maxRecDepth 100000 in
theorem c_X6_save (l : Launch) (G : va_G) (cI cC cZ cG : ClassId) (sz : Nat) (qm qz qa qe qs qv qp qn : Nat) (z as be sl sv pd nd : IA) (sts len : Nat) (go : Int32) (pl : Nat) (s0 : Int32) (hz : ∀ k, k < 12 → okv (z k)) (hx0 : ¬ z 39 < 0) (hpl : pl < 4) (h40 : z 40 = nI pl) (h4c : okc (z 41)) (hst : sts ≤ 6) (hln : len ≤ 60) : Met l yX6_save (.code yX6_save cX6_save 3 (some .int) :: wsL_law) rm_X6_save (va_Pc [.ref qm, .int s0] (bw G cI cC cZ cG false sz [(qm, .inr (6, [.ref qz, .ref qa, .ref qe, .int (nI sts), .ref qs, .ref qv, .ref qp, .int (nI len), .int go, .ref qn])), (qz, .inl (cI, 46, .inl z)), (qa, .inl (cI, 46, .inl as)), (qe, .inl (cI, 276, .inl be)), (qs, .inl (cI, 92, .inl sl)), (qv, .inl (cZ, 2, .inl sv)), (qp, .inl (cI, 60, .inl pd)), (qn, .inl (cI, 36, .inl nd))])) (va_Qi (fun (r : Int32) (u : MS) => r = (m_save s0 (z, be, sts, sl, sv, pd, len)).1 ∧ cor u = (m_save s0 (z, be, sts, sl, sv, pd, len)).2) (fun (u : MS) t => va_P G vwCl [(qm, .inr (6, [.ref qz, .ref qa, .ref qe, .int (nI u.2.2.1), .ref qs, .ref qv, .ref qp, .int (nI u.2.2.2.2.2.2.1), .int u.2.2.2.2.2.2.2.2.1, .ref qn])), (qz, .inl (cI, 46, .inl u.1)), (qa, .inl (cI, 46, .inl u.2.2.2.2.2.2.2.1)), (qe, .inl (cI, 276, .inl u.2.1)), (qs, .inl (cI, 92, .inl u.2.2.2.1)), (qv, .inl (cZ, 2, .inl u.2.2.2.2.1)), (qp, .inl (cI, 60, .inl u.2.2.2.2.2.1)), (qn, .inl (cI, 36, .inl u.2.2.2.2.2.2.2.2.2))] t.heap ∧ va_D (va_A [(qm, .inr (6, [.ref qz, .ref qa, .ref qe, .int (nI sts), .ref qs, .ref qv, .ref qp, .int (nI len), .int go, .ref qn])), (qz, .inl (cI, 46, .inl z)), (qa, .inl (cI, 46, .inl as)), (qe, .inl (cI, 276, .inl be)), (qs, .inl (cI, 92, .inl sl)), (qv, .inl (cZ, 2, .inl sv)), (qp, .inl (cI, 60, .inl pd)), (qn, .inl (cI, 36, .inl nd))] sz) [(qm, .inr (6, [.ref qz, .ref qa, .ref qe, .int (nI u.2.2.1), .ref qs, .ref qv, .ref qp, .int (nI u.2.2.2.2.2.2.1), .int u.2.2.2.2.2.2.2.2.1, .ref qn])), (qz, .inl (cI, 46, .inl u.1)), (qa, .inl (cI, 46, .inl u.2.2.2.2.2.2.2.1)), (qe, .inl (cI, 276, .inl u.2.1)), (qs, .inl (cI, 92, .inl u.2.2.2.1)), (qv, .inl (cZ, 2, .inl u.2.2.2.2.1)), (qp, .inl (cI, 60, .inl u.2.2.2.2.2.1)), (qn, .inl (cI, 36, .inl u.2.2.2.2.2.2.2.2.2))]) (va_A [(qm, .inr (6, [.ref qz, .ref qa, .ref qe, .int (nI sts), .ref qs, .ref qv, .ref qp, .int (nI len), .int go, .ref qn])), (qz, .inl (cI, 46, .inl z)), (qa, .inl (cI, 46, .inl as)), (qe, .inl (cI, 276, .inl be)), (qs, .inl (cI, 92, .inl sl)), (qv, .inl (cZ, 2, .inl sv)), (qp, .inl (cI, 60, .inl pd)), (qn, .inl (cI, 36, .inl nd))] sz)) 0 0 (va_A [(qm, .inr (6, [.ref qz, .ref qa, .ref qe, .int (nI sts), .ref qs, .ref qv, .ref qp, .int (nI len), .int go, .ref qn])), (qz, .inl (cI, 46, .inl z)), (qa, .inl (cI, 46, .inl as)), (qe, .inl (cI, 276, .inl be)), (qs, .inl (cI, 92, .inl sl)), (qv, .inl (cZ, 2, .inl sv)), (qp, .inl (cI, 60, .inl pd)), (qn, .inl (cI, 36, .inl nd))] sz) := by
  refine met_bw rfl (Nat.le_of_ble_eq_true rfl) ?_
  intro p e s m below meth c ls hx hb hr hml hown hts hlocks hin hsz hP hK hD0 hX0 hl
  have hown : s.vm.findClass RX6 = some m.cls := hown
  have hl : lv_has ls 3 [(0, .ref qm), (1, .int s0)] := hl
  subst hsz
  have hD := hD0.self (sz := s.heap.size)
  generalize hAe : va_A [(qm, .inr (6, [.ref qz, .ref qa, .ref qe, .int (nI sts), .ref qs, .ref qv, .ref qp, .int (nI len), .int go, .ref qn])), (qz, .inl (cI, 46, .inl z)), (qa, .inl (cI, 46, .inl as)), (qe, .inl (cI, 276, .inl be)), (qs, .inl (cI, 92, .inl sl)), (qv, .inl (cZ, 2, .inl sv)), (qp, .inl (cI, 60, .inl pd)), (qn, .inl (cI, 36, .inl nd))] s.heap.size = A at hD ⊢
  have hA : ∀ q : Nat, s.heap.size ≤ q → A q := fun q h => by rw [← hAe]; exact Or.inr h
  have hS : va_S A s.heap s.heap [] := va_S.rf
  generalize hQ : MQ below (va_Qi (fun (r : Int32) (u : MS) => r = (m_save s0 (z, be, sts, sl, sv, pd, len)).1 ∧ cor u = (m_save s0 (z, be, sts, sl, sv, pd, len)).2) (fun (u : MS) t => va_P G vwCl [(qm, .inr (6, [.ref qz, .ref qa, .ref qe, .int (nI u.2.2.1), .ref qs, .ref qv, .ref qp, .int (nI u.2.2.2.2.2.2.1), .int u.2.2.2.2.2.2.2.2.1, .ref qn])), (qz, .inl (cI, 46, .inl u.1)), (qa, .inl (cI, 46, .inl u.2.2.2.2.2.2.2.1)), (qe, .inl (cI, 276, .inl u.2.1)), (qs, .inl (cI, 92, .inl u.2.2.2.1)), (qv, .inl (cZ, 2, .inl u.2.2.2.2.1)), (qp, .inl (cI, 60, .inl u.2.2.2.2.2.1)), (qn, .inl (cI, 36, .inl u.2.2.2.2.2.2.2.2.2))] t.heap ∧ va_D A [(qm, .inr (6, [.ref qz, .ref qa, .ref qe, .int (nI u.2.2.1), .ref qs, .ref qv, .ref qp, .int (nI u.2.2.2.2.2.2.1), .int u.2.2.2.2.2.2.2.2.1, .ref qn])), (qz, .inl (cI, 46, .inl u.1)), (qa, .inl (cI, 46, .inl u.2.2.2.2.2.2.2.1)), (qe, .inl (cI, 276, .inl u.2.1)), (qs, .inl (cI, 92, .inl u.2.2.2.1)), (qv, .inl (cZ, 2, .inl u.2.2.2.2.1)), (qp, .inl (cI, 60, .inl u.2.2.2.2.2.1)), (qn, .inl (cI, 36, .inl u.2.2.2.2.2.2.2.2.2))]) A) ([.ref qm, .int s0] : List Value).toArray s 0 0 A = Q
  generalize hag : ([.ref qm, .int s0] : List Value).toArray = ag at hts hQ ⊢
  refine lv_iload_n hx hb dX6_save_0 rfl (lv_at hl 1 rfl) ?_
  refine lv_iconst (v := 0) hx hb dX6_save_1 (by decide) ?_
  refine lv_iconst (v := 1) hx hb dX6_save_2 (by decide) ?_
  refine vp_callSi (va_Run.run (va_runS (As := [.int s0, .int 0, .int 1]) (rest := []) ⟨hx, hb, hml, hown, hts⟩ (c_X6_in l s0 0 1) (cf_RX6_32 hts ⟨Nat.le_of_ble_eq_true rfl, Nat.le_of_ble_eq_true rfl⟩) pre_P rfl rfl hl.1 rfl (lv_room (Nat.le_of_ble_eq_true rfl)) dX6_save_3 ⟨Nat.le_of_ble_eq_true rfl, Nat.le_of_ble_eq_true rfl⟩)) (fun r649 hr649 => ?_)
  subst hr649
  refine zb_ne (tgt := 12) hx hb dX6_save_6 (by decide) (fun c_650 => ?_) (fun c_650 => ?_)
  · obtain ⟨j, hj0, hj, rfl⟩ := inQ_nI (lo := 0) (hi := 1) (by decide) (by decide) c_650
    refine lv_iconst (v := 0) hx hb dX6_save_12 (by decide) ?_
    refine lv_istore_n (lv' := [(2, .int 0), (0, .ref qm), (1, .int (nI j))]) hx hb dX6_save_13 rfl hl (by decide) rfl (fun ls hl => ?_)
    have L1 : ∀ (n : Nat), ∀ (i : Nat), ∀ (zc : IA), ∀ (hi : i ≤ 46), ∀ (hf2 : zc = cpz sl z (46 * j) 0 i), ∀ (hn : 47 ≤ i + n), ∀ (H651 : Heap) (locs651 : List Loc), va_P G vwCl [(qm, .inr (6, [.ref qz, .ref qa, .ref qe, .int (nI sts), .ref qs, .ref qv, .ref qp, .int (nI len), .int go, .ref qn])), (qz, .inl (cI, 46, .inl z)), (qa, .inl (cI, 46, .inl as)), (qe, .inl (cI, 276, .inl be)), (qs, .inl (cI, 92, .inl zc)), (qv, .inl (cZ, 2, .inl sv)), (qp, .inl (cI, 60, .inl pd)), (qn, .inl (cI, 36, .inl nd))] H651 → va_D A [(qm, .inr (6, [.ref qz, .ref qa, .ref qe, .int (nI sts), .ref qs, .ref qv, .ref qp, .int (nI len), .int go, .ref qn])), (qz, .inl (cI, 46, .inl z)), (qa, .inl (cI, 46, .inl as)), (qe, .inl (cI, 276, .inl be)), (qs, .inl (cI, 92, .inl zc)), (qv, .inl (cZ, 2, .inl sv)), (qp, .inl (cI, 60, .inl pd)), (qn, .inl (cI, 36, .inl nd))] → va_S A s.heap H651 locs651 → ∀ (ls : Array Slot), lv_has ls 3 [(2, .int (nI i)), (0, .ref qm), (1, .int (nI j))] → W p l e rm_X6_save s m ag below meth c H651 locs651 0 0 Q (F0 m 14 ls []) := by
      intro n
      induction n with
      | zero =>
        intro i zc hi hf2 hn H651 locs651 hP hD hS ls hl
        omega
      | succ n ih1 =>
        intro i zc hi hf2 hn H651 locs651 hP hD hS ls hl
        refine lv_iload_n hx hb dX6_save_14 rfl (lv_at hl 0 rfl) ?_
        refine lv_bipush (v := 46) hx hb dX6_save_15 (by decide) ?_
        refine zi_ge (tgt := 43) hx hb i 46 dX6_save_17 (by decide) rfl rfl (by omega) (by decide) (fun c_652 => ?_) (fun c_652 => ?_)
        · refine lv_aload_n hx hb dX6_save_43 rfl (lv_at hl 1 rfl) ?_
          refine va_get (D := G) (ci := 6) (v := .ref qv) (C := RX6) (T := TX6) (N := 10) hx hb hts inlX6 hown hK.1 hP 0 rfl rfl 5 (by decide) (hts _ wd83) (fun _ h9 => h9) rfl dX6_save_44 ?_
          refine lv_iload_n hx hb dX6_save_47 rfl (lv_at hl 2 rfl) ?_
          refine lv_iconst (v := 1) hx hb dX6_save_48 (by decide) ?_
          refine za_stz hx hb hK.1 hP hD hS 5 2 rfl rfl j rfl (by omega) (by decide) dX6_save_49 (fun H653 locs653 hP hD hS => ?_)
          have hP : va_P G vwCl [(qm, .inr (6, [.ref qz, .ref qa, .ref qe, .int (nI sts), .ref qs, .ref qv, .ref qp, .int (nI len), .int go, .ref qn])), (qz, .inl (cI, 46, .inl z)), (qa, .inl (cI, 46, .inl as)), (qe, .inl (cI, 276, .inl be)), (qs, .inl (cI, 92, .inl zc)), (qv, .inl (cZ, 2, .inl (upd sv j (vp_nar .boolean 1)))), (qp, .inl (cI, 60, .inl pd)), (qn, .inl (cI, 36, .inl nd))] H653 := hP
          have hD : va_D A [(qm, .inr (6, [.ref qz, .ref qa, .ref qe, .int (nI sts), .ref qs, .ref qv, .ref qp, .int (nI len), .int go, .ref qn])), (qz, .inl (cI, 46, .inl z)), (qa, .inl (cI, 46, .inl as)), (qe, .inl (cI, 276, .inl be)), (qs, .inl (cI, 92, .inl zc)), (qv, .inl (cZ, 2, .inl (upd sv j (vp_nar .boolean 1)))), (qp, .inl (cI, 60, .inl pd)), (qn, .inl (cI, 36, .inl nd))] := hD
          refine lv_aload_n hx hb dX6_save_50 rfl (lv_at hl 1 rfl) ?_
          refine va_get (D := G) (ci := 6) (v := .ref qz) (C := RX6) (T := TX6) (N := 10) hx hb hts inlX6 hown hK.1 hP 0 rfl rfl 0 (by decide) (hts _ wd78) (fun _ h9 => h9) rfl dX6_save_51 ?_
          refine lv_bipush (v := 42) hx hb dX6_save_54 (by decide) ?_
          refine za_ld hx hb hK.1 hP 1 0 rfl rfl 42 rfl (by decide) (by decide) dX6_save_56 ?_
          subst hQ
          exact W.iret (v := z 42) hx hb hr (fun t ht hW => ⟨⟨z 42, (z, be, sts, zc, upd sv j (vp_nar .boolean 1), pd, len, as, go, nd), rfl, ⟨by show _ = Prod.fst (_ : Int32 × KS); rw [m_save, if_pos c_650, (show (nI j).toNatClampNeg = j from nI_clamp (by omega))], by rw [m_save, if_pos c_650, (show (nI j).toNatClampNeg = j from nI_clamp (by omega))]; exact cor_eq rfl rfl rfl (by rw [hf2, show i = 46 by omega]) rfl rfl rfl⟩, by rw [ht]; exact hP, hD⟩, hS.F ht⟩) hS.2.2 dX6_save_57
        · refine lv_aload_n hx hb dX6_save_20 rfl (lv_at hl 1 rfl) ?_
          refine va_get (D := G) (ci := 6) (v := .ref qs) (C := RX6) (T := TX6) (N := 10) hx hb hts inlX6 hown hK.1 hP 0 rfl rfl 4 (by decide) (hts _ wd81) (fun _ h9 => h9) rfl dX6_save_21 ?_
          refine lv_bipush (v := 46) hx hb dX6_save_24 (by decide) ?_
          refine lv_iload_n hx hb dX6_save_26 rfl (lv_at hl 2 rfl) ?_
          refine zi_mul hx hb 46 j dX6_save_27 rfl rfl ?_
          refine lv_iload_n hx hb dX6_save_28 rfl (lv_at hl 0 rfl) ?_
          refine zi_add hx hb (46 * j) i dX6_save_29 rfl rfl ?_
          refine lv_aload_n hx hb dX6_save_30 rfl (lv_at hl 1 rfl) ?_
          refine va_get (D := G) (ci := 6) (v := .ref qz) (C := RX6) (T := TX6) (N := 10) hx hb hts inlX6 hown hK.1 hP 0 rfl rfl 0 (by decide) (hts _ wd78) (fun _ h9 => h9) rfl dX6_save_31 ?_
          refine lv_iload_n hx hb dX6_save_34 rfl (lv_at hl 0 rfl) ?_
          refine za_ld hx hb hK.1 hP 1 0 rfl rfl i rfl (by omega) (by decide) dX6_save_35 ?_
          refine za_st hx hb hK.1 hP hD hS 4 0 rfl rfl ((46 * j) + i) rfl (by omega) (by decide) dX6_save_36 (fun H654 locs654 hP hD hS => ?_)
          have hP : va_P G vwCl [(qm, .inr (6, [.ref qz, .ref qa, .ref qe, .int (nI sts), .ref qs, .ref qv, .ref qp, .int (nI len), .int go, .ref qn])), (qz, .inl (cI, 46, .inl z)), (qa, .inl (cI, 46, .inl as)), (qe, .inl (cI, 276, .inl be)), (qs, .inl (cI, 92, .inl (upd zc ((46 * j) + i) (z i)))), (qv, .inl (cZ, 2, .inl sv)), (qp, .inl (cI, 60, .inl pd)), (qn, .inl (cI, 36, .inl nd))] H654 := hP
          have hD : va_D A [(qm, .inr (6, [.ref qz, .ref qa, .ref qe, .int (nI sts), .ref qs, .ref qv, .ref qp, .int (nI len), .int go, .ref qn])), (qz, .inl (cI, 46, .inl z)), (qa, .inl (cI, 46, .inl as)), (qe, .inl (cI, 276, .inl be)), (qs, .inl (cI, 92, .inl (upd zc ((46 * j) + i) (z i)))), (qv, .inl (cZ, 2, .inl sv)), (qp, .inl (cI, 60, .inl pd)), (qn, .inl (cI, 36, .inl nd))] := hD
          refine lv_iinc (v := nI (i + 1)) (lv' := [(2, .int (nI (i + 1))), (0, .ref qm), (1, .int (nI j))]) hx hb dX6_save_37 hl (k := 0) rfl (nI_inc i) (by decide) rfl (fun ls hl => ?_)
          refine lv_goto (tgt := 14) hx hb dX6_save_40 (by decide) ?_
          exact ih1 (i + 1) (upd zc ((46 * j) + i) (z i)) (by omega) (by rw [cpz, ← hf2, Nat.zero_add]) (by omega) H654 locs654 hP hD hS _ (lv_sub hl [0, 1, 2] rfl)
    exact L1 47 0 sl (by decide) rfl (by decide) s.heap [] hP hD hS _ (lv_sub hl [0, 1, 2] rfl)
  · refine lv_bipush (v := (-2)) hx hb dX6_save_9 (by decide) ?_
    subst hQ
    exact W.iret (v := (-2)) hx hb hr (fun t ht hW => ⟨⟨(-2), (z, be, sts, sl, sv, pd, len, as, go, nd), rfl, ⟨by show _ = Prod.fst (_ : Int32 × KS); rw [m_save, if_neg c_650], by rw [m_save, if_neg c_650]; rfl⟩, by rw [ht]; exact hP, hD⟩, hS.F ht⟩) hS.2.2 dX6_save_11

abbrev rm_X6_restore : Room := { frames := 1, cells := 0, slots := 0, locals := 22 }
set_option maxHeartbeats 1000000 in
set_option maxRecDepth 100000 in
theorem c_X6_restore (l : Launch) (G : va_G) (cI cC cZ cG : ClassId) (sz : Nat) (qm qz qa qe qs qv qp qn : Nat) (z as be sl sv pd nd : IA) (sts len : Nat) (go : Int32) (pl : Nat) (s0 : Int32) (hz : ∀ k, k < 12 → okv (z k)) (hx0 : ¬ z 39 < 0) (hpl : pl < 4) (h40 : z 40 = nI pl) (h4c : okc (z 41)) (hst : sts ≤ 6) (hln : len ≤ 60) : Met l yX6_restore (.code yX6_restore cX6_restore 3 (some .int) :: wsL_law) rm_X6_restore (va_Pc [.ref qm, .int s0] (bw G cI cC cZ cG false sz [(qm, .inr (6, [.ref qz, .ref qa, .ref qe, .int (nI sts), .ref qs, .ref qv, .ref qp, .int (nI len), .int go, .ref qn])), (qz, .inl (cI, 46, .inl z)), (qa, .inl (cI, 46, .inl as)), (qe, .inl (cI, 276, .inl be)), (qs, .inl (cI, 92, .inl sl)), (qv, .inl (cZ, 2, .inl sv)), (qp, .inl (cI, 60, .inl pd)), (qn, .inl (cI, 36, .inl nd))])) (va_Qi (fun (r : Int32) (u : MS) => r = (m_restore s0 (z, be, sts, sl, sv, pd, len)).1 ∧ cor u = (m_restore s0 (z, be, sts, sl, sv, pd, len)).2) (fun (u : MS) t => va_P G vwCl [(qm, .inr (6, [.ref qz, .ref qa, .ref qe, .int (nI u.2.2.1), .ref qs, .ref qv, .ref qp, .int (nI u.2.2.2.2.2.2.1), .int u.2.2.2.2.2.2.2.2.1, .ref qn])), (qz, .inl (cI, 46, .inl u.1)), (qa, .inl (cI, 46, .inl u.2.2.2.2.2.2.2.1)), (qe, .inl (cI, 276, .inl u.2.1)), (qs, .inl (cI, 92, .inl u.2.2.2.1)), (qv, .inl (cZ, 2, .inl u.2.2.2.2.1)), (qp, .inl (cI, 60, .inl u.2.2.2.2.2.1)), (qn, .inl (cI, 36, .inl u.2.2.2.2.2.2.2.2.2))] t.heap ∧ va_D (va_A [(qm, .inr (6, [.ref qz, .ref qa, .ref qe, .int (nI sts), .ref qs, .ref qv, .ref qp, .int (nI len), .int go, .ref qn])), (qz, .inl (cI, 46, .inl z)), (qa, .inl (cI, 46, .inl as)), (qe, .inl (cI, 276, .inl be)), (qs, .inl (cI, 92, .inl sl)), (qv, .inl (cZ, 2, .inl sv)), (qp, .inl (cI, 60, .inl pd)), (qn, .inl (cI, 36, .inl nd))] sz) [(qm, .inr (6, [.ref qz, .ref qa, .ref qe, .int (nI u.2.2.1), .ref qs, .ref qv, .ref qp, .int (nI u.2.2.2.2.2.2.1), .int u.2.2.2.2.2.2.2.2.1, .ref qn])), (qz, .inl (cI, 46, .inl u.1)), (qa, .inl (cI, 46, .inl u.2.2.2.2.2.2.2.1)), (qe, .inl (cI, 276, .inl u.2.1)), (qs, .inl (cI, 92, .inl u.2.2.2.1)), (qv, .inl (cZ, 2, .inl u.2.2.2.2.1)), (qp, .inl (cI, 60, .inl u.2.2.2.2.2.1)), (qn, .inl (cI, 36, .inl u.2.2.2.2.2.2.2.2.2))]) (va_A [(qm, .inr (6, [.ref qz, .ref qa, .ref qe, .int (nI sts), .ref qs, .ref qv, .ref qp, .int (nI len), .int go, .ref qn])), (qz, .inl (cI, 46, .inl z)), (qa, .inl (cI, 46, .inl as)), (qe, .inl (cI, 276, .inl be)), (qs, .inl (cI, 92, .inl sl)), (qv, .inl (cZ, 2, .inl sv)), (qp, .inl (cI, 60, .inl pd)), (qn, .inl (cI, 36, .inl nd))] sz)) 0 0 (va_A [(qm, .inr (6, [.ref qz, .ref qa, .ref qe, .int (nI sts), .ref qs, .ref qv, .ref qp, .int (nI len), .int go, .ref qn])), (qz, .inl (cI, 46, .inl z)), (qa, .inl (cI, 46, .inl as)), (qe, .inl (cI, 276, .inl be)), (qs, .inl (cI, 92, .inl sl)), (qv, .inl (cZ, 2, .inl sv)), (qp, .inl (cI, 60, .inl pd)), (qn, .inl (cI, 36, .inl nd))] sz) := by
  refine met_bw rfl (Nat.le_of_ble_eq_true rfl) ?_
  intro p e s m below meth c ls hx hb hr hml hown hts hlocks hin hsz hP hK hD0 hX0 hl
  have hown : s.vm.findClass RX6 = some m.cls := hown
  have hl : lv_has ls 3 [(0, .ref qm), (1, .int s0)] := hl
  subst hsz
  have hD := hD0.self (sz := s.heap.size)
  generalize hAe : va_A [(qm, .inr (6, [.ref qz, .ref qa, .ref qe, .int (nI sts), .ref qs, .ref qv, .ref qp, .int (nI len), .int go, .ref qn])), (qz, .inl (cI, 46, .inl z)), (qa, .inl (cI, 46, .inl as)), (qe, .inl (cI, 276, .inl be)), (qs, .inl (cI, 92, .inl sl)), (qv, .inl (cZ, 2, .inl sv)), (qp, .inl (cI, 60, .inl pd)), (qn, .inl (cI, 36, .inl nd))] s.heap.size = A at hD ⊢
  have hA : ∀ q : Nat, s.heap.size ≤ q → A q := fun q h => by rw [← hAe]; exact Or.inr h
  have hS : va_S A s.heap s.heap [] := va_S.rf
  generalize hQ : MQ below (va_Qi (fun (r : Int32) (u : MS) => r = (m_restore s0 (z, be, sts, sl, sv, pd, len)).1 ∧ cor u = (m_restore s0 (z, be, sts, sl, sv, pd, len)).2) (fun (u : MS) t => va_P G vwCl [(qm, .inr (6, [.ref qz, .ref qa, .ref qe, .int (nI u.2.2.1), .ref qs, .ref qv, .ref qp, .int (nI u.2.2.2.2.2.2.1), .int u.2.2.2.2.2.2.2.2.1, .ref qn])), (qz, .inl (cI, 46, .inl u.1)), (qa, .inl (cI, 46, .inl u.2.2.2.2.2.2.2.1)), (qe, .inl (cI, 276, .inl u.2.1)), (qs, .inl (cI, 92, .inl u.2.2.2.1)), (qv, .inl (cZ, 2, .inl u.2.2.2.2.1)), (qp, .inl (cI, 60, .inl u.2.2.2.2.2.1)), (qn, .inl (cI, 36, .inl u.2.2.2.2.2.2.2.2.2))] t.heap ∧ va_D A [(qm, .inr (6, [.ref qz, .ref qa, .ref qe, .int (nI u.2.2.1), .ref qs, .ref qv, .ref qp, .int (nI u.2.2.2.2.2.2.1), .int u.2.2.2.2.2.2.2.2.1, .ref qn])), (qz, .inl (cI, 46, .inl u.1)), (qa, .inl (cI, 46, .inl u.2.2.2.2.2.2.2.1)), (qe, .inl (cI, 276, .inl u.2.1)), (qs, .inl (cI, 92, .inl u.2.2.2.1)), (qv, .inl (cZ, 2, .inl u.2.2.2.2.1)), (qp, .inl (cI, 60, .inl u.2.2.2.2.2.1)), (qn, .inl (cI, 36, .inl u.2.2.2.2.2.2.2.2.2))]) A) ([.ref qm, .int s0] : List Value).toArray s 0 0 A = Q
  generalize hag : ([.ref qm, .int s0] : List Value).toArray = ag at hts hQ ⊢
  refine lv_iload_n hx hb dX6_restore_0 rfl (lv_at hl 1 rfl) ?_
  refine lv_iconst (v := 0) hx hb dX6_restore_1 (by decide) ?_
  refine lv_iconst (v := 1) hx hb dX6_restore_2 (by decide) ?_
  refine vp_callSi (va_Run.run (va_runS (As := [.int s0, .int 0, .int 1]) (rest := []) ⟨hx, hb, hml, hown, hts⟩ (c_X6_in l s0 0 1) (cf_RX6_32 hts ⟨Nat.le_of_ble_eq_true rfl, Nat.le_of_ble_eq_true rfl⟩) pre_P rfl rfl hl.1 rfl (lv_room (Nat.le_of_ble_eq_true rfl)) dX6_restore_3 ⟨Nat.le_of_ble_eq_true rfl, Nat.le_of_ble_eq_true rfl⟩)) (fun r655 hr655 => ?_)
  subst hr655
  refine zb_ne (tgt := 12) hx hb dX6_restore_6 (by decide) (fun c_656 => ?_) (fun c_656 => ?_)
  · obtain ⟨j, hj0, hj, rfl⟩ := inQ_nI (lo := 0) (hi := 1) (by decide) (by decide) c_656
    refine lv_aload_n hx hb dX6_restore_12 rfl (lv_at hl 0 rfl) ?_
    refine va_get (D := G) (ci := 6) (v := .ref qv) (C := RX6) (T := TX6) (N := 10) hx hb hts inlX6 hown hK.1 hP 0 rfl rfl 5 (by decide) (hts _ wd83) (fun _ h9 => h9) rfl dX6_restore_13 ?_
    refine lv_iload_n hx hb dX6_restore_16 rfl (lv_at hl 1 rfl) ?_
    refine za_ldz hx hb hK.1 hP 5 2 rfl rfl j rfl (by omega) (by decide) dX6_restore_17 ?_
    refine lv_if_ne (tgt := 24) hx hb dX6_restore_18 (by decide) (fun c_657 => ?_) (fun c_657 => ?_)
    · refine lv_aload_n hx hb dX6_restore_24 rfl (lv_at hl 0 rfl) ?_
      have hPc : va_P G vwCl [(qm, .inr (6, [.ref qz, .ref qa, .ref qe, .int (nI sts), .ref qs, .ref qv, .ref qp, .int (nI len), .int go, .ref qn])), (qz, .inl (cI, 46, .inl z)), (qa, .inl (cI, 46, .inl as)), (qe, .inl (cI, 276, .inl be)), (qs, .inl (cI, 92, .inl sl)), (qv, .inl (cZ, 2, .inl sv)), (qp, .inl (cI, 60, .inl pd)), (qn, .inl (cI, 36, .inl nd))] s.heap := hP
      have hDc := hD.tt
      have hFc := va_free (wc := [(qm, .inr (6, [.ref qz, .ref qa, .ref qe, .int (nI sts), .ref qs, .ref qv, .ref qp, .int (nI len), .int go, .ref qn])), (qz, .inl (cI, 46, .inl z)), (qa, .inl (cI, 46, .inl as)), (qe, .inl (cI, 276, .inl be)), (qs, .inl (cI, 92, .inl sl)), (qv, .inl (cZ, 2, .inl sv)), (qp, .inl (cI, 60, .inl pd)), (qn, .inl (cI, 36, .inl nd))]) hD hS hA [0, 1, 2, 3, 4, 5, 6, 7] rfl
      refine va_callv (va_runV (As := []) (rest := []) ⟨hx, hb, hml, hown, hts⟩ (c_X6_record l G cI cC cZ cG s.heap.size qm qz qa qe qs qv qp qn z as be sl sv pd nd sts len go hst) (cf_RX6_68 hts ⟨Nat.le_of_ble_eq_true rfl, Nat.le_of_ble_eq_true rfl⟩) (pre_V hK hPc hDc (ci := 6) (q0 := 0) rfl rfl) rfl rfl hl.1 rfl (lv_room (Nat.le_of_ble_eq_true rfl)) dX6_restore_25 ⟨Nat.le_of_ble_eq_true rfl, Nat.le_of_ble_eq_true rfl⟩) hS (fun q _ h => hFc q h) hFc (fun u658 t658 H658 locs658 ht658 hvm658 hw658 hB658 hz658 hk658 hS => ?_)
      obtain ⟨q658, rfl⟩ : ∃ z, z = u658 := ⟨_, rfl⟩
      obtain ⟨hP1, hD1⟩ := hB658
      rw [ht658] at hP1
      try dsimp only at hw658
      obtain ⟨hP, hD⟩ := va_join (wr := []) (w1 := [(qm, .inr (6, [.ref qz, .ref qa, .ref qe, .int (nI (rcN sts)), .ref qs, .ref qv, .ref qp, .int (nI len), .int go, .ref qn])), (qz, .inl (cI, 46, .inl z)), (qa, .inl (cI, 46, .inl as)), (qe, .inl (cI, 276, .inl (rcB be z sts))), (qs, .inl (cI, 92, .inl sl)), (qv, .inl (cZ, 2, .inl sv)), (qp, .inl (cI, 60, .inl pd)), (qn, .inl (cI, 36, .inl nd))]) hP hD [0, 1, 2, 3, 4, 5, 6, 7] [] rfl rfl (by decide) (by decide) hk658 hFc hP1 hD1
      have hP : va_P G vwCl [(qm, .inr (6, [.ref qz, .ref qa, .ref qe, .int (nI (rcN sts)), .ref qs, .ref qv, .ref qp, .int (nI len), .int go, .ref qn])), (qz, .inl (cI, 46, .inl z)), (qa, .inl (cI, 46, .inl as)), (qe, .inl (cI, 276, .inl (rcB be z sts))), (qs, .inl (cI, 92, .inl sl)), (qv, .inl (cZ, 2, .inl sv)), (qp, .inl (cI, 60, .inl pd)), (qn, .inl (cI, 36, .inl nd))] H658 := hP
      have hD : va_D A [(qm, .inr (6, [.ref qz, .ref qa, .ref qe, .int (nI (rcN sts)), .ref qs, .ref qv, .ref qp, .int (nI len), .int go, .ref qn])), (qz, .inl (cI, 46, .inl z)), (qa, .inl (cI, 46, .inl as)), (qe, .inl (cI, 276, .inl (rcB be z sts))), (qs, .inl (cI, 92, .inl sl)), (qv, .inl (cZ, 2, .inl sv)), (qp, .inl (cI, 60, .inl pd)), (qn, .inl (cI, 36, .inl nd))] := hD
      refine lv_iconst (v := 0) hx hb dX6_restore_28 (by decide) ?_
      refine lv_istore_n (lv' := [(2, .int 0), (0, .ref qm), (1, .int (nI j))]) hx hb dX6_restore_29 rfl hl (by decide) rfl (fun ls hl => ?_)
      have L1 : ∀ (n : Nat), ∀ (i : Nat), ∀ (zc : IA), ∀ (hi : i ≤ 46), ∀ (hf2 : zc = cpz z sl 0 (46 * j) i), ∀ (hn : 47 ≤ i + n), ∀ (H659 : Heap) (locs659 : List Loc), va_P G vwCl [(qm, .inr (6, [.ref qz, .ref qa, .ref qe, .int (nI (rcN sts)), .ref qs, .ref qv, .ref qp, .int (nI len), .int go, .ref qn])), (qz, .inl (cI, 46, .inl zc)), (qa, .inl (cI, 46, .inl as)), (qe, .inl (cI, 276, .inl (rcB be z sts))), (qs, .inl (cI, 92, .inl sl)), (qv, .inl (cZ, 2, .inl sv)), (qp, .inl (cI, 60, .inl pd)), (qn, .inl (cI, 36, .inl nd))] H659 → va_D A [(qm, .inr (6, [.ref qz, .ref qa, .ref qe, .int (nI (rcN sts)), .ref qs, .ref qv, .ref qp, .int (nI len), .int go, .ref qn])), (qz, .inl (cI, 46, .inl zc)), (qa, .inl (cI, 46, .inl as)), (qe, .inl (cI, 276, .inl (rcB be z sts))), (qs, .inl (cI, 92, .inl sl)), (qv, .inl (cZ, 2, .inl sv)), (qp, .inl (cI, 60, .inl pd)), (qn, .inl (cI, 36, .inl nd))] → va_S A s.heap H659 locs659 → ∀ (ls : Array Slot), lv_has ls 3 [(2, .int (nI i)), (0, .ref qm), (1, .int (nI j))] → W p l e rm_X6_restore s m ag below meth c H659 locs659 0 0 Q (F0 m 30 ls []) := by
        intro n
        induction n with
        | zero =>
          intro i zc hi hf2 hn H659 locs659 hP hD hS ls hl
          omega
        | succ n ih1 =>
          intro i zc hi hf2 hn H659 locs659 hP hD hS ls hl
          refine lv_iload_n hx hb dX6_restore_30 rfl (lv_at hl 0 rfl) ?_
          refine lv_bipush (v := 46) hx hb dX6_restore_31 (by decide) ?_
          refine zi_ge (tgt := 59) hx hb i 46 dX6_restore_33 (by decide) rfl rfl (by omega) (by decide) (fun c_660 => ?_) (fun c_660 => ?_)
          · refine lv_aload_n hx hb dX6_restore_59 rfl (lv_at hl 1 rfl) ?_
            refine va_get (D := G) (ci := 6) (v := .ref qz) (C := RX6) (T := TX6) (N := 10) hx hb hts inlX6 hown hK.1 hP 0 rfl rfl 0 (by decide) (hts _ wd78) (fun _ h9 => h9) rfl dX6_restore_60 ?_
            refine lv_bipush (v := 42) hx hb dX6_restore_63 (by decide) ?_
            refine za_ld hx hb hK.1 hP 1 0 rfl rfl 42 rfl (by decide) (by decide) dX6_restore_65 ?_
            subst hQ
            exact W.iret (v := zc 42) hx hb hr (fun t ht hW => ⟨⟨zc 42, (zc, rcB be z sts, rcN sts, sl, sv, pd, len, as, go, nd), rfl, ⟨by show _ = Prod.fst (_ : Int32 × KS); rw [m_restore, if_neg (fun h => h c_656), (show (nI j).toNatClampNeg = j from nI_clamp (by omega)), if_neg c_657]; rw [hf2, show i = 46 by omega], by rw [m_restore, if_neg (fun h => h c_656), (show (nI j).toNatClampNeg = j from nI_clamp (by omega)), if_neg c_657]; exact cor_eq (by rw [hf2, show i = 46 by omega]) rfl rfl rfl rfl rfl rfl⟩, by rw [ht]; exact hP, hD⟩, hS.F ht⟩) hS.2.2 dX6_restore_66
          · refine lv_aload_n hx hb dX6_restore_36 rfl (lv_at hl 1 rfl) ?_
            refine va_get (D := G) (ci := 6) (v := .ref qz) (C := RX6) (T := TX6) (N := 10) hx hb hts inlX6 hown hK.1 hP 0 rfl rfl 0 (by decide) (hts _ wd78) (fun _ h9 => h9) rfl dX6_restore_37 ?_
            refine lv_iload_n hx hb dX6_restore_40 rfl (lv_at hl 0 rfl) ?_
            refine lv_aload_n hx hb dX6_restore_41 rfl (lv_at hl 1 rfl) ?_
            refine va_get (D := G) (ci := 6) (v := .ref qs) (C := RX6) (T := TX6) (N := 10) hx hb hts inlX6 hown hK.1 hP 0 rfl rfl 4 (by decide) (hts _ wd81) (fun _ h9 => h9) rfl dX6_restore_42 ?_
            refine lv_bipush (v := 46) hx hb dX6_restore_45 (by decide) ?_
            refine lv_iload_n hx hb dX6_restore_47 rfl (lv_at hl 2 rfl) ?_
            refine zi_mul hx hb 46 j dX6_restore_48 rfl rfl ?_
            refine lv_iload_n hx hb dX6_restore_49 rfl (lv_at hl 0 rfl) ?_
            refine zi_add hx hb (46 * j) i dX6_restore_50 rfl rfl ?_
            refine za_ld hx hb hK.1 hP 4 0 rfl rfl ((46 * j) + i) rfl (by omega) (by decide) dX6_restore_51 ?_
            refine za_st hx hb hK.1 hP hD hS 1 0 rfl rfl i rfl (by omega) (by decide) dX6_restore_52 (fun H661 locs661 hP hD hS => ?_)
            have hP : va_P G vwCl [(qm, .inr (6, [.ref qz, .ref qa, .ref qe, .int (nI (rcN sts)), .ref qs, .ref qv, .ref qp, .int (nI len), .int go, .ref qn])), (qz, .inl (cI, 46, .inl (upd zc i (sl ((46 * j) + i))))), (qa, .inl (cI, 46, .inl as)), (qe, .inl (cI, 276, .inl (rcB be z sts))), (qs, .inl (cI, 92, .inl sl)), (qv, .inl (cZ, 2, .inl sv)), (qp, .inl (cI, 60, .inl pd)), (qn, .inl (cI, 36, .inl nd))] H661 := hP
            have hD : va_D A [(qm, .inr (6, [.ref qz, .ref qa, .ref qe, .int (nI (rcN sts)), .ref qs, .ref qv, .ref qp, .int (nI len), .int go, .ref qn])), (qz, .inl (cI, 46, .inl (upd zc i (sl ((46 * j) + i))))), (qa, .inl (cI, 46, .inl as)), (qe, .inl (cI, 276, .inl (rcB be z sts))), (qs, .inl (cI, 92, .inl sl)), (qv, .inl (cZ, 2, .inl sv)), (qp, .inl (cI, 60, .inl pd)), (qn, .inl (cI, 36, .inl nd))] := hD
            refine lv_iinc (v := nI (i + 1)) (lv' := [(2, .int (nI (i + 1))), (0, .ref qm), (1, .int (nI j))]) hx hb dX6_restore_53 hl (k := 0) rfl (nI_inc i) (by decide) rfl (fun ls hl => ?_)
            refine lv_goto (tgt := 30) hx hb dX6_restore_56 (by decide) ?_
            exact ih1 (i + 1) (upd zc i (sl ((46 * j) + i))) (by omega) (by rw [cpz, ← hf2, Nat.zero_add]) (by omega) H661 locs661 hP hD hS _ (lv_sub hl [0, 1, 2] rfl)
      exact L1 47 0 z (by decide) rfl (by decide) H658 locs658 hP hD hS _ (lv_sub hl [0, 1, 2] rfl)
    · refine lv_bipush (v := (-5)) hx hb dX6_restore_21 (by decide) ?_
      subst hQ
      exact W.iret (v := (-5)) hx hb hr (fun t ht hW => ⟨⟨(-5), (z, be, sts, sl, sv, pd, len, as, go, nd), rfl, ⟨by show _ = Prod.fst (_ : Int32 × KS); rw [m_restore, if_neg (fun h => h c_656), (show (nI j).toNatClampNeg = j from nI_clamp (by omega)), if_pos c_657], by rw [m_restore, if_neg (fun h => h c_656), (show (nI j).toNatClampNeg = j from nI_clamp (by omega)), if_pos c_657]; rfl⟩, by rw [ht]; exact hP, hD⟩, hS.F ht⟩) hS.2.2 dX6_restore_23
  · refine lv_bipush (v := (-2)) hx hb dX6_restore_9 (by decide) ?_
    subst hQ
    exact W.iret (v := (-2)) hx hb hr (fun t ht hW => ⟨⟨(-2), (z, be, sts, sl, sv, pd, len, as, go, nd), rfl, ⟨by show _ = Prod.fst (_ : Int32 × KS); rw [m_restore, if_pos c_656], by rw [m_restore, if_pos c_656]; rfl⟩, by rw [ht]; exact hP, hD⟩, hS.F ht⟩) hS.2.2 dX6_restore_11
