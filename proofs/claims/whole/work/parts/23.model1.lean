abbrev rm_X6_lay : Room := { frames := 6, cells := 0, slots := 0, locals := 133 }
theorem cf_RX6_146 {R : Room} {s : State} {args : Array Value} (ht : ∀ w ∈ wsL_law, w.before args s = true) (hR : rm_X6_isPiece.frames + 1 ≤ R.frames ∧ 8 + (1 + 11) + rm_X6_isPiece.locals ≤ R.locals) : CallB R s args RX6 146 yX6_isPiece cX6_isPiece 1 (some .boolean) (.code yX6_isPiece cX6_isPiece 1 (some .boolean) :: wsL_law) rm_X6_isPiece 0 0 1 ∧ (Cond.static yX6_isPiece).before args s = true := ⟨cw_B 1 ht wd426 wd5 wd428 (by decide +kernel) rfl rfl hR, ht _ wd427⟩
set_option maxHeartbeats 1000000 in
set_option maxRecDepth 100000 in
theorem c_X6_lay (l : Launch) (G : va_G) (cI cC cZ cG : ClassId) (sz : Nat) (qm qz qa qe qs qv qp qn : Nat) (z as be sl sv pd nd : IA) (sts len : Nat) (go : Int32) (pl : Nat) (k0 v0 : Int32) (hz : ∀ k, k < 12 → okv (z k)) (hx0 : ¬ z 39 < 0) (hpl : pl < 4) (h40 : z 40 = nI pl) (h4c : okc (z 41)) (hst : sts ≤ 6) (hln : len ≤ 60) : Met l yX6_lay (.code yX6_lay cX6_lay 7 (some .int) :: wsL_law) rm_X6_lay (va_Pc [.ref qm, .int k0, .int v0] (bw G cI cC cZ cG false sz [(qm, .inr (6, [.ref qz, .ref qa, .ref qe, .int (nI sts), .ref qs, .ref qv, .ref qp, .int (nI len), .int go, .ref qn])), (qz, .inl (cI, 46, .inl z)), (qa, .inl (cI, 46, .inl as)), (qe, .inl (cI, 276, .inl be)), (qs, .inl (cI, 92, .inl sl)), (qv, .inl (cZ, 2, .inl sv)), (qp, .inl (cI, 60, .inl pd)), (qn, .inl (cI, 36, .inl nd))])) (va_Qi (fun (r : Int32) (u : MS) => r = (m_lay k0 v0 (z, be, sts, sl, sv, pd, len)).1 ∧ cor u = (m_lay k0 v0 (z, be, sts, sl, sv, pd, len)).2) (fun (u : MS) t => va_P G vwCl [(qm, .inr (6, [.ref qz, .ref qa, .ref qe, .int (nI u.2.2.1), .ref qs, .ref qv, .ref qp, .int (nI u.2.2.2.2.2.2.1), .int u.2.2.2.2.2.2.2.2.1, .ref qn])), (qz, .inl (cI, 46, .inl u.1)), (qa, .inl (cI, 46, .inl u.2.2.2.2.2.2.2.1)), (qe, .inl (cI, 276, .inl u.2.1)), (qs, .inl (cI, 92, .inl u.2.2.2.1)), (qv, .inl (cZ, 2, .inl u.2.2.2.2.1)), (qp, .inl (cI, 60, .inl u.2.2.2.2.2.1)), (qn, .inl (cI, 36, .inl u.2.2.2.2.2.2.2.2.2))] t.heap ∧ va_D (va_A [(qm, .inr (6, [.ref qz, .ref qa, .ref qe, .int (nI sts), .ref qs, .ref qv, .ref qp, .int (nI len), .int go, .ref qn])), (qz, .inl (cI, 46, .inl z)), (qa, .inl (cI, 46, .inl as)), (qe, .inl (cI, 276, .inl be)), (qs, .inl (cI, 92, .inl sl)), (qv, .inl (cZ, 2, .inl sv)), (qp, .inl (cI, 60, .inl pd)), (qn, .inl (cI, 36, .inl nd))] sz) [(qm, .inr (6, [.ref qz, .ref qa, .ref qe, .int (nI u.2.2.1), .ref qs, .ref qv, .ref qp, .int (nI u.2.2.2.2.2.2.1), .int u.2.2.2.2.2.2.2.2.1, .ref qn])), (qz, .inl (cI, 46, .inl u.1)), (qa, .inl (cI, 46, .inl u.2.2.2.2.2.2.2.1)), (qe, .inl (cI, 276, .inl u.2.1)), (qs, .inl (cI, 92, .inl u.2.2.2.1)), (qv, .inl (cZ, 2, .inl u.2.2.2.2.1)), (qp, .inl (cI, 60, .inl u.2.2.2.2.2.1)), (qn, .inl (cI, 36, .inl u.2.2.2.2.2.2.2.2.2))]) (va_A [(qm, .inr (6, [.ref qz, .ref qa, .ref qe, .int (nI sts), .ref qs, .ref qv, .ref qp, .int (nI len), .int go, .ref qn])), (qz, .inl (cI, 46, .inl z)), (qa, .inl (cI, 46, .inl as)), (qe, .inl (cI, 276, .inl be)), (qs, .inl (cI, 92, .inl sl)), (qv, .inl (cZ, 2, .inl sv)), (qp, .inl (cI, 60, .inl pd)), (qn, .inl (cI, 36, .inl nd))] sz)) 0 0 (va_A [(qm, .inr (6, [.ref qz, .ref qa, .ref qe, .int (nI sts), .ref qs, .ref qv, .ref qp, .int (nI len), .int go, .ref qn])), (qz, .inl (cI, 46, .inl z)), (qa, .inl (cI, 46, .inl as)), (qe, .inl (cI, 276, .inl be)), (qs, .inl (cI, 92, .inl sl)), (qv, .inl (cZ, 2, .inl sv)), (qp, .inl (cI, 60, .inl pd)), (qn, .inl (cI, 36, .inl nd))] sz) := by
  refine met_bw rfl (Nat.le_of_ble_eq_true rfl) ?_
  intro p e s m below meth c ls hx hb hr hml hown hts hlocks hin hsz hP hK hD0 hX0 hl
  have hown : s.vm.findClass RX6 = some m.cls := hown
  have hl : lv_has ls 7 [(0, .ref qm), (1, .int k0), (2, .int v0)] := hl
  subst hsz
  have hD := hD0.self (sz := s.heap.size)
  generalize hAe : va_A [(qm, .inr (6, [.ref qz, .ref qa, .ref qe, .int (nI sts), .ref qs, .ref qv, .ref qp, .int (nI len), .int go, .ref qn])), (qz, .inl (cI, 46, .inl z)), (qa, .inl (cI, 46, .inl as)), (qe, .inl (cI, 276, .inl be)), (qs, .inl (cI, 92, .inl sl)), (qv, .inl (cZ, 2, .inl sv)), (qp, .inl (cI, 60, .inl pd)), (qn, .inl (cI, 36, .inl nd))] s.heap.size = A at hD ⊢
  have hA : ∀ q : Nat, s.heap.size ≤ q → A q := fun q h => by rw [← hAe]; exact Or.inr h
  have hS : va_S A s.heap s.heap [] := va_S.rf
  generalize hQ : MQ below (va_Qi (fun (r : Int32) (u : MS) => r = (m_lay k0 v0 (z, be, sts, sl, sv, pd, len)).1 ∧ cor u = (m_lay k0 v0 (z, be, sts, sl, sv, pd, len)).2) (fun (u : MS) t => va_P G vwCl [(qm, .inr (6, [.ref qz, .ref qa, .ref qe, .int (nI u.2.2.1), .ref qs, .ref qv, .ref qp, .int (nI u.2.2.2.2.2.2.1), .int u.2.2.2.2.2.2.2.2.1, .ref qn])), (qz, .inl (cI, 46, .inl u.1)), (qa, .inl (cI, 46, .inl u.2.2.2.2.2.2.2.1)), (qe, .inl (cI, 276, .inl u.2.1)), (qs, .inl (cI, 92, .inl u.2.2.2.1)), (qv, .inl (cZ, 2, .inl u.2.2.2.2.1)), (qp, .inl (cI, 60, .inl u.2.2.2.2.2.1)), (qn, .inl (cI, 36, .inl u.2.2.2.2.2.2.2.2.2))] t.heap ∧ va_D A [(qm, .inr (6, [.ref qz, .ref qa, .ref qe, .int (nI u.2.2.1), .ref qs, .ref qv, .ref qp, .int (nI u.2.2.2.2.2.2.1), .int u.2.2.2.2.2.2.2.2.1, .ref qn])), (qz, .inl (cI, 46, .inl u.1)), (qa, .inl (cI, 46, .inl u.2.2.2.2.2.2.2.1)), (qe, .inl (cI, 276, .inl u.2.1)), (qs, .inl (cI, 92, .inl u.2.2.2.1)), (qv, .inl (cZ, 2, .inl u.2.2.2.2.1)), (qp, .inl (cI, 60, .inl u.2.2.2.2.2.1)), (qn, .inl (cI, 36, .inl u.2.2.2.2.2.2.2.2.2))]) A) ([.ref qm, .int k0, .int v0] : List Value).toArray s 0 0 A = Q
  generalize hag : ([.ref qm, .int k0, .int v0] : List Value).toArray = ag at hts hQ ⊢
  refine lv_iload_n hx hb dX6_lay_0 rfl (lv_at hl 1 rfl) ?_
  refine vp_callSi (va_Run.run (va_runS (As := [.int k0]) (rest := []) ⟨hx, hb, hml, hown, hts⟩ (c_X6_isPiece l k0) (cf_RX6_146 hts ⟨Nat.le_of_ble_eq_true rfl, Nat.le_of_ble_eq_true rfl⟩) pre_P rfl rfl hl.1 rfl (lv_room (Nat.le_of_ble_eq_true rfl)) dX6_lay_1 ⟨Nat.le_of_ble_eq_true rfl, Nat.le_of_ble_eq_true rfl⟩)) (fun r558 hr558 => ?_)
  subst hr558
  refine zb_ne (tgt := 9) hx hb dX6_lay_4 (by decide) (fun c_559 => ?_) (fun c_559 => ?_)
  · obtain ⟨j, hj0, hj, rfl⟩ := inQ_nI (lo := 0) (hi := 11) (by decide) (by decide) c_559
    refine lv_iload_n hx hb dX6_lay_9 rfl (lv_at hl 2 rfl) ?_
    refine lv_bipush (v := (-6)) hx hb dX6_lay_10 (by decide) ?_
    refine lv_icmp_eq (tgt := 28) hx hb dX6_lay_12 (by decide) (fun c_560 => ?_) (fun c_560 => ?_)
    · refine lv_iload_n hx hb dX6_lay_28 rfl (lv_at hl 1 rfl) ?_
      refine lv_iconst (v := 3) hx hb dX6_lay_29 (by decide) ?_
      refine zi_div hx hb j 3 dX6_lay_30 rfl rfl (by omega) (by decide) (by decide) ?_
      refine lv_istore_n (lv' := [(3, .int (nI (j / 3))), (0, .ref qm), (1, .int (nI j)), (2, .int v0)]) hx hb dX6_lay_31 rfl hl (by decide) rfl (fun ls hl => ?_)
      refine lv_iload_n hx hb dX6_lay_32 rfl (lv_at hl 0 rfl) ?_
      refine lv_iload_n hx hb dX6_lay_33 rfl (lv_at hl 3 rfl) ?_
      refine vp_callSi (va_Run.run (va_runS (As := [.int (nI (j / 3)), .int v0]) (rest := []) ⟨hx, hb, hml, hown, hts⟩ (c_X6_fieldAt l (j / 3) v0 (by omega)) (cf_RX6_36 hts ⟨Nat.le_of_ble_eq_true rfl, Nat.le_of_ble_eq_true rfl⟩) pre_P rfl rfl hl.1 rfl (lv_room (Nat.le_of_ble_eq_true rfl)) dX6_lay_34 ⟨Nat.le_of_ble_eq_true rfl, Nat.le_of_ble_eq_true rfl⟩)) (fun r561 hr561 => ?_)
      subst hr561
      refine lv_istore (lv' := [(4, .int (rf (j / 3) v0)), (3, .int (nI (j / 3))), (0, .ref qm), (1, .int (nI j)), (2, .int v0)]) hx hb dX6_lay_37 hl (by decide) rfl (fun ls hl => ?_)
      refine lv_iconst (v := 0) hx hb dX6_lay_39 (by decide) ?_
      refine lv_istore (lv' := [(5, .int 0), (4, .int (rf (j / 3) v0)), (3, .int (nI (j / 3))), (0, .ref qm), (1, .int (nI j)), (2, .int v0)]) hx hb dX6_lay_40 hl (by decide) rfl (fun ls hl => ?_)
      refine lv_iconst (v := 3) hx hb dX6_lay_42 (by decide) ?_
      refine lv_iload_n hx hb dX6_lay_43 rfl (lv_at hl 2 rfl) ?_
      refine zi_mul hx hb 3 (j / 3) dX6_lay_44 rfl rfl ?_
      refine lv_istore (lv' := [(6, .int (nI (3 * (j / 3)))), (5, .int 0), (4, .int (rf (j / 3) v0)), (3, .int (nI (j / 3))), (0, .ref qm), (1, .int (nI j)), (2, .int v0)]) hx hb dX6_lay_45 hl (by decide) rfl (fun ls hl => ?_)
      have L1 : ∀ (n : Nat), ∀ (i : Nat), ∀ (f : Nat), ∀ (h0 : 3 * (j / 3) ≤ i), ∀ (hi : i ≤ 3 * (j / 3) + 3), ∀ (hf2 : f = cnt (laP z v0 j) (i - 3 * (j / 3))), ∀ (hn : 3 * (j / 3) + 4 ≤ i + n), ∀ (ls : Array Slot), lv_has ls 7 [(6, .int (nI i)), (5, .int (nI f)), (4, .int (rf (j / 3) v0)), (3, .int (nI (j / 3))), (0, .ref qm), (1, .int (nI j)), (2, .int v0)] → W p l e rm_X6_lay s m ag below meth c s.heap [] 0 0 Q (F0 m 47 ls []) := by
        intro n
        induction n with
        | zero =>
          intro i f h0 hi hf2 hn ls hl
          omega
        | succ n ih1 =>
          intro i f h0 hi hf2 hn ls hl
          have hb2 : 3 * (j / 3) + (i - 3 * (j / 3)) = i := by omega
          have hb3 : i + 1 - 3 * (j / 3) = (i - 3 * (j / 3)) + 1 := by omega
          have hfl : f ≤ 3 := by rw [hf2]; exact Nat.le_trans (cnt_le _ _) (by omega)
          refine lv_iload hx hb dX6_lay_47 (lv_at hl 0 rfl) ?_
          refine lv_iconst (v := 3) hx hb dX6_lay_49 (by decide) ?_
          refine lv_iload_n hx hb dX6_lay_50 rfl (lv_at hl 3 rfl) ?_
          refine zi_mul hx hb 3 (j / 3) dX6_lay_51 rfl rfl ?_
          refine lv_iconst (v := 3) hx hb dX6_lay_52 (by decide) ?_
          refine zi_add hx hb (3 * (j / 3)) 3 dX6_lay_53 rfl rfl ?_
          refine zi_ge (tgt := 100) hx hb i ((3 * (j / 3)) + 3) dX6_lay_54 (by decide) rfl rfl (by omega) (by omega) (fun c_563 => ?_) (fun c_563 => ?_)
          · refine lv_aload_n hx hb dX6_lay_100 rfl (lv_at hl 4 rfl) ?_
            refine lv_iload_n hx hb dX6_lay_101 rfl (lv_at hl 3 rfl) ?_
            refine lv_iload hx hb dX6_lay_102 (lv_at hl 2 rfl) ?_
            have hPc : va_P G vwCl [(qm, .inr (6, [.ref qz, .ref qa, .ref qe, .int (nI sts), .ref qs, .ref qv, .ref qp, .int (nI len), .int go, .ref qn])), (qz, .inl (cI, 46, .inl z)), (qa, .inl (cI, 46, .inl as)), (qe, .inl (cI, 276, .inl be)), (qs, .inl (cI, 92, .inl sl)), (qv, .inl (cZ, 2, .inl sv)), (qp, .inl (cI, 60, .inl pd)), (qn, .inl (cI, 36, .inl nd))] s.heap := hP
            have hDc := hD.tt
            refine vp_callSi (va_Run.run (va_runV (As := [.int (nI (j / 3)), .int (rf (j / 3) v0)]) (rest := []) ⟨hx, hb, hml, hown, hts⟩ (c_X6_otherOn l G cI cC cZ cG s.heap.size qm qz qa qe qs qv qp qn z as be sl sv pd nd sts len go (j / 3) (rf (j / 3) v0) (by omega)) (cf_RX6_91 hts ⟨Nat.le_of_ble_eq_true rfl, Nat.le_of_ble_eq_true rfl⟩) (pre_V hK hPc hDc (ci := 6) (q0 := 0) rfl rfl) rfl rfl hl.1 rfl (lv_room (Nat.le_of_ble_eq_true rfl)) dX6_lay_104 ⟨Nat.le_of_ble_eq_true rfl, Nat.le_of_ble_eq_true rfl⟩)) (fun r564 hr564 => ?_)
            subst hr564
            refine lv_if_ge (tgt := 125) hx hb dX6_lay_107 (by decide) (fun c_565 => ?_) (fun c_565 => ?_)
            · refine lv_bipush (v := (-5)) hx hb dX6_lay_125 (by decide) ?_
              subst hQ
              exact W.iret (v := (-5)) hx hb hr (fun t ht hW => ⟨⟨(-5), (z, be, sts, sl, sv, pd, len, as, go, nd), rfl, ⟨by show _ = Prod.fst (_ : Int32 × KS); rw [m_lay, if_neg (fun h => h c_559), if_neg (fun h => h.1 c_560), (show (nI j).toNatClampNeg = j from nI_clamp (by omega)), if_pos (Or.inl c_565)], by rw [m_lay, if_neg (fun h => h c_559), if_neg (fun h => h.1 c_560), (show (nI j).toNatClampNeg = j from nI_clamp (by omega)), if_pos (Or.inl c_565)]; rfl⟩, by rw [ht]; exact hP, hD⟩, hS.F ht⟩) hS.2.2 dX6_lay_127
            · refine lv_iload hx hb dX6_lay_110 (lv_at hl 1 rfl) ?_
              refine lv_iconst (v := 1) hx hb dX6_lay_112 (by decide) ?_
              refine zi_gt (tgt := 125) hx hb f 1 dX6_lay_113 (by decide) rfl rfl (by omega) (by decide) (fun c_566 => ?_) (fun c_566 => ?_)
              · refine lv_bipush (v := (-5)) hx hb dX6_lay_125 (by decide) ?_
                subst hQ
                exact W.iret (v := (-5)) hx hb hr (fun t ht hW => ⟨⟨(-5), (z, be, sts, sl, sv, pd, len, as, go, nd), rfl, ⟨by show _ = Prod.fst (_ : Int32 × KS); rw [m_lay, if_neg (fun h => h c_559), if_neg (fun h => h.1 c_560), (show (nI j).toNatClampNeg = j from nI_clamp (by omega)), (show laO z v0 j = f by rw [hf2, show i - 3 * (j / 3) = 3 by omega]; rfl), if_pos (Or.inr (Or.inl (by omega)))], by rw [m_lay, if_neg (fun h => h c_559), if_neg (fun h => h.1 c_560), (show (nI j).toNatClampNeg = j from nI_clamp (by omega)), (show laO z v0 j = f by rw [hf2, show i - 3 * (j / 3) = 3 by omega]; rfl), if_pos (Or.inr (Or.inl (by omega)))]; rfl⟩, by rw [ht]; exact hP, hD⟩, hS.F ht⟩) hS.2.2 dX6_lay_127
              · refine lv_aload_n hx hb dX6_lay_116 rfl (lv_at hl 4 rfl) ?_
                refine lv_iload hx hb dX6_lay_117 (lv_at hl 2 rfl) ?_
                have hPc : va_P G vwCl [(qm, .inr (6, [.ref qz, .ref qa, .ref qe, .int (nI sts), .ref qs, .ref qv, .ref qp, .int (nI len), .int go, .ref qn])), (qz, .inl (cI, 46, .inl z)), (qa, .inl (cI, 46, .inl as)), (qe, .inl (cI, 276, .inl be)), (qs, .inl (cI, 92, .inl sl)), (qv, .inl (cZ, 2, .inl sv)), (qp, .inl (cI, 60, .inl pd)), (qn, .inl (cI, 36, .inl nd))] s.heap := hP
                have hDc := hD.tt
                refine vp_callSi (va_Run.run (va_runV (As := [.int (rf (j / 3) v0)]) (rest := []) ⟨hx, hb, hml, hown, hts⟩ (c_X6_isFallen l G cI cC cZ cG s.heap.size qm qz qa qe qs qv qp qn z as be sl sv pd nd sts len go (rf (j / 3) v0) (by first | assumption | exact rf_okf _ (by omega))) (cf_RX6_71 hts ⟨Nat.le_of_ble_eq_true rfl, Nat.le_of_ble_eq_true rfl⟩) (pre_V hK hPc hDc (ci := 6) (q0 := 0) rfl rfl) rfl rfl hl.1 rfl (lv_room (Nat.le_of_ble_eq_true rfl)) dX6_lay_119 ⟨Nat.le_of_ble_eq_true rfl, Nat.le_of_ble_eq_true rfl⟩)) (fun r567 hr567 => ?_)
                subst hr567
                refine zb_eq (tgt := 128) hx hb dX6_lay_122 (by decide) (fun c_568 => ?_) (fun c_568 => ?_)
                · refine lv_aload_n hx hb dX6_lay_128 rfl (lv_at hl 4 rfl) ?_
                  have hPc : va_P G vwCl [(qm, .inr (6, [.ref qz, .ref qa, .ref qe, .int (nI sts), .ref qs, .ref qv, .ref qp, .int (nI len), .int go, .ref qn])), (qz, .inl (cI, 46, .inl z)), (qa, .inl (cI, 46, .inl as)), (qe, .inl (cI, 276, .inl be)), (qs, .inl (cI, 92, .inl sl)), (qv, .inl (cZ, 2, .inl sv)), (qp, .inl (cI, 60, .inl pd)), (qn, .inl (cI, 36, .inl nd))] s.heap := hP
                  have hDc := hD.tt
                  have hFc := va_free (wc := [(qm, .inr (6, [.ref qz, .ref qa, .ref qe, .int (nI sts), .ref qs, .ref qv, .ref qp, .int (nI len), .int go, .ref qn])), (qz, .inl (cI, 46, .inl z)), (qa, .inl (cI, 46, .inl as)), (qe, .inl (cI, 276, .inl be)), (qs, .inl (cI, 92, .inl sl)), (qv, .inl (cZ, 2, .inl sv)), (qp, .inl (cI, 60, .inl pd)), (qn, .inl (cI, 36, .inl nd))]) hD hS hA [0, 1, 2, 3, 4, 5, 6, 7] rfl
                  refine va_callv (va_runV (As := []) (rest := []) ⟨hx, hb, hml, hown, hts⟩ (c_X6_record l G cI cC cZ cG s.heap.size qm qz qa qe qs qv qp qn z as be sl sv pd nd sts len go hst) (cf_RX6_68 hts ⟨Nat.le_of_ble_eq_true rfl, Nat.le_of_ble_eq_true rfl⟩) (pre_V hK hPc hDc (ci := 6) (q0 := 0) rfl rfl) rfl rfl hl.1 rfl (lv_room (Nat.le_of_ble_eq_true rfl)) dX6_lay_129 ⟨Nat.le_of_ble_eq_true rfl, Nat.le_of_ble_eq_true rfl⟩) hS (fun q _ h => hFc q h) hFc (fun u569 t569 H569 locs569 ht569 hvm569 hw569 hB569 hz569 hk569 hS => ?_)
                  obtain ⟨q569, rfl⟩ : ∃ z, z = u569 := ⟨_, rfl⟩
                  obtain ⟨hP1, hD1⟩ := hB569
                  rw [ht569] at hP1
                  try dsimp only at hw569
                  obtain ⟨hP, hD⟩ := va_join (wr := []) (w1 := [(qm, .inr (6, [.ref qz, .ref qa, .ref qe, .int (nI (rcN sts)), .ref qs, .ref qv, .ref qp, .int (nI len), .int go, .ref qn])), (qz, .inl (cI, 46, .inl z)), (qa, .inl (cI, 46, .inl as)), (qe, .inl (cI, 276, .inl (rcB be z sts))), (qs, .inl (cI, 92, .inl sl)), (qv, .inl (cZ, 2, .inl sv)), (qp, .inl (cI, 60, .inl pd)), (qn, .inl (cI, 36, .inl nd))]) hP hD [0, 1, 2, 3, 4, 5, 6, 7] [] rfl rfl (by decide) (by decide) hk569 hFc hP1 hD1
                  have hP : va_P G vwCl [(qm, .inr (6, [.ref qz, .ref qa, .ref qe, .int (nI (rcN sts)), .ref qs, .ref qv, .ref qp, .int (nI len), .int go, .ref qn])), (qz, .inl (cI, 46, .inl z)), (qa, .inl (cI, 46, .inl as)), (qe, .inl (cI, 276, .inl (rcB be z sts))), (qs, .inl (cI, 92, .inl sl)), (qv, .inl (cZ, 2, .inl sv)), (qp, .inl (cI, 60, .inl pd)), (qn, .inl (cI, 36, .inl nd))] H569 := hP
                  have hD : va_D A [(qm, .inr (6, [.ref qz, .ref qa, .ref qe, .int (nI (rcN sts)), .ref qs, .ref qv, .ref qp, .int (nI len), .int go, .ref qn])), (qz, .inl (cI, 46, .inl z)), (qa, .inl (cI, 46, .inl as)), (qe, .inl (cI, 276, .inl (rcB be z sts))), (qs, .inl (cI, 92, .inl sl)), (qv, .inl (cZ, 2, .inl sv)), (qp, .inl (cI, 60, .inl pd)), (qn, .inl (cI, 36, .inl nd))] := hD
                  refine lv_aload_n hx hb dX6_lay_132 rfl (lv_at hl 4 rfl) ?_
                  refine va_get (D := G) (ci := 6) (v := .ref qz) (C := RX6) (T := TX6) (N := 10) hx hb hts inlX6 hown hK.1 hP 0 rfl rfl 0 (by decide) (hts _ wd78) (fun _ h9 => h9) rfl dX6_lay_133 ?_
                  refine lv_iload_n hx hb dX6_lay_136 rfl (lv_at hl 5 rfl) ?_
                  refine za_ld hx hb hK.1 hP 1 0 rfl rfl j rfl (by omega) (by decide) dX6_lay_137 ?_
                  refine lv_istore (lv' := [(6, .int (z j)), (5, .int (nI f)), (4, .int (rf (j / 3) v0)), (3, .int (nI (j / 3))), (0, .ref qm), (1, .int (nI j)), (2, .int v0)]) hx hb dX6_lay_138 hl (by decide) rfl (fun ls hl => ?_)
                  refine lv_aload_n hx hb dX6_lay_140 rfl (lv_at hl 4 rfl) ?_
                  refine va_get (D := G) (ci := 6) (v := .ref qz) (C := RX6) (T := TX6) (N := 10) hx hb hts inlX6 hown hK.1 hP 0 rfl rfl 0 (by decide) (hts _ wd78) (fun _ h9 => h9) rfl dX6_lay_141 ?_
                  refine lv_iload_n hx hb dX6_lay_144 rfl (lv_at hl 5 rfl) ?_
                  refine lv_iload_n hx hb dX6_lay_145 rfl (lv_at hl 6 rfl) ?_
                  refine za_st hx hb hK.1 hP hD hS 1 0 rfl rfl j rfl (by omega) (by decide) dX6_lay_146 (fun H570 locs570 hP hD hS => ?_)
                  have hP : va_P G vwCl [(qm, .inr (6, [.ref qz, .ref qa, .ref qe, .int (nI (rcN sts)), .ref qs, .ref qv, .ref qp, .int (nI len), .int go, .ref qn])), (qz, .inl (cI, 46, .inl (upd z j v0))), (qa, .inl (cI, 46, .inl as)), (qe, .inl (cI, 276, .inl (rcB be z sts))), (qs, .inl (cI, 92, .inl sl)), (qv, .inl (cZ, 2, .inl sv)), (qp, .inl (cI, 60, .inl pd)), (qn, .inl (cI, 36, .inl nd))] H570 := hP
                  have hD : va_D A [(qm, .inr (6, [.ref qz, .ref qa, .ref qe, .int (nI (rcN sts)), .ref qs, .ref qv, .ref qp, .int (nI len), .int go, .ref qn])), (qz, .inl (cI, 46, .inl (upd z j v0))), (qa, .inl (cI, 46, .inl as)), (qe, .inl (cI, 276, .inl (rcB be z sts))), (qs, .inl (cI, 92, .inl sl)), (qv, .inl (cZ, 2, .inl sv)), (qp, .inl (cI, 60, .inl pd)), (qn, .inl (cI, 36, .inl nd))] := hD
                  refine lv_aload_n hx hb dX6_lay_147 rfl (lv_at hl 4 rfl) ?_
                  have hPc : va_P G vwCl [(qm, .inr (6, [.ref qz, .ref qa, .ref qe, .int (nI (rcN sts)), .ref qs, .ref qv, .ref qp, .int (nI len), .int go, .ref qn])), (qz, .inl (cI, 46, .inl (upd z j v0))), (qa, .inl (cI, 46, .inl as)), (qe, .inl (cI, 276, .inl (rcB be z sts))), (qs, .inl (cI, 92, .inl sl)), (qv, .inl (cZ, 2, .inl sv)), (qp, .inl (cI, 60, .inl pd)), (qn, .inl (cI, 36, .inl nd))] H570 := hP
                  have hDc := hD.tt
                  have hFc := va_free (wc := [(qm, .inr (6, [.ref qz, .ref qa, .ref qe, .int (nI (rcN sts)), .ref qs, .ref qv, .ref qp, .int (nI len), .int go, .ref qn])), (qz, .inl (cI, 46, .inl (upd z j v0))), (qa, .inl (cI, 46, .inl as)), (qe, .inl (cI, 276, .inl (rcB be z sts))), (qs, .inl (cI, 92, .inl sl)), (qv, .inl (cZ, 2, .inl sv)), (qp, .inl (cI, 60, .inl pd)), (qn, .inl (cI, 36, .inl nd))]) hD hS hA [0, 1, 2, 3, 4, 5, 6, 7] rfl
                  refine va_callv (va_runV (As := []) (rest := []) ⟨hx, hb, hml, hown, hts⟩ (c_X6_lookAtBridges l G cI cC cZ cG H570.size qm qz qa qe qs qv qp qn (upd z j v0) as (rcB be z sts) sl sv pd nd (rcN sts) len go) (cf_RX6_94 hts ⟨Nat.le_of_ble_eq_true rfl, Nat.le_of_ble_eq_true rfl⟩) (pre_V hK hPc hDc (ci := 6) (q0 := 0) rfl rfl) rfl rfl hl.1 rfl (lv_room (Nat.le_of_ble_eq_true rfl)) dX6_lay_148 ⟨Nat.le_of_ble_eq_true rfl, Nat.le_of_ble_eq_true rfl⟩) hS (fun q _ h => hFc q h) hFc (fun u571 t571 H571 locs571 ht571 hvm571 hw571 hB571 hz571 hk571 hS => ?_)
                  obtain ⟨z571, rfl⟩ : ∃ z, z = u571 := ⟨_, rfl⟩
                  obtain ⟨hP1, hD1⟩ := hB571
                  rw [ht571] at hP1
                  try dsimp only at hw571
                  obtain ⟨hP, hD⟩ := va_join (wr := []) (w1 := [(qm, .inr (6, [.ref qz, .ref qa, .ref qe, .int (nI (rcN sts)), .ref qs, .ref qv, .ref qp, .int (nI len), .int go, .ref qn])), (qz, .inl (cI, 46, .inl z571)), (qa, .inl (cI, 46, .inl as)), (qe, .inl (cI, 276, .inl (rcB be z sts))), (qs, .inl (cI, 92, .inl sl)), (qv, .inl (cZ, 2, .inl sv)), (qp, .inl (cI, 60, .inl pd)), (qn, .inl (cI, 36, .inl nd))]) hP hD [0, 1, 2, 3, 4, 5, 6, 7] [] rfl rfl (by decide) (by decide) hk571 hFc hP1 hD1
                  have hP : va_P G vwCl [(qm, .inr (6, [.ref qz, .ref qa, .ref qe, .int (nI (rcN sts)), .ref qs, .ref qv, .ref qp, .int (nI len), .int go, .ref qn])), (qz, .inl (cI, 46, .inl z571)), (qa, .inl (cI, 46, .inl as)), (qe, .inl (cI, 276, .inl (rcB be z sts))), (qs, .inl (cI, 92, .inl sl)), (qv, .inl (cZ, 2, .inl sv)), (qp, .inl (cI, 60, .inl pd)), (qn, .inl (cI, 36, .inl nd))] H571 := hP
                  have hD : va_D A [(qm, .inr (6, [.ref qz, .ref qa, .ref qe, .int (nI (rcN sts)), .ref qs, .ref qv, .ref qp, .int (nI len), .int go, .ref qn])), (qz, .inl (cI, 46, .inl z571)), (qa, .inl (cI, 46, .inl as)), (qe, .inl (cI, 276, .inl (rcB be z sts))), (qs, .inl (cI, 92, .inl sl)), (qv, .inl (cZ, 2, .inl sv)), (qp, .inl (cI, 60, .inl pd)), (qn, .inl (cI, 36, .inl nd))] := hD
                  refine lv_iload hx hb dX6_lay_151 (lv_at hl 0 rfl) ?_
                  subst hQ
                  exact W.iret (v := z j) hx hb hr (fun t ht hW => ⟨⟨z j, (z571, (rcB be z sts), (rcN sts), sl, sv, pd, len, as, go, nd), rfl, ⟨by show _ = Prod.fst (_ : Int32 × KS); rw [m_lay, if_neg (fun h => h c_559), if_neg (fun h => h.1 c_560), (show (nI j).toNatClampNeg = j from nI_clamp (by omega)), (show laO z v0 j = f by rw [hf2, show i - 3 * (j / 3) = 3 by omega]; rfl), if_neg (fun h => h.elim c_565 (fun h => h.elim (fun h => absurd h (by omega)) c_568))], by rw [m_lay, if_neg (fun h => h c_559), if_neg (fun h => h.1 c_560), (show (nI j).toNatClampNeg = j from nI_clamp (by omega)), (show laO z v0 j = f by rw [hf2, show i - 3 * (j / 3) = 3 by omega]; rfl), if_neg (fun h => h.elim c_565 (fun h => h.elim (fun h => absurd h (by omega)) c_568))]; exact cor_eq hw571 rfl rfl rfl rfl rfl rfl⟩, by rw [ht]; exact hP, hD⟩, hS.F ht⟩) hS.2.2 dX6_lay_153
                · refine lv_bipush (v := (-5)) hx hb dX6_lay_125 (by decide) ?_
                  subst hQ
                  exact W.iret (v := (-5)) hx hb hr (fun t ht hW => ⟨⟨(-5), (z, be, sts, sl, sv, pd, len, as, go, nd), rfl, ⟨by show _ = Prod.fst (_ : Int32 × KS); rw [m_lay, if_neg (fun h => h c_559), if_neg (fun h => h.1 c_560), (show (nI j).toNatClampNeg = j from nI_clamp (by omega)), if_pos (Or.inr (Or.inr c_568))], by rw [m_lay, if_neg (fun h => h c_559), if_neg (fun h => h.1 c_560), (show (nI j).toNatClampNeg = j from nI_clamp (by omega)), if_pos (Or.inr (Or.inr c_568))]; rfl⟩, by rw [ht]; exact hP, hD⟩, hS.F ht⟩) hS.2.2 dX6_lay_127
          · refine lv_iload hx hb dX6_lay_57 (lv_at hl 1 rfl) ?_
            refine lv_iload hx hb dX6_lay_59 (lv_at hl 0 rfl) ?_
            refine lv_iload_n hx hb dX6_lay_61 rfl (lv_at hl 5 rfl) ?_
            refine zi_eq (tgt := 90) hx hb i j dX6_lay_62 (by decide) rfl rfl (by omega) (by omega) (fun c_572 => ?_) (fun c_572 => ?_)
            · refine lv_iconst (v := 0) hx hb dX6_lay_90 (by decide) ?_
              refine zi_add hx hb f 0 dX6_lay_91 rfl rfl ?_
              refine lv_istore (lv' := [(5, .int (nI (f + 0))), (6, .int (nI i)), (4, .int (rf (j / 3) v0)), (3, .int (nI (j / 3))), (0, .ref qm), (1, .int (nI j)), (2, .int v0)]) hx hb dX6_lay_92 hl (by decide) rfl (fun ls hl => ?_)
              refine lv_iinc (v := nI (i + 1)) (lv' := [(6, .int (nI (i + 1))), (5, .int (nI (f + 0))), (4, .int (rf (j / 3) v0)), (3, .int (nI (j / 3))), (0, .ref qm), (1, .int (nI j)), (2, .int v0)]) hx hb dX6_lay_94 hl (k := 1) rfl (nI_inc i) (by decide) rfl (fun ls hl => ?_)
              refine lv_goto (tgt := 47) hx hb dX6_lay_97 (by decide) ?_
              exact ih1 (i + 1) (f + 0) (by omega) (by omega) (by rw [hb3, Nat.add_zero, cnt_f (by rw [laP, hb2]; simp [c_563, c_572]), hf2]) (by omega) _ (lv_sub hl [0, 1, 2, 3, 4, 5, 6] rfl)
            · refine lv_aload_n hx hb dX6_lay_65 rfl (lv_at hl 4 rfl) ?_
              refine va_get (D := G) (ci := 6) (v := .ref qz) (C := RX6) (T := TX6) (N := 10) hx hb hts inlX6 hown hK.1 hP 0 rfl rfl 0 (by decide) (hts _ wd78) (fun _ h9 => h9) rfl dX6_lay_66 ?_
              refine lv_iload hx hb dX6_lay_69 (lv_at hl 0 rfl) ?_
              refine za_ld hx hb hK.1 hP 1 0 rfl rfl i rfl (by omega) (by decide) dX6_lay_71 ?_
              refine lv_iload_n hx hb dX6_lay_72 rfl (lv_at hl 6 rfl) ?_
              refine lv_icmp_ne (tgt := 90) hx hb dX6_lay_73 (by decide) (fun c_573 => ?_) (fun c_573 => ?_)
              · refine lv_iconst (v := 0) hx hb dX6_lay_90 (by decide) ?_
                refine zi_add hx hb f 0 dX6_lay_91 rfl rfl ?_
                refine lv_istore (lv' := [(5, .int (nI (f + 0))), (6, .int (nI i)), (4, .int (rf (j / 3) v0)), (3, .int (nI (j / 3))), (0, .ref qm), (1, .int (nI j)), (2, .int v0)]) hx hb dX6_lay_92 hl (by decide) rfl (fun ls hl => ?_)
                refine lv_iinc (v := nI (i + 1)) (lv' := [(6, .int (nI (i + 1))), (5, .int (nI (f + 0))), (4, .int (rf (j / 3) v0)), (3, .int (nI (j / 3))), (0, .ref qm), (1, .int (nI j)), (2, .int v0)]) hx hb dX6_lay_94 hl (k := 1) rfl (nI_inc i) (by decide) rfl (fun ls hl => ?_)
                refine lv_goto (tgt := 47) hx hb dX6_lay_97 (by decide) ?_
                exact ih1 (i + 1) (f + 0) (by omega) (by omega) (by rw [hb3, Nat.add_zero, cnt_f (by rw [laP, hb2]; simp [c_563, c_572, c_573]), hf2]) (by omega) _ (lv_sub hl [0, 1, 2, 3, 4, 5, 6] rfl)
              · refine lv_iload_n hx hb dX6_lay_76 rfl (lv_at hl 6 rfl) ?_
                refine lv_iconst (v := 0) hx hb dX6_lay_77 (by decide) ?_
                refine lv_bipush (v := 34) hx hb dX6_lay_78 (by decide) ?_
                refine vp_callSi (va_Run.run (va_runS (As := [.int v0, .int 0, .int 34]) (rest := [.int (nI f)]) ⟨hx, hb, hml, hown, hts⟩ (c_X6_in l v0 0 34) (cf_RX6_32 hts ⟨Nat.le_of_ble_eq_true rfl, Nat.le_of_ble_eq_true rfl⟩) pre_P rfl rfl hl.1 rfl (lv_room (Nat.le_of_ble_eq_true rfl)) dX6_lay_80 ⟨Nat.le_of_ble_eq_true rfl, Nat.le_of_ble_eq_true rfl⟩)) (fun r574 hr574 => ?_)
                subst hr574
                refine zb_eq (tgt := 90) hx hb dX6_lay_83 (by decide) (fun c_575 => ?_) (fun c_575 => ?_)
                · refine lv_iconst (v := 0) hx hb dX6_lay_90 (by decide) ?_
                  refine zi_add hx hb f 0 dX6_lay_91 rfl rfl ?_
                  refine lv_istore (lv' := [(5, .int (nI (f + 0))), (6, .int (nI i)), (4, .int (rf (j / 3) v0)), (3, .int (nI (j / 3))), (0, .ref qm), (1, .int (nI j)), (2, .int v0)]) hx hb dX6_lay_92 hl (by decide) rfl (fun ls hl => ?_)
                  refine lv_iinc (v := nI (i + 1)) (lv' := [(6, .int (nI (i + 1))), (5, .int (nI (f + 0))), (4, .int (rf (j / 3) v0)), (3, .int (nI (j / 3))), (0, .ref qm), (1, .int (nI j)), (2, .int v0)]) hx hb dX6_lay_94 hl (k := 1) rfl (nI_inc i) (by decide) rfl (fun ls hl => ?_)
                  refine lv_goto (tgt := 47) hx hb dX6_lay_97 (by decide) ?_
                  exact ih1 (i + 1) (f + 0) (by omega) (by omega) (by rw [hb3, Nat.add_zero, cnt_f (by rw [laP, hb2]; simp [c_563, c_572, c_573, c_575]), hf2]) (by omega) _ (lv_sub hl [0, 1, 2, 3, 4, 5, 6] rfl)
                · refine lv_iconst (v := 1) hx hb dX6_lay_86 (by decide) ?_
                  refine lv_goto (tgt := 91) hx hb dX6_lay_87 (by decide) ?_
                  refine zi_add hx hb f 1 dX6_lay_91 rfl rfl ?_
                  refine lv_istore (lv' := [(5, .int (nI (f + 1))), (6, .int (nI i)), (4, .int (rf (j / 3) v0)), (3, .int (nI (j / 3))), (0, .ref qm), (1, .int (nI j)), (2, .int v0)]) hx hb dX6_lay_92 hl (by decide) rfl (fun ls hl => ?_)
                  refine lv_iinc (v := nI (i + 1)) (lv' := [(6, .int (nI (i + 1))), (5, .int (nI (f + 1))), (4, .int (rf (j / 3) v0)), (3, .int (nI (j / 3))), (0, .ref qm), (1, .int (nI j)), (2, .int v0)]) hx hb dX6_lay_94 hl (k := 1) rfl (nI_inc i) (by decide) rfl (fun ls hl => ?_)
                  refine lv_goto (tgt := 47) hx hb dX6_lay_97 (by decide) ?_
                  exact ih1 (i + 1) (f + 1) (by omega) (by omega) (by rw [hb3, cnt_t (by rw [laP, hb2]; simp [c_563, c_572, c_573, c_575]), hf2]) (by omega) _ (lv_sub hl [0, 1, 2, 3, 4, 5, 6] rfl)
      exact L1 4 (3 * (j / 3)) 0 (Nat.le_refl _) (by omega) (by rw [Nat.sub_self]; rfl) (by omega) _ (lv_sub hl [0, 1, 2, 3, 4, 5, 6] rfl)
    · refine lv_iload_n hx hb dX6_lay_15 rfl (lv_at hl 2 rfl) ?_
      refine lv_iconst (v := 0) hx hb dX6_lay_16 (by decide) ?_
      refine lv_bipush (v := 35) hx hb dX6_lay_17 (by decide) ?_
      refine vp_callSi (va_Run.run (va_runS (As := [.int v0, .int 0, .int 35]) (rest := []) ⟨hx, hb, hml, hown, hts⟩ (c_X6_in l v0 0 35) (cf_RX6_32 hts ⟨Nat.le_of_ble_eq_true rfl, Nat.le_of_ble_eq_true rfl⟩) pre_P rfl rfl hl.1 rfl (lv_room (Nat.le_of_ble_eq_true rfl)) dX6_lay_19 ⟨Nat.le_of_ble_eq_true rfl, Nat.le_of_ble_eq_true rfl⟩)) (fun r576 hr576 => ?_)
      subst hr576
      refine zb_ne (tgt := 28) hx hb dX6_lay_22 (by decide) (fun c_577 => ?_) (fun c_577 => ?_)
      · refine lv_iload_n hx hb dX6_lay_28 rfl (lv_at hl 1 rfl) ?_
        refine lv_iconst (v := 3) hx hb dX6_lay_29 (by decide) ?_
        refine zi_div hx hb j 3 dX6_lay_30 rfl rfl (by omega) (by decide) (by decide) ?_
        refine lv_istore_n (lv' := [(3, .int (nI (j / 3))), (0, .ref qm), (1, .int (nI j)), (2, .int v0)]) hx hb dX6_lay_31 rfl hl (by decide) rfl (fun ls hl => ?_)
        refine lv_iload_n hx hb dX6_lay_32 rfl (lv_at hl 0 rfl) ?_
        refine lv_iload_n hx hb dX6_lay_33 rfl (lv_at hl 3 rfl) ?_
        refine vp_callSi (va_Run.run (va_runS (As := [.int (nI (j / 3)), .int v0]) (rest := []) ⟨hx, hb, hml, hown, hts⟩ (c_X6_fieldAt l (j / 3) v0 (by omega)) (cf_RX6_36 hts ⟨Nat.le_of_ble_eq_true rfl, Nat.le_of_ble_eq_true rfl⟩) pre_P rfl rfl hl.1 rfl (lv_room (Nat.le_of_ble_eq_true rfl)) dX6_lay_34 ⟨Nat.le_of_ble_eq_true rfl, Nat.le_of_ble_eq_true rfl⟩)) (fun r578 hr578 => ?_)
        subst hr578
        refine lv_istore (lv' := [(4, .int (rf (j / 3) v0)), (3, .int (nI (j / 3))), (0, .ref qm), (1, .int (nI j)), (2, .int v0)]) hx hb dX6_lay_37 hl (by decide) rfl (fun ls hl => ?_)
        refine lv_iconst (v := 0) hx hb dX6_lay_39 (by decide) ?_
        refine lv_istore (lv' := [(5, .int 0), (4, .int (rf (j / 3) v0)), (3, .int (nI (j / 3))), (0, .ref qm), (1, .int (nI j)), (2, .int v0)]) hx hb dX6_lay_40 hl (by decide) rfl (fun ls hl => ?_)
        refine lv_iconst (v := 3) hx hb dX6_lay_42 (by decide) ?_
        refine lv_iload_n hx hb dX6_lay_43 rfl (lv_at hl 2 rfl) ?_
        refine zi_mul hx hb 3 (j / 3) dX6_lay_44 rfl rfl ?_
        refine lv_istore (lv' := [(6, .int (nI (3 * (j / 3)))), (5, .int 0), (4, .int (rf (j / 3) v0)), (3, .int (nI (j / 3))), (0, .ref qm), (1, .int (nI j)), (2, .int v0)]) hx hb dX6_lay_45 hl (by decide) rfl (fun ls hl => ?_)
        have L2 : ∀ (n : Nat), ∀ (i : Nat), ∀ (f : Nat), ∀ (h0 : 3 * (j / 3) ≤ i), ∀ (hi : i ≤ 3 * (j / 3) + 3), ∀ (hf2 : f = cnt (laP z v0 j) (i - 3 * (j / 3))), ∀ (hn : 3 * (j / 3) + 4 ≤ i + n), ∀ (ls : Array Slot), lv_has ls 7 [(6, .int (nI i)), (5, .int (nI f)), (4, .int (rf (j / 3) v0)), (3, .int (nI (j / 3))), (0, .ref qm), (1, .int (nI j)), (2, .int v0)] → W p l e rm_X6_lay s m ag below meth c s.heap [] 0 0 Q (F0 m 47 ls []) := by
          intro n
          induction n with
          | zero =>
            intro i f h0 hi hf2 hn ls hl
            omega
          | succ n ih2 =>
            intro i f h0 hi hf2 hn ls hl
            have hb2 : 3 * (j / 3) + (i - 3 * (j / 3)) = i := by omega
            have hb3 : i + 1 - 3 * (j / 3) = (i - 3 * (j / 3)) + 1 := by omega
            have hfl : f ≤ 3 := by rw [hf2]; exact Nat.le_trans (cnt_le _ _) (by omega)
            refine lv_iload hx hb dX6_lay_47 (lv_at hl 0 rfl) ?_
            refine lv_iconst (v := 3) hx hb dX6_lay_49 (by decide) ?_
            refine lv_iload_n hx hb dX6_lay_50 rfl (lv_at hl 3 rfl) ?_
            refine zi_mul hx hb 3 (j / 3) dX6_lay_51 rfl rfl ?_
            refine lv_iconst (v := 3) hx hb dX6_lay_52 (by decide) ?_
            refine zi_add hx hb (3 * (j / 3)) 3 dX6_lay_53 rfl rfl ?_
            refine zi_ge (tgt := 100) hx hb i ((3 * (j / 3)) + 3) dX6_lay_54 (by decide) rfl rfl (by omega) (by omega) (fun c_580 => ?_) (fun c_580 => ?_)
            · refine lv_aload_n hx hb dX6_lay_100 rfl (lv_at hl 4 rfl) ?_
              refine lv_iload_n hx hb dX6_lay_101 rfl (lv_at hl 3 rfl) ?_
              refine lv_iload hx hb dX6_lay_102 (lv_at hl 2 rfl) ?_
              have hPc : va_P G vwCl [(qm, .inr (6, [.ref qz, .ref qa, .ref qe, .int (nI sts), .ref qs, .ref qv, .ref qp, .int (nI len), .int go, .ref qn])), (qz, .inl (cI, 46, .inl z)), (qa, .inl (cI, 46, .inl as)), (qe, .inl (cI, 276, .inl be)), (qs, .inl (cI, 92, .inl sl)), (qv, .inl (cZ, 2, .inl sv)), (qp, .inl (cI, 60, .inl pd)), (qn, .inl (cI, 36, .inl nd))] s.heap := hP
              have hDc := hD.tt
              refine vp_callSi (va_Run.run (va_runV (As := [.int (nI (j / 3)), .int (rf (j / 3) v0)]) (rest := []) ⟨hx, hb, hml, hown, hts⟩ (c_X6_otherOn l G cI cC cZ cG s.heap.size qm qz qa qe qs qv qp qn z as be sl sv pd nd sts len go (j / 3) (rf (j / 3) v0) (by omega)) (cf_RX6_91 hts ⟨Nat.le_of_ble_eq_true rfl, Nat.le_of_ble_eq_true rfl⟩) (pre_V hK hPc hDc (ci := 6) (q0 := 0) rfl rfl) rfl rfl hl.1 rfl (lv_room (Nat.le_of_ble_eq_true rfl)) dX6_lay_104 ⟨Nat.le_of_ble_eq_true rfl, Nat.le_of_ble_eq_true rfl⟩)) (fun r581 hr581 => ?_)
              subst hr581
              refine lv_if_ge (tgt := 125) hx hb dX6_lay_107 (by decide) (fun c_582 => ?_) (fun c_582 => ?_)
              · refine lv_bipush (v := (-5)) hx hb dX6_lay_125 (by decide) ?_
                subst hQ
                exact W.iret (v := (-5)) hx hb hr (fun t ht hW => ⟨⟨(-5), (z, be, sts, sl, sv, pd, len, as, go, nd), rfl, ⟨by show _ = Prod.fst (_ : Int32 × KS); rw [m_lay, if_neg (fun h => h c_559), if_neg (fun h => h.2 c_577), (show (nI j).toNatClampNeg = j from nI_clamp (by omega)), if_pos (Or.inl c_582)], by rw [m_lay, if_neg (fun h => h c_559), if_neg (fun h => h.2 c_577), (show (nI j).toNatClampNeg = j from nI_clamp (by omega)), if_pos (Or.inl c_582)]; rfl⟩, by rw [ht]; exact hP, hD⟩, hS.F ht⟩) hS.2.2 dX6_lay_127
              · refine lv_iload hx hb dX6_lay_110 (lv_at hl 1 rfl) ?_
                refine lv_iconst (v := 1) hx hb dX6_lay_112 (by decide) ?_
                refine zi_gt (tgt := 125) hx hb f 1 dX6_lay_113 (by decide) rfl rfl (by omega) (by decide) (fun c_583 => ?_) (fun c_583 => ?_)
                · refine lv_bipush (v := (-5)) hx hb dX6_lay_125 (by decide) ?_
                  subst hQ
                  exact W.iret (v := (-5)) hx hb hr (fun t ht hW => ⟨⟨(-5), (z, be, sts, sl, sv, pd, len, as, go, nd), rfl, ⟨by show _ = Prod.fst (_ : Int32 × KS); rw [m_lay, if_neg (fun h => h c_559), if_neg (fun h => h.2 c_577), (show (nI j).toNatClampNeg = j from nI_clamp (by omega)), (show laO z v0 j = f by rw [hf2, show i - 3 * (j / 3) = 3 by omega]; rfl), if_pos (Or.inr (Or.inl (by omega)))], by rw [m_lay, if_neg (fun h => h c_559), if_neg (fun h => h.2 c_577), (show (nI j).toNatClampNeg = j from nI_clamp (by omega)), (show laO z v0 j = f by rw [hf2, show i - 3 * (j / 3) = 3 by omega]; rfl), if_pos (Or.inr (Or.inl (by omega)))]; rfl⟩, by rw [ht]; exact hP, hD⟩, hS.F ht⟩) hS.2.2 dX6_lay_127
                · refine lv_aload_n hx hb dX6_lay_116 rfl (lv_at hl 4 rfl) ?_
                  refine lv_iload hx hb dX6_lay_117 (lv_at hl 2 rfl) ?_
                  have hPc : va_P G vwCl [(qm, .inr (6, [.ref qz, .ref qa, .ref qe, .int (nI sts), .ref qs, .ref qv, .ref qp, .int (nI len), .int go, .ref qn])), (qz, .inl (cI, 46, .inl z)), (qa, .inl (cI, 46, .inl as)), (qe, .inl (cI, 276, .inl be)), (qs, .inl (cI, 92, .inl sl)), (qv, .inl (cZ, 2, .inl sv)), (qp, .inl (cI, 60, .inl pd)), (qn, .inl (cI, 36, .inl nd))] s.heap := hP
                  have hDc := hD.tt
                  refine vp_callSi (va_Run.run (va_runV (As := [.int (rf (j / 3) v0)]) (rest := []) ⟨hx, hb, hml, hown, hts⟩ (c_X6_isFallen l G cI cC cZ cG s.heap.size qm qz qa qe qs qv qp qn z as be sl sv pd nd sts len go (rf (j / 3) v0) (by first | assumption | exact rf_okf _ (by omega))) (cf_RX6_71 hts ⟨Nat.le_of_ble_eq_true rfl, Nat.le_of_ble_eq_true rfl⟩) (pre_V hK hPc hDc (ci := 6) (q0 := 0) rfl rfl) rfl rfl hl.1 rfl (lv_room (Nat.le_of_ble_eq_true rfl)) dX6_lay_119 ⟨Nat.le_of_ble_eq_true rfl, Nat.le_of_ble_eq_true rfl⟩)) (fun r584 hr584 => ?_)
                  subst hr584
                  refine zb_eq (tgt := 128) hx hb dX6_lay_122 (by decide) (fun c_585 => ?_) (fun c_585 => ?_)
                  · refine lv_aload_n hx hb dX6_lay_128 rfl (lv_at hl 4 rfl) ?_
                    have hPc : va_P G vwCl [(qm, .inr (6, [.ref qz, .ref qa, .ref qe, .int (nI sts), .ref qs, .ref qv, .ref qp, .int (nI len), .int go, .ref qn])), (qz, .inl (cI, 46, .inl z)), (qa, .inl (cI, 46, .inl as)), (qe, .inl (cI, 276, .inl be)), (qs, .inl (cI, 92, .inl sl)), (qv, .inl (cZ, 2, .inl sv)), (qp, .inl (cI, 60, .inl pd)), (qn, .inl (cI, 36, .inl nd))] s.heap := hP
                    have hDc := hD.tt
                    have hFc := va_free (wc := [(qm, .inr (6, [.ref qz, .ref qa, .ref qe, .int (nI sts), .ref qs, .ref qv, .ref qp, .int (nI len), .int go, .ref qn])), (qz, .inl (cI, 46, .inl z)), (qa, .inl (cI, 46, .inl as)), (qe, .inl (cI, 276, .inl be)), (qs, .inl (cI, 92, .inl sl)), (qv, .inl (cZ, 2, .inl sv)), (qp, .inl (cI, 60, .inl pd)), (qn, .inl (cI, 36, .inl nd))]) hD hS hA [0, 1, 2, 3, 4, 5, 6, 7] rfl
                    refine va_callv (va_runV (As := []) (rest := []) ⟨hx, hb, hml, hown, hts⟩ (c_X6_record l G cI cC cZ cG s.heap.size qm qz qa qe qs qv qp qn z as be sl sv pd nd sts len go hst) (cf_RX6_68 hts ⟨Nat.le_of_ble_eq_true rfl, Nat.le_of_ble_eq_true rfl⟩) (pre_V hK hPc hDc (ci := 6) (q0 := 0) rfl rfl) rfl rfl hl.1 rfl (lv_room (Nat.le_of_ble_eq_true rfl)) dX6_lay_129 ⟨Nat.le_of_ble_eq_true rfl, Nat.le_of_ble_eq_true rfl⟩) hS (fun q _ h => hFc q h) hFc (fun u586 t586 H586 locs586 ht586 hvm586 hw586 hB586 hz586 hk586 hS => ?_)
                    obtain ⟨q586, rfl⟩ : ∃ z, z = u586 := ⟨_, rfl⟩
                    obtain ⟨hP1, hD1⟩ := hB586
                    rw [ht586] at hP1
                    try dsimp only at hw586
                    obtain ⟨hP, hD⟩ := va_join (wr := []) (w1 := [(qm, .inr (6, [.ref qz, .ref qa, .ref qe, .int (nI (rcN sts)), .ref qs, .ref qv, .ref qp, .int (nI len), .int go, .ref qn])), (qz, .inl (cI, 46, .inl z)), (qa, .inl (cI, 46, .inl as)), (qe, .inl (cI, 276, .inl (rcB be z sts))), (qs, .inl (cI, 92, .inl sl)), (qv, .inl (cZ, 2, .inl sv)), (qp, .inl (cI, 60, .inl pd)), (qn, .inl (cI, 36, .inl nd))]) hP hD [0, 1, 2, 3, 4, 5, 6, 7] [] rfl rfl (by decide) (by decide) hk586 hFc hP1 hD1
                    have hP : va_P G vwCl [(qm, .inr (6, [.ref qz, .ref qa, .ref qe, .int (nI (rcN sts)), .ref qs, .ref qv, .ref qp, .int (nI len), .int go, .ref qn])), (qz, .inl (cI, 46, .inl z)), (qa, .inl (cI, 46, .inl as)), (qe, .inl (cI, 276, .inl (rcB be z sts))), (qs, .inl (cI, 92, .inl sl)), (qv, .inl (cZ, 2, .inl sv)), (qp, .inl (cI, 60, .inl pd)), (qn, .inl (cI, 36, .inl nd))] H586 := hP
                    have hD : va_D A [(qm, .inr (6, [.ref qz, .ref qa, .ref qe, .int (nI (rcN sts)), .ref qs, .ref qv, .ref qp, .int (nI len), .int go, .ref qn])), (qz, .inl (cI, 46, .inl z)), (qa, .inl (cI, 46, .inl as)), (qe, .inl (cI, 276, .inl (rcB be z sts))), (qs, .inl (cI, 92, .inl sl)), (qv, .inl (cZ, 2, .inl sv)), (qp, .inl (cI, 60, .inl pd)), (qn, .inl (cI, 36, .inl nd))] := hD
                    refine lv_aload_n hx hb dX6_lay_132 rfl (lv_at hl 4 rfl) ?_
                    refine va_get (D := G) (ci := 6) (v := .ref qz) (C := RX6) (T := TX6) (N := 10) hx hb hts inlX6 hown hK.1 hP 0 rfl rfl 0 (by decide) (hts _ wd78) (fun _ h9 => h9) rfl dX6_lay_133 ?_
                    refine lv_iload_n hx hb dX6_lay_136 rfl (lv_at hl 5 rfl) ?_
                    refine za_ld hx hb hK.1 hP 1 0 rfl rfl j rfl (by omega) (by decide) dX6_lay_137 ?_
                    refine lv_istore (lv' := [(6, .int (z j)), (5, .int (nI f)), (4, .int (rf (j / 3) v0)), (3, .int (nI (j / 3))), (0, .ref qm), (1, .int (nI j)), (2, .int v0)]) hx hb dX6_lay_138 hl (by decide) rfl (fun ls hl => ?_)
                    refine lv_aload_n hx hb dX6_lay_140 rfl (lv_at hl 4 rfl) ?_
                    refine va_get (D := G) (ci := 6) (v := .ref qz) (C := RX6) (T := TX6) (N := 10) hx hb hts inlX6 hown hK.1 hP 0 rfl rfl 0 (by decide) (hts _ wd78) (fun _ h9 => h9) rfl dX6_lay_141 ?_
                    refine lv_iload_n hx hb dX6_lay_144 rfl (lv_at hl 5 rfl) ?_
                    refine lv_iload_n hx hb dX6_lay_145 rfl (lv_at hl 6 rfl) ?_
                    refine za_st hx hb hK.1 hP hD hS 1 0 rfl rfl j rfl (by omega) (by decide) dX6_lay_146 (fun H587 locs587 hP hD hS => ?_)
                    have hP : va_P G vwCl [(qm, .inr (6, [.ref qz, .ref qa, .ref qe, .int (nI (rcN sts)), .ref qs, .ref qv, .ref qp, .int (nI len), .int go, .ref qn])), (qz, .inl (cI, 46, .inl (upd z j v0))), (qa, .inl (cI, 46, .inl as)), (qe, .inl (cI, 276, .inl (rcB be z sts))), (qs, .inl (cI, 92, .inl sl)), (qv, .inl (cZ, 2, .inl sv)), (qp, .inl (cI, 60, .inl pd)), (qn, .inl (cI, 36, .inl nd))] H587 := hP
                    have hD : va_D A [(qm, .inr (6, [.ref qz, .ref qa, .ref qe, .int (nI (rcN sts)), .ref qs, .ref qv, .ref qp, .int (nI len), .int go, .ref qn])), (qz, .inl (cI, 46, .inl (upd z j v0))), (qa, .inl (cI, 46, .inl as)), (qe, .inl (cI, 276, .inl (rcB be z sts))), (qs, .inl (cI, 92, .inl sl)), (qv, .inl (cZ, 2, .inl sv)), (qp, .inl (cI, 60, .inl pd)), (qn, .inl (cI, 36, .inl nd))] := hD
                    refine lv_aload_n hx hb dX6_lay_147 rfl (lv_at hl 4 rfl) ?_
                    have hPc : va_P G vwCl [(qm, .inr (6, [.ref qz, .ref qa, .ref qe, .int (nI (rcN sts)), .ref qs, .ref qv, .ref qp, .int (nI len), .int go, .ref qn])), (qz, .inl (cI, 46, .inl (upd z j v0))), (qa, .inl (cI, 46, .inl as)), (qe, .inl (cI, 276, .inl (rcB be z sts))), (qs, .inl (cI, 92, .inl sl)), (qv, .inl (cZ, 2, .inl sv)), (qp, .inl (cI, 60, .inl pd)), (qn, .inl (cI, 36, .inl nd))] H587 := hP
                    have hDc := hD.tt
                    have hFc := va_free (wc := [(qm, .inr (6, [.ref qz, .ref qa, .ref qe, .int (nI (rcN sts)), .ref qs, .ref qv, .ref qp, .int (nI len), .int go, .ref qn])), (qz, .inl (cI, 46, .inl (upd z j v0))), (qa, .inl (cI, 46, .inl as)), (qe, .inl (cI, 276, .inl (rcB be z sts))), (qs, .inl (cI, 92, .inl sl)), (qv, .inl (cZ, 2, .inl sv)), (qp, .inl (cI, 60, .inl pd)), (qn, .inl (cI, 36, .inl nd))]) hD hS hA [0, 1, 2, 3, 4, 5, 6, 7] rfl
                    refine va_callv (va_runV (As := []) (rest := []) ⟨hx, hb, hml, hown, hts⟩ (c_X6_lookAtBridges l G cI cC cZ cG H587.size qm qz qa qe qs qv qp qn (upd z j v0) as (rcB be z sts) sl sv pd nd (rcN sts) len go) (cf_RX6_94 hts ⟨Nat.le_of_ble_eq_true rfl, Nat.le_of_ble_eq_true rfl⟩) (pre_V hK hPc hDc (ci := 6) (q0 := 0) rfl rfl) rfl rfl hl.1 rfl (lv_room (Nat.le_of_ble_eq_true rfl)) dX6_lay_148 ⟨Nat.le_of_ble_eq_true rfl, Nat.le_of_ble_eq_true rfl⟩) hS (fun q _ h => hFc q h) hFc (fun u588 t588 H588 locs588 ht588 hvm588 hw588 hB588 hz588 hk588 hS => ?_)
                    obtain ⟨z588, rfl⟩ : ∃ z, z = u588 := ⟨_, rfl⟩
                    obtain ⟨hP1, hD1⟩ := hB588
                    rw [ht588] at hP1
                    try dsimp only at hw588
                    obtain ⟨hP, hD⟩ := va_join (wr := []) (w1 := [(qm, .inr (6, [.ref qz, .ref qa, .ref qe, .int (nI (rcN sts)), .ref qs, .ref qv, .ref qp, .int (nI len), .int go, .ref qn])), (qz, .inl (cI, 46, .inl z588)), (qa, .inl (cI, 46, .inl as)), (qe, .inl (cI, 276, .inl (rcB be z sts))), (qs, .inl (cI, 92, .inl sl)), (qv, .inl (cZ, 2, .inl sv)), (qp, .inl (cI, 60, .inl pd)), (qn, .inl (cI, 36, .inl nd))]) hP hD [0, 1, 2, 3, 4, 5, 6, 7] [] rfl rfl (by decide) (by decide) hk588 hFc hP1 hD1
                    have hP : va_P G vwCl [(qm, .inr (6, [.ref qz, .ref qa, .ref qe, .int (nI (rcN sts)), .ref qs, .ref qv, .ref qp, .int (nI len), .int go, .ref qn])), (qz, .inl (cI, 46, .inl z588)), (qa, .inl (cI, 46, .inl as)), (qe, .inl (cI, 276, .inl (rcB be z sts))), (qs, .inl (cI, 92, .inl sl)), (qv, .inl (cZ, 2, .inl sv)), (qp, .inl (cI, 60, .inl pd)), (qn, .inl (cI, 36, .inl nd))] H588 := hP
                    have hD : va_D A [(qm, .inr (6, [.ref qz, .ref qa, .ref qe, .int (nI (rcN sts)), .ref qs, .ref qv, .ref qp, .int (nI len), .int go, .ref qn])), (qz, .inl (cI, 46, .inl z588)), (qa, .inl (cI, 46, .inl as)), (qe, .inl (cI, 276, .inl (rcB be z sts))), (qs, .inl (cI, 92, .inl sl)), (qv, .inl (cZ, 2, .inl sv)), (qp, .inl (cI, 60, .inl pd)), (qn, .inl (cI, 36, .inl nd))] := hD
                    refine lv_iload hx hb dX6_lay_151 (lv_at hl 0 rfl) ?_
                    subst hQ
                    exact W.iret (v := z j) hx hb hr (fun t ht hW => ⟨⟨z j, (z588, (rcB be z sts), (rcN sts), sl, sv, pd, len, as, go, nd), rfl, ⟨by show _ = Prod.fst (_ : Int32 × KS); rw [m_lay, if_neg (fun h => h c_559), if_neg (fun h => h.2 c_577), (show (nI j).toNatClampNeg = j from nI_clamp (by omega)), (show laO z v0 j = f by rw [hf2, show i - 3 * (j / 3) = 3 by omega]; rfl), if_neg (fun h => h.elim c_582 (fun h => h.elim (fun h => absurd h (by omega)) c_585))], by rw [m_lay, if_neg (fun h => h c_559), if_neg (fun h => h.2 c_577), (show (nI j).toNatClampNeg = j from nI_clamp (by omega)), (show laO z v0 j = f by rw [hf2, show i - 3 * (j / 3) = 3 by omega]; rfl), if_neg (fun h => h.elim c_582 (fun h => h.elim (fun h => absurd h (by omega)) c_585))]; exact cor_eq hw588 rfl rfl rfl rfl rfl rfl⟩, by rw [ht]; exact hP, hD⟩, hS.F ht⟩) hS.2.2 dX6_lay_153
                  · refine lv_bipush (v := (-5)) hx hb dX6_lay_125 (by decide) ?_
                    subst hQ
                    exact W.iret (v := (-5)) hx hb hr (fun t ht hW => ⟨⟨(-5), (z, be, sts, sl, sv, pd, len, as, go, nd), rfl, ⟨by show _ = Prod.fst (_ : Int32 × KS); rw [m_lay, if_neg (fun h => h c_559), if_neg (fun h => h.2 c_577), (show (nI j).toNatClampNeg = j from nI_clamp (by omega)), if_pos (Or.inr (Or.inr c_585))], by rw [m_lay, if_neg (fun h => h c_559), if_neg (fun h => h.2 c_577), (show (nI j).toNatClampNeg = j from nI_clamp (by omega)), if_pos (Or.inr (Or.inr c_585))]; rfl⟩, by rw [ht]; exact hP, hD⟩, hS.F ht⟩) hS.2.2 dX6_lay_127
            · refine lv_iload hx hb dX6_lay_57 (lv_at hl 1 rfl) ?_
              refine lv_iload hx hb dX6_lay_59 (lv_at hl 0 rfl) ?_
              refine lv_iload_n hx hb dX6_lay_61 rfl (lv_at hl 5 rfl) ?_
              refine zi_eq (tgt := 90) hx hb i j dX6_lay_62 (by decide) rfl rfl (by omega) (by omega) (fun c_589 => ?_) (fun c_589 => ?_)
              · refine lv_iconst (v := 0) hx hb dX6_lay_90 (by decide) ?_
                refine zi_add hx hb f 0 dX6_lay_91 rfl rfl ?_
                refine lv_istore (lv' := [(5, .int (nI (f + 0))), (6, .int (nI i)), (4, .int (rf (j / 3) v0)), (3, .int (nI (j / 3))), (0, .ref qm), (1, .int (nI j)), (2, .int v0)]) hx hb dX6_lay_92 hl (by decide) rfl (fun ls hl => ?_)
                refine lv_iinc (v := nI (i + 1)) (lv' := [(6, .int (nI (i + 1))), (5, .int (nI (f + 0))), (4, .int (rf (j / 3) v0)), (3, .int (nI (j / 3))), (0, .ref qm), (1, .int (nI j)), (2, .int v0)]) hx hb dX6_lay_94 hl (k := 1) rfl (nI_inc i) (by decide) rfl (fun ls hl => ?_)
                refine lv_goto (tgt := 47) hx hb dX6_lay_97 (by decide) ?_
                exact ih2 (i + 1) (f + 0) (by omega) (by omega) (by rw [hb3, Nat.add_zero, cnt_f (by rw [laP, hb2]; simp [c_580, c_589]), hf2]) (by omega) _ (lv_sub hl [0, 1, 2, 3, 4, 5, 6] rfl)
              · refine lv_aload_n hx hb dX6_lay_65 rfl (lv_at hl 4 rfl) ?_
                refine va_get (D := G) (ci := 6) (v := .ref qz) (C := RX6) (T := TX6) (N := 10) hx hb hts inlX6 hown hK.1 hP 0 rfl rfl 0 (by decide) (hts _ wd78) (fun _ h9 => h9) rfl dX6_lay_66 ?_
                refine lv_iload hx hb dX6_lay_69 (lv_at hl 0 rfl) ?_
                refine za_ld hx hb hK.1 hP 1 0 rfl rfl i rfl (by omega) (by decide) dX6_lay_71 ?_
                refine lv_iload_n hx hb dX6_lay_72 rfl (lv_at hl 6 rfl) ?_
                refine lv_icmp_ne (tgt := 90) hx hb dX6_lay_73 (by decide) (fun c_590 => ?_) (fun c_590 => ?_)
                · refine lv_iconst (v := 0) hx hb dX6_lay_90 (by decide) ?_
                  refine zi_add hx hb f 0 dX6_lay_91 rfl rfl ?_
                  refine lv_istore (lv' := [(5, .int (nI (f + 0))), (6, .int (nI i)), (4, .int (rf (j / 3) v0)), (3, .int (nI (j / 3))), (0, .ref qm), (1, .int (nI j)), (2, .int v0)]) hx hb dX6_lay_92 hl (by decide) rfl (fun ls hl => ?_)
                  refine lv_iinc (v := nI (i + 1)) (lv' := [(6, .int (nI (i + 1))), (5, .int (nI (f + 0))), (4, .int (rf (j / 3) v0)), (3, .int (nI (j / 3))), (0, .ref qm), (1, .int (nI j)), (2, .int v0)]) hx hb dX6_lay_94 hl (k := 1) rfl (nI_inc i) (by decide) rfl (fun ls hl => ?_)
                  refine lv_goto (tgt := 47) hx hb dX6_lay_97 (by decide) ?_
                  exact ih2 (i + 1) (f + 0) (by omega) (by omega) (by rw [hb3, Nat.add_zero, cnt_f (by rw [laP, hb2]; simp [c_580, c_589, c_590]), hf2]) (by omega) _ (lv_sub hl [0, 1, 2, 3, 4, 5, 6] rfl)
                · refine lv_iload_n hx hb dX6_lay_76 rfl (lv_at hl 6 rfl) ?_
                  refine lv_iconst (v := 0) hx hb dX6_lay_77 (by decide) ?_
                  refine lv_bipush (v := 34) hx hb dX6_lay_78 (by decide) ?_
                  refine vp_callSi (va_Run.run (va_runS (As := [.int v0, .int 0, .int 34]) (rest := [.int (nI f)]) ⟨hx, hb, hml, hown, hts⟩ (c_X6_in l v0 0 34) (cf_RX6_32 hts ⟨Nat.le_of_ble_eq_true rfl, Nat.le_of_ble_eq_true rfl⟩) pre_P rfl rfl hl.1 rfl (lv_room (Nat.le_of_ble_eq_true rfl)) dX6_lay_80 ⟨Nat.le_of_ble_eq_true rfl, Nat.le_of_ble_eq_true rfl⟩)) (fun r591 hr591 => ?_)
                  subst hr591
                  refine zb_eq (tgt := 90) hx hb dX6_lay_83 (by decide) (fun c_592 => ?_) (fun c_592 => ?_)
                  · refine lv_iconst (v := 0) hx hb dX6_lay_90 (by decide) ?_
                    refine zi_add hx hb f 0 dX6_lay_91 rfl rfl ?_
                    refine lv_istore (lv' := [(5, .int (nI (f + 0))), (6, .int (nI i)), (4, .int (rf (j / 3) v0)), (3, .int (nI (j / 3))), (0, .ref qm), (1, .int (nI j)), (2, .int v0)]) hx hb dX6_lay_92 hl (by decide) rfl (fun ls hl => ?_)
                    refine lv_iinc (v := nI (i + 1)) (lv' := [(6, .int (nI (i + 1))), (5, .int (nI (f + 0))), (4, .int (rf (j / 3) v0)), (3, .int (nI (j / 3))), (0, .ref qm), (1, .int (nI j)), (2, .int v0)]) hx hb dX6_lay_94 hl (k := 1) rfl (nI_inc i) (by decide) rfl (fun ls hl => ?_)
                    refine lv_goto (tgt := 47) hx hb dX6_lay_97 (by decide) ?_
                    exact ih2 (i + 1) (f + 0) (by omega) (by omega) (by rw [hb3, Nat.add_zero, cnt_f (by rw [laP, hb2]; simp [c_580, c_589, c_590, c_592]), hf2]) (by omega) _ (lv_sub hl [0, 1, 2, 3, 4, 5, 6] rfl)
                  · refine lv_iconst (v := 1) hx hb dX6_lay_86 (by decide) ?_
                    refine lv_goto (tgt := 91) hx hb dX6_lay_87 (by decide) ?_
                    refine zi_add hx hb f 1 dX6_lay_91 rfl rfl ?_
                    refine lv_istore (lv' := [(5, .int (nI (f + 1))), (6, .int (nI i)), (4, .int (rf (j / 3) v0)), (3, .int (nI (j / 3))), (0, .ref qm), (1, .int (nI j)), (2, .int v0)]) hx hb dX6_lay_92 hl (by decide) rfl (fun ls hl => ?_)
                    refine lv_iinc (v := nI (i + 1)) (lv' := [(6, .int (nI (i + 1))), (5, .int (nI (f + 1))), (4, .int (rf (j / 3) v0)), (3, .int (nI (j / 3))), (0, .ref qm), (1, .int (nI j)), (2, .int v0)]) hx hb dX6_lay_94 hl (k := 1) rfl (nI_inc i) (by decide) rfl (fun ls hl => ?_)
                    refine lv_goto (tgt := 47) hx hb dX6_lay_97 (by decide) ?_
                    exact ih2 (i + 1) (f + 1) (by omega) (by omega) (by rw [hb3, cnt_t (by rw [laP, hb2]; simp [c_580, c_589, c_590, c_592]), hf2]) (by omega) _ (lv_sub hl [0, 1, 2, 3, 4, 5, 6] rfl)
        exact L2 4 (3 * (j / 3)) 0 (Nat.le_refl _) (by omega) (by rw [Nat.sub_self]; rfl) (by omega) _ (lv_sub hl [0, 1, 2, 3, 4, 5, 6] rfl)
      · refine lv_bipush (v := (-2)) hx hb dX6_lay_25 (by decide) ?_
        subst hQ
        exact W.iret (v := (-2)) hx hb hr (fun t ht hW => ⟨⟨(-2), (z, be, sts, sl, sv, pd, len, as, go, nd), rfl, ⟨by show _ = Prod.fst (_ : Int32 × KS); rw [m_lay, if_neg (fun h => h c_559), if_pos ⟨c_560, c_577⟩], by rw [m_lay, if_neg (fun h => h c_559), if_pos ⟨c_560, c_577⟩]; rfl⟩, by rw [ht]; exact hP, hD⟩, hS.F ht⟩) hS.2.2 dX6_lay_27
  · refine lv_iconst (v := (-1)) hx hb dX6_lay_7 (by decide) ?_
    subst hQ
    exact W.iret (v := (-1)) hx hb hr (fun t ht hW => ⟨⟨(-1), (z, be, sts, sl, sv, pd, len, as, go, nd), rfl, ⟨by show _ = Prod.fst (_ : Int32 × KS); rw [m_lay, if_pos c_559], by rw [m_lay, if_pos c_559]; rfl⟩, by rw [ht]; exact hP, hD⟩, hS.F ht⟩) hS.2.2 dX6_lay_8

abbrev rm_X6_piece : Room := { frames := 4, cells := 0, slots := 0, locals := 88 }
set_option maxHeartbeats 1000000 in
set_option maxRecDepth 100000 in
theorem c_X6_piece (l : Launch) (G : va_G) (cI cC cZ cG : ClassId) (sz : Nat) (qm qz qa qe qs qv qp qn : Nat) (z as be sl sv pd nd : IA) (sts len : Nat) (go : Int32) (k0 w0 : Int32) : Met l yX6_piece (.code yX6_piece cX6_piece 3 (some .int) :: wsL_law) rm_X6_piece (va_Pc [.ref qm, .int k0, .int w0] (bw G cI cC cZ cG false sz [(qm, .inr (6, [.ref qz, .ref qa, .ref qe, .int (nI sts), .ref qs, .ref qv, .ref qp, .int (nI len), .int go, .ref qn])), (qz, .inl (cI, 46, .inl z)), (qa, .inl (cI, 46, .inl as)), (qe, .inl (cI, 276, .inl be)), (qs, .inl (cI, 92, .inl sl)), (qv, .inl (cZ, 2, .inl sv)), (qp, .inl (cI, 60, .inl pd)), (qn, .inl (cI, 36, .inl nd))])) (vp_Si (fun r => r = m_piece k0 w0 z)) 0 0 (fun _ => False) := by
  refine met_bw rfl (Nat.le_of_ble_eq_true rfl) ?_
  intro p e s m below meth c ls hx hb hr hml hown hts hlocks hin hsz hP hK hD0 hX0 hl
  have hown : s.vm.findClass RX6 = some m.cls := hown
  have hl : lv_has ls 3 [(0, .ref qm), (1, .int k0), (2, .int w0)] := hl
  refine lv_iload_n hx hb dX6_piece_0 rfl (lv_at hl 1 rfl) ?_
  refine vp_callSi (va_Run.run (va_runS (As := [.int k0]) (rest := []) ⟨hx, hb, hml, hown, hts⟩ (c_X6_isPiece l k0) (cf_RX6_146 hts ⟨Nat.le_of_ble_eq_true rfl, Nat.le_of_ble_eq_true rfl⟩) pre_P rfl rfl hl.1 rfl (lv_room (Nat.le_of_ble_eq_true rfl)) dX6_piece_1 ⟨Nat.le_of_ble_eq_true rfl, Nat.le_of_ble_eq_true rfl⟩)) (fun r593 hr593 => ?_)
  subst hr593
  refine zb_ne (tgt := 9) hx hb dX6_piece_4 (by decide) (fun c_594 => ?_) (fun c_594 => ?_)
  · obtain ⟨j, hj0, hj, rfl⟩ := inQ_nI (lo := 0) (hi := 11) (by decide) (by decide) c_594
    refine lv_iload_n hx hb dX6_piece_9 rfl (lv_at hl 2 rfl) ?_
    rcases sw_cases2 0 3 w0 with hsw595 | ⟨j595, hg595, hj595, hsw595⟩
    · refine lv_tableOut (tgt := 85) hx hb dX6_piece_10 hsw595 (by decide) ?_
      refine lv_bipush (v := (-2)) hx hb dX6_piece_85 (by decide) ?_
      exact W.iret (v := (-2)) hx hb hr (fun t ht hW => ⟨(-2), rfl, by rw [m_piece, if_neg (fun h => h c_594), (show (nI j).toNatClampNeg = j from nI_clamp (by omega)), if_neg (show ¬ w0 = 0 from sw_ne hsw595 (by decide)), if_neg (show ¬ w0 = 1 from sw_ne hsw595 (by decide)), if_neg (show ¬ w0 = 2 from sw_ne hsw595 (by decide)), if_neg (show ¬ w0 = 3 from sw_ne hsw595 (by decide))], ht⟩) (fun _ h => absurd h List.not_mem_nil) dX6_piece_87
    · rcases (show j595 = 0 ∨ j595 = 1 ∨ j595 = 2 ∨ j595 = 3 by omega) with rfl | rfl | rfl | rfl
      · refine lv_tableIn (off := 30) (tgt := 40) hx hb dX6_piece_10 (by rw [hsw595]; decide) (by rw [hsw595]; decide) (by rw [hsw595]; rfl) (by decide) ?_
        refine lv_aload_n hx hb dX6_piece_40 rfl (lv_at hl 0 rfl) ?_
        refine va_get (D := G) (ci := 6) (v := .ref qz) (C := RX6) (T := TX6) (N := 10) hx hb hts inlX6 hown hK.1 hP 0 rfl rfl 0 (by decide) (hts _ wd78) (fun _ h9 => h9) rfl dX6_piece_41 ?_
        refine lv_iload_n hx hb dX6_piece_44 rfl (lv_at hl 1 rfl) ?_
        refine za_ld hx hb hK.1 hP 1 0 rfl rfl j rfl (by omega) (by decide) dX6_piece_45 ?_
        exact W.iret (v := z j) hx hb hr (fun t ht hW => ⟨z j, rfl, by rw [m_piece, if_neg (fun h => h c_594), (show (nI j).toNatClampNeg = j from nI_clamp (by omega)), if_pos (show w0 = 0 from hsw595)], ht⟩) (fun _ h => absurd h List.not_mem_nil) dX6_piece_46
      · refine lv_tableIn (off := 37) (tgt := 47) hx hb dX6_piece_10 (by rw [hsw595]; decide) (by rw [hsw595]; decide) (by rw [hsw595]; rfl) (by decide) ?_
        refine lv_aload_n hx hb dX6_piece_47 rfl (lv_at hl 0 rfl) ?_
        refine lv_iload_n hx hb dX6_piece_48 rfl (lv_at hl 1 rfl) ?_
        have hPc : va_P G vwCl [(qm, .inr (6, [.ref qz, .ref qa, .ref qe, .int (nI sts), .ref qs, .ref qv, .ref qp, .int (nI len), .int go, .ref qn])), (qz, .inl (cI, 46, .inl z)), (qa, .inl (cI, 46, .inl as)), (qe, .inl (cI, 276, .inl be)), (qs, .inl (cI, 92, .inl sl)), (qv, .inl (cZ, 2, .inl sv)), (qp, .inl (cI, 60, .inl pd)), (qn, .inl (cI, 36, .inl nd))] s.heap := hP
        have hDc := hD0
        refine vp_callSi (va_Run.run (va_runV (As := [.int (nI j)]) (rest := []) ⟨hx, hb, hml, hown, hts⟩ (c_X6_fieldOf l G cI cC cZ cG s.heap.size qm qz qa qe qs qv qp qn z as be sl sv pd nd sts len go j (by omega)) (cf_RX6_44 hts ⟨Nat.le_of_ble_eq_true rfl, Nat.le_of_ble_eq_true rfl⟩) (pre_V hK hPc hDc (ci := 6) (q0 := 0) rfl rfl) rfl rfl hl.1 rfl (lv_room (Nat.le_of_ble_eq_true rfl)) dX6_piece_49 ⟨Nat.le_of_ble_eq_true rfl, Nat.le_of_ble_eq_true rfl⟩)) (fun r596 hr596 => ?_)
        subst hr596
        exact W.iret (v := rf (j / 3) (z j)) hx hb hr (fun t ht hW => ⟨rf (j / 3) (z j), rfl, by rw [m_piece, if_neg (fun h => h c_594), (show (nI j).toNatClampNeg = j from nI_clamp (by omega)), if_neg (show ¬ w0 = 0 by rw [hsw595]; decide), if_pos (show w0 = 1 from hsw595)], ht⟩) (fun _ h => absurd h List.not_mem_nil) dX6_piece_52
      · refine lv_tableIn (off := 43) (tgt := 53) hx hb dX6_piece_10 (by rw [hsw595]; decide) (by rw [hsw595]; decide) (by rw [hsw595]; rfl) (by decide) ?_
        refine lv_aload_n hx hb dX6_piece_53 rfl (lv_at hl 0 rfl) ?_
        refine lv_iload_n hx hb dX6_piece_54 rfl (lv_at hl 1 rfl) ?_
        refine lv_iconst (v := 3) hx hb dX6_piece_55 (by decide) ?_
        refine zi_div hx hb j 3 dX6_piece_56 rfl rfl (by omega) (by decide) (by decide) ?_
        refine lv_aload_n hx hb dX6_piece_57 rfl (lv_at hl 0 rfl) ?_
        refine lv_iload_n hx hb dX6_piece_58 rfl (lv_at hl 1 rfl) ?_
        have hPc : va_P G vwCl [(qm, .inr (6, [.ref qz, .ref qa, .ref qe, .int (nI sts), .ref qs, .ref qv, .ref qp, .int (nI len), .int go, .ref qn])), (qz, .inl (cI, 46, .inl z)), (qa, .inl (cI, 46, .inl as)), (qe, .inl (cI, 276, .inl be)), (qs, .inl (cI, 92, .inl sl)), (qv, .inl (cZ, 2, .inl sv)), (qp, .inl (cI, 60, .inl pd)), (qn, .inl (cI, 36, .inl nd))] s.heap := hP
        have hDc := hD0
        refine vp_callSi (va_Run.run (va_runV (As := [.int (nI j)]) (rest := [.int (nI (j / 3)), .ref qm]) ⟨hx, hb, hml, hown, hts⟩ (c_X6_fieldOf l G cI cC cZ cG s.heap.size qm qz qa qe qs qv qp qn z as be sl sv pd nd sts len go j (by omega)) (cf_RX6_44 hts ⟨Nat.le_of_ble_eq_true rfl, Nat.le_of_ble_eq_true rfl⟩) (pre_V hK hPc hDc (ci := 6) (q0 := 0) rfl rfl) rfl rfl hl.1 rfl (lv_room (Nat.le_of_ble_eq_true rfl)) dX6_piece_59 ⟨Nat.le_of_ble_eq_true rfl, Nat.le_of_ble_eq_true rfl⟩)) (fun r597 hr597 => ?_)
        subst hr597
        have hPc : va_P G vwCl [(qm, .inr (6, [.ref qz, .ref qa, .ref qe, .int (nI sts), .ref qs, .ref qv, .ref qp, .int (nI len), .int go, .ref qn])), (qz, .inl (cI, 46, .inl z)), (qa, .inl (cI, 46, .inl as)), (qe, .inl (cI, 276, .inl be)), (qs, .inl (cI, 92, .inl sl)), (qv, .inl (cZ, 2, .inl sv)), (qp, .inl (cI, 60, .inl pd)), (qn, .inl (cI, 36, .inl nd))] s.heap := hP
        have hDc := hD0
        refine vp_callSi (va_Run.run (va_runV (As := [.int (nI (j / 3)), .int (rf (j / 3) (z j))]) (rest := []) ⟨hx, hb, hml, hown, hts⟩ (c_X6_piecesOn l G cI cC cZ cG s.heap.size qm qz qa qe qs qv qp qn z as be sl sv pd nd sts len go (j / 3) (rf (j / 3) (z j)) (by omega)) (cf_RX6_48 hts ⟨Nat.le_of_ble_eq_true rfl, Nat.le_of_ble_eq_true rfl⟩) (pre_V hK hPc hDc (ci := 6) (q0 := 0) rfl rfl) rfl rfl hl.1 rfl (lv_room (Nat.le_of_ble_eq_true rfl)) dX6_piece_62 ⟨Nat.le_of_ble_eq_true rfl, Nat.le_of_ble_eq_true rfl⟩)) (fun r598 hr598 => ?_)
        subst hr598
        have hf599 := (@mpc_le z (j / 3) (rf (j / 3) (z j)))
        refine lv_iconst (v := 1) hx hb dX6_piece_65 (by decide) ?_
        refine zi_le (tgt := 73) hx hb (mpc z (j / 3) (rf (j / 3) (z j))) 1 dX6_piece_66 (by decide) rfl rfl (by omega) (by decide) (fun c_600 => ?_) (fun c_600 => ?_)
        · refine lv_iconst (v := 0) hx hb dX6_piece_73 (by decide) ?_
          exact W.iret (v := 0) hx hb hr (fun t ht hW => ⟨0, rfl, by rw [m_piece, if_neg (fun h => h c_594), (show (nI j).toNatClampNeg = j from nI_clamp (by omega)), if_neg (show ¬ w0 = 0 by rw [hsw595]; decide), if_neg (show ¬ w0 = 1 by rw [hsw595]; decide), if_pos (show w0 = 2 from hsw595), if_neg (by omega)], ht⟩) (fun _ h => absurd h List.not_mem_nil) dX6_piece_74
        · refine lv_iconst (v := 1) hx hb dX6_piece_69 (by decide) ?_
          refine lv_goto (tgt := 74) hx hb dX6_piece_70 (by decide) ?_
          exact W.iret (v := 1) hx hb hr (fun t ht hW => ⟨1, rfl, by rw [m_piece, if_neg (fun h => h c_594), (show (nI j).toNatClampNeg = j from nI_clamp (by omega)), if_neg (show ¬ w0 = 0 by rw [hsw595]; decide), if_neg (show ¬ w0 = 1 by rw [hsw595]; decide), if_pos (show w0 = 2 from hsw595), if_pos c_600], ht⟩) (fun _ h => absurd h List.not_mem_nil) dX6_piece_74
      · refine lv_tableIn (off := 65) (tgt := 75) hx hb dX6_piece_10 (by rw [hsw595]; decide) (by rw [hsw595]; decide) (by rw [hsw595]; rfl) (by decide) ?_
        refine lv_aload_n hx hb dX6_piece_75 rfl (lv_at hl 0 rfl) ?_
        refine va_get (D := G) (ci := 6) (v := .ref qz) (C := RX6) (T := TX6) (N := 10) hx hb hts inlX6 hown hK.1 hP 0 rfl rfl 0 (by decide) (hts _ wd78) (fun _ h9 => h9) rfl dX6_piece_76 ?_
        refine lv_bipush (v := 12) hx hb dX6_piece_79 (by decide) ?_
        refine lv_iload_n hx hb dX6_piece_81 rfl (lv_at hl 1 rfl) ?_
        refine zi_add hx hb 12 j dX6_piece_82 rfl rfl ?_
        refine za_ld hx hb hK.1 hP 1 0 rfl rfl (12 + j) rfl (by omega) (by decide) dX6_piece_83 ?_
        exact W.iret (v := z (12 + j)) hx hb hr (fun t ht hW => ⟨z (12 + j), rfl, by rw [m_piece, if_neg (fun h => h c_594), (show (nI j).toNatClampNeg = j from nI_clamp (by omega)), if_neg (show ¬ w0 = 0 by rw [hsw595]; decide), if_neg (show ¬ w0 = 1 by rw [hsw595]; decide), if_neg (show ¬ w0 = 2 by rw [hsw595]; decide), if_pos (show w0 = 3 from hsw595)], ht⟩) (fun _ h => absurd h List.not_mem_nil) dX6_piece_84
  · refine lv_iconst (v := (-1)) hx hb dX6_piece_7 (by decide) ?_
    exact W.iret (v := (-1)) hx hb hr (fun t ht hW => ⟨(-1), rfl, by rw [m_piece, if_pos c_594], ht⟩) (fun _ h => absurd h List.not_mem_nil) dX6_piece_8

abbrev rm_X6_field : Room := { frames := 5, cells := 0, slots := 0, locals := 111 }
theorem cf_RX6_149 {R : Room} {s : State} {args : Array Value} (ht : ∀ w ∈ wsL_law, w.before args s = true) (hR : rm_X6_lowestOn.frames + 1 ≤ R.frames ∧ 8 + (4 + 11) + rm_X6_lowestOn.locals ≤ R.locals) : CallW R s args RX6 RX6 149 yX6_lowestOn cX6_lowestOn 4 (some .int) (.code yX6_lowestOn cX6_lowestOn 4 (some .int) :: wsL_law) rm_X6_lowestOn 0 0 1 := ⟨cw_B 1 ht wd461 wd5 wd464 (by decide +kernel) rfl rfl hR, ht _ wd462, ht _ wd463⟩
theorem cf_RX6_152 {R : Room} {s : State} {args : Array Value} (ht : ∀ w ∈ wsL_law, w.before args s = true) (hR : rm_X6_bridgeOn.frames + 1 ≤ R.frames ∧ 8 + (3 + 11) + rm_X6_bridgeOn.locals ≤ R.locals) : CallW R s args RX6 RX6 152 yX6_bridgeOn cX6_bridgeOn 3 (some .int) (.code yX6_bridgeOn cX6_bridgeOn 3 (some .int) :: wsL_law) rm_X6_bridgeOn 0 0 1 := ⟨cw_B 1 ht wd465 wd5 wd468 (by decide +kernel) rfl rfl hR, ht _ wd466, ht _ wd467⟩
theorem cf_RX6_155 {R : Room} {s : State} {args : Array Value} (ht : ∀ w ∈ wsL_law, w.before args s = true) (hR : rm_X6_mendedIn.frames + 1 ≤ R.frames ∧ 8 + (3 + 11) + rm_X6_mendedIn.locals ≤ R.locals) : CallW R s args RX6 RX6 155 yX6_mendedIn cX6_mendedIn 3 (some .int) (.code yX6_mendedIn cX6_mendedIn 3 (some .int) :: wsL_law) rm_X6_mendedIn 0 0 1 := ⟨cw_B 1 ht wd469 wd5 wd472 (by decide +kernel) rfl rfl hR, ht _ wd470, ht _ wd471⟩
set_option maxHeartbeats 1000000 in
set_option maxRecDepth 100000 in
theorem c_X6_field (l : Launch) (G : va_G) (cI cC cZ cG : ClassId) (sz : Nat) (qm qz qa qe qs qv qp qn : Nat) (z as be sl sv pd nd : IA) (sts len : Nat) (go : Int32) (k0 w0 : Int32) : Met l yX6_field (.code yX6_field cX6_field 3 (some .int) :: wsL_law) rm_X6_field (va_Pc [.ref qm, .int k0, .int w0] (bw G cI cC cZ cG false sz [(qm, .inr (6, [.ref qz, .ref qa, .ref qe, .int (nI sts), .ref qs, .ref qv, .ref qp, .int (nI len), .int go, .ref qn])), (qz, .inl (cI, 46, .inl z)), (qa, .inl (cI, 46, .inl as)), (qe, .inl (cI, 276, .inl be)), (qs, .inl (cI, 92, .inl sl)), (qv, .inl (cZ, 2, .inl sv)), (qp, .inl (cI, 60, .inl pd)), (qn, .inl (cI, 36, .inl nd))])) (vp_Si (fun r => r = m_field k0 w0 z)) 0 0 (fun _ => False) := by
  refine met_bw rfl (Nat.le_of_ble_eq_true rfl) ?_
  intro p e s m below meth c ls hx hb hr hml hown hts hlocks hin hsz hP hK hD0 hX0 hl
  have hown : s.vm.findClass RX6 = some m.cls := hown
  have hl : lv_has ls 3 [(0, .ref qm), (1, .int k0), (2, .int w0)] := hl
  refine lv_iload_n hx hb dX6_field_0 rfl (lv_at hl 1 rfl) ?_
  refine lv_iconst (v := 0) hx hb dX6_field_1 (by decide) ?_
  refine lv_bipush (v := 31) hx hb dX6_field_2 (by decide) ?_
  refine vp_callSi (va_Run.run (va_runS (As := [.int k0, .int 0, .int 31]) (rest := []) ⟨hx, hb, hml, hown, hts⟩ (c_X6_in l k0 0 31) (cf_RX6_32 hts ⟨Nat.le_of_ble_eq_true rfl, Nat.le_of_ble_eq_true rfl⟩) pre_P rfl rfl hl.1 rfl (lv_room (Nat.le_of_ble_eq_true rfl)) dX6_field_4 ⟨Nat.le_of_ble_eq_true rfl, Nat.le_of_ble_eq_true rfl⟩)) (fun r601 hr601 => ?_)
  subst hr601
  refine zb_ne (tgt := 12) hx hb dX6_field_7 (by decide) (fun c_602 => ?_) (fun c_602 => ?_)
  · obtain ⟨j, hj0, hj, rfl⟩ := inQ_nI (lo := 0) (hi := 31) (by decide) (by decide) c_602
    refine lv_iload_n hx hb dX6_field_12 rfl (lv_at hl 2 rfl) ?_
    rcases sw_cases2 0 4 w0 with hsw603 | ⟨j603, hg603, hj603, hsw603⟩
    · refine lv_tableOut (tgt := 85) hx hb dX6_field_13 hsw603 (by decide) ?_
      refine lv_bipush (v := (-2)) hx hb dX6_field_85 (by decide) ?_
      exact W.iret (v := (-2)) hx hb hr (fun t ht hW => ⟨(-2), rfl, by rw [m_field, if_neg (fun h => h c_602), (show (nI j).toNatClampNeg = j from nI_clamp (by omega)), if_neg (show ¬ w0 = 0 from sw_ne hsw603 (by decide)), if_neg (show ¬ w0 = 1 from sw_ne hsw603 (by decide)), if_neg (show ¬ w0 = 2 from sw_ne hsw603 (by decide)), if_neg (show ¬ w0 = 3 from sw_ne hsw603 (by decide)), if_neg (show ¬ w0 = 4 from sw_ne hsw603 (by decide))], ht⟩) (fun _ h => absurd h List.not_mem_nil) dX6_field_87
    · rcases (show j603 = 0 ∨ j603 = 1 ∨ j603 = 2 ∨ j603 = 3 ∨ j603 = 4 by omega) with rfl | rfl | rfl | rfl | rfl
      · refine lv_tableIn (off := 35) (tgt := 48) hx hb dX6_field_13 (by rw [hsw603]; decide) (by rw [hsw603]; decide) (by rw [hsw603]; rfl) (by decide) ?_
        refine lv_aload_n hx hb dX6_field_48 rfl (lv_at hl 0 rfl) ?_
        refine lv_iload_n hx hb dX6_field_49 rfl (lv_at hl 1 rfl) ?_
        have hPc : va_P G vwCl [(qm, .inr (6, [.ref qz, .ref qa, .ref qe, .int (nI sts), .ref qs, .ref qv, .ref qp, .int (nI len), .int go, .ref qn])), (qz, .inl (cI, 46, .inl z)), (qa, .inl (cI, 46, .inl as)), (qe, .inl (cI, 276, .inl be)), (qs, .inl (cI, 92, .inl sl)), (qv, .inl (cZ, 2, .inl sv)), (qp, .inl (cI, 60, .inl pd)), (qn, .inl (cI, 36, .inl nd))] s.heap := hP
        have hDc := hD0
        refine vp_callSi (va_Run.run (va_runV (As := [.int (nI j)]) (rest := []) ⟨hx, hb, hml, hown, hts⟩ (c_X6_allOn l G cI cC cZ cG s.heap.size qm qz qa qe qs qv qp qn z as be sl sv pd nd sts len go (nI j)) (cf_RX6_61 hts ⟨Nat.le_of_ble_eq_true rfl, Nat.le_of_ble_eq_true rfl⟩) (pre_V hK hPc hDc (ci := 6) (q0 := 0) rfl rfl) rfl rfl hl.1 rfl (lv_room (Nat.le_of_ble_eq_true rfl)) dX6_field_50 ⟨Nat.le_of_ble_eq_true rfl, Nat.le_of_ble_eq_true rfl⟩)) (fun r604 hr604 => ?_)
        subst hr604
        have hf605 := (@ao_le z (nI j) 4)
        exact W.iret (v := nI (ao z (nI j) 4)) hx hb hr (fun t ht hW => ⟨nI (ao z (nI j) 4), rfl, by rw [m_field, if_neg (fun h => h c_602), (show (nI j).toNatClampNeg = j from nI_clamp (by omega)), if_pos (show w0 = 0 from hsw603)], ht⟩) (fun _ h => absurd h List.not_mem_nil) dX6_field_53
      · refine lv_tableIn (off := 41) (tgt := 54) hx hb dX6_field_13 (by rw [hsw603]; decide) (by rw [hsw603]; decide) (by rw [hsw603]; rfl) (by decide) ?_
        refine lv_aload_n hx hb dX6_field_54 rfl (lv_at hl 0 rfl) ?_
        refine lv_iload_n hx hb dX6_field_55 rfl (lv_at hl 1 rfl) ?_
        have hPc : va_P G vwCl [(qm, .inr (6, [.ref qz, .ref qa, .ref qe, .int (nI sts), .ref qs, .ref qv, .ref qp, .int (nI len), .int go, .ref qn])), (qz, .inl (cI, 46, .inl z)), (qa, .inl (cI, 46, .inl as)), (qe, .inl (cI, 276, .inl be)), (qs, .inl (cI, 92, .inl sl)), (qv, .inl (cZ, 2, .inl sv)), (qp, .inl (cI, 60, .inl pd)), (qn, .inl (cI, 36, .inl nd))] s.heap := hP
        have hDc := hD0
        refine vp_callSi (va_Run.run (va_runV (As := [.int (nI j)]) (rest := []) ⟨hx, hb, hml, hown, hts⟩ (c_X6_lowestOn l G cI cC cZ cG s.heap.size qm qz qa qe qs qv qp qn z as be sl sv pd nd sts len go (nI j)) (cf_RX6_149 hts ⟨Nat.le_of_ble_eq_true rfl, Nat.le_of_ble_eq_true rfl⟩) (pre_V hK hPc hDc (ci := 6) (q0 := 0) rfl rfl) rfl rfl hl.1 rfl (lv_room (Nat.le_of_ble_eq_true rfl)) dX6_field_56 ⟨Nat.le_of_ble_eq_true rfl, Nat.le_of_ble_eq_true rfl⟩)) (fun r606 hr606 => ?_)
        subst hr606
        exact W.iret (v := low (pcP z (nI j)) 0 12) hx hb hr (fun t ht hW => ⟨low (pcP z (nI j)) 0 12, rfl, by rw [m_field, if_neg (fun h => h c_602), (show (nI j).toNatClampNeg = j from nI_clamp (by omega)), if_neg (show ¬ w0 = 0 by rw [hsw603]; decide), if_pos (show w0 = 1 from hsw603)], ht⟩) (fun _ h => absurd h List.not_mem_nil) dX6_field_59
      · refine lv_tableIn (off := 47) (tgt := 60) hx hb dX6_field_13 (by rw [hsw603]; decide) (by rw [hsw603]; decide) (by rw [hsw603]; rfl) (by decide) ?_
        refine lv_iload_n hx hb dX6_field_60 rfl (lv_at hl 1 rfl) ?_
        refine vp_callSi (va_Run.run (va_runS (As := [.int (nI j)]) (rest := []) ⟨hx, hb, hml, hown, hts⟩ (c_X6_isSafe l (nI j)) (cf_RX6_85 hts ⟨Nat.le_of_ble_eq_true rfl, Nat.le_of_ble_eq_true rfl⟩) pre_P rfl rfl hl.1 rfl (lv_room (Nat.le_of_ble_eq_true rfl)) dX6_field_61 ⟨Nat.le_of_ble_eq_true rfl, Nat.le_of_ble_eq_true rfl⟩)) (fun r607 hr607 => ?_)
        subst hr607
        refine zb_eq (tgt := 71) hx hb dX6_field_64 (by decide) (fun c_608 => ?_) (fun c_608 => ?_)
        · refine lv_iconst (v := 0) hx hb dX6_field_71 (by decide) ?_
          exact W.iret (v := 0) hx hb hr (fun t ht hW => ⟨0, rfl, by rw [m_field, if_neg (fun h => h c_602), (show (nI j).toNatClampNeg = j from nI_clamp (by omega)), if_neg (show ¬ w0 = 0 by rw [hsw603]; decide), if_neg (show ¬ w0 = 1 by rw [hsw603]; decide), if_pos (show w0 = 2 from hsw603), if_neg c_608], ht⟩) (fun _ h => absurd h List.not_mem_nil) dX6_field_72
        · refine lv_iconst (v := 1) hx hb dX6_field_67 (by decide) ?_
          refine lv_goto (tgt := 72) hx hb dX6_field_68 (by decide) ?_
          exact W.iret (v := 1) hx hb hr (fun t ht hW => ⟨1, rfl, by rw [m_field, if_neg (fun h => h c_602), (show (nI j).toNatClampNeg = j from nI_clamp (by omega)), if_neg (show ¬ w0 = 0 by rw [hsw603]; decide), if_neg (show ¬ w0 = 1 by rw [hsw603]; decide), if_pos (show w0 = 2 from hsw603), if_pos c_608], ht⟩) (fun _ h => absurd h List.not_mem_nil) dX6_field_72
      · refine lv_tableIn (off := 60) (tgt := 73) hx hb dX6_field_13 (by rw [hsw603]; decide) (by rw [hsw603]; decide) (by rw [hsw603]; rfl) (by decide) ?_
        refine lv_aload_n hx hb dX6_field_73 rfl (lv_at hl 0 rfl) ?_
        refine lv_iload_n hx hb dX6_field_74 rfl (lv_at hl 1 rfl) ?_
        have hPc : va_P G vwCl [(qm, .inr (6, [.ref qz, .ref qa, .ref qe, .int (nI sts), .ref qs, .ref qv, .ref qp, .int (nI len), .int go, .ref qn])), (qz, .inl (cI, 46, .inl z)), (qa, .inl (cI, 46, .inl as)), (qe, .inl (cI, 276, .inl be)), (qs, .inl (cI, 92, .inl sl)), (qv, .inl (cZ, 2, .inl sv)), (qp, .inl (cI, 60, .inl pd)), (qn, .inl (cI, 36, .inl nd))] s.heap := hP
        have hDc := hD0
        refine vp_callSi (va_Run.run (va_runV (As := [.int (nI j)]) (rest := []) ⟨hx, hb, hml, hown, hts⟩ (c_X6_bridgeOn l G cI cC cZ cG s.heap.size qm qz qa qe qs qv qp qn z as be sl sv pd nd sts len go j (by omega)) (cf_RX6_152 hts ⟨Nat.le_of_ble_eq_true rfl, Nat.le_of_ble_eq_true rfl⟩) (pre_V hK hPc hDc (ci := 6) (q0 := 0) rfl rfl) rfl rfl hl.1 rfl (lv_room (Nat.le_of_ble_eq_true rfl)) dX6_field_75 ⟨Nat.le_of_ble_eq_true rfl, Nat.le_of_ble_eq_true rfl⟩)) (fun r609 hr609 => ?_)
        subst hr609
        exact W.iret (v := bsM z j) hx hb hr (fun t ht hW => ⟨bsM z j, rfl, by rw [m_field, if_neg (fun h => h c_602), (show (nI j).toNatClampNeg = j from nI_clamp (by omega)), if_neg (show ¬ w0 = 0 by rw [hsw603]; decide), if_neg (show ¬ w0 = 1 by rw [hsw603]; decide), if_neg (show ¬ w0 = 2 by rw [hsw603]; decide), if_pos (show w0 = 3 from hsw603)], ht⟩) (fun _ h => absurd h List.not_mem_nil) dX6_field_78
      · refine lv_tableIn (off := 66) (tgt := 79) hx hb dX6_field_13 (by rw [hsw603]; decide) (by rw [hsw603]; decide) (by rw [hsw603]; rfl) (by decide) ?_
        refine lv_aload_n hx hb dX6_field_79 rfl (lv_at hl 0 rfl) ?_
        refine lv_iload_n hx hb dX6_field_80 rfl (lv_at hl 1 rfl) ?_
        have hPc : va_P G vwCl [(qm, .inr (6, [.ref qz, .ref qa, .ref qe, .int (nI sts), .ref qs, .ref qv, .ref qp, .int (nI len), .int go, .ref qn])), (qz, .inl (cI, 46, .inl z)), (qa, .inl (cI, 46, .inl as)), (qe, .inl (cI, 276, .inl be)), (qs, .inl (cI, 92, .inl sl)), (qv, .inl (cZ, 2, .inl sv)), (qp, .inl (cI, 60, .inl pd)), (qn, .inl (cI, 36, .inl nd))] s.heap := hP
        have hDc := hD0
        refine vp_callSi (va_Run.run (va_runV (As := [.int (nI j)]) (rest := []) ⟨hx, hb, hml, hown, hts⟩ (c_X6_mendedIn l G cI cC cZ cG s.heap.size qm qz qa qe qs qv qp qn z as be sl sv pd nd sts len go j (by omega)) (cf_RX6_155 hts ⟨Nat.le_of_ble_eq_true rfl, Nat.le_of_ble_eq_true rfl⟩) (pre_V hK hPc hDc (ci := 6) (q0 := 0) rfl rfl) rfl rfl hl.1 rfl (lv_room (Nat.le_of_ble_eq_true rfl)) dX6_field_81 ⟨Nat.le_of_ble_eq_true rfl, Nat.le_of_ble_eq_true rfl⟩)) (fun r610 hr610 => ?_)
        subst hr610
        exact W.iret (v := mdM z j) hx hb hr (fun t ht hW => ⟨mdM z j, rfl, by rw [m_field, if_neg (fun h => h c_602), (show (nI j).toNatClampNeg = j from nI_clamp (by omega)), if_neg (show ¬ w0 = 0 by rw [hsw603]; decide), if_neg (show ¬ w0 = 1 by rw [hsw603]; decide), if_neg (show ¬ w0 = 2 by rw [hsw603]; decide), if_neg (show ¬ w0 = 3 by rw [hsw603]; decide), if_pos (show w0 = 4 from hsw603)], ht⟩) (fun _ h => absurd h List.not_mem_nil) dX6_field_84
  · refine lv_iconst (v := (-1)) hx hb dX6_field_10 (by decide) ?_
    exact W.iret (v := (-1)) hx hb hr (fun t ht hW => ⟨(-1), rfl, by rw [m_field, if_pos c_602], ht⟩) (fun _ h => absurd h List.not_mem_nil) dX6_field_11

abbrev rm_X6_count : Room := { frames := 2, cells := 0, slots := 0, locals := 45 }
theorem cf_RX6_158 {R : Room} {s : State} {args : Array Value} (ht : ∀ w ∈ wsL_law, w.before args s = true) (hR : rm_X6_fallenBridges.frames + 1 ≤ R.frames ∧ 8 + (3 + 11) + rm_X6_fallenBridges.locals ≤ R.locals) : CallW R s args RX6 RX6 158 yX6_fallenBridges cX6_fallenBridges 3 (some .int) (.code yX6_fallenBridges cX6_fallenBridges 3 (some .int) :: wsL_law) rm_X6_fallenBridges 0 0 0 := ⟨cw_B 0 ht wd495 wd5 wd498 (by decide +kernel) rfl rfl hR, ht _ wd496, ht _ wd497⟩
set_option maxHeartbeats 1000000 in
set_option maxRecDepth 100000 in
theorem c_X6_count (l : Launch) (G : va_G) (cI cC cZ cG : ClassId) (sz : Nat) (qm qz qa qe qs qv qp qn : Nat) (z as be sl sv pd nd : IA) (sts len : Nat) (go : Int32) (w0 : Int32) : Met l yX6_count (.code yX6_count cX6_count 2 (some .int) :: wsL_law) rm_X6_count (va_Pc [.ref qm, .int w0] (bw G cI cC cZ cG false sz [(qm, .inr (6, [.ref qz, .ref qa, .ref qe, .int (nI sts), .ref qs, .ref qv, .ref qp, .int (nI len), .int go, .ref qn])), (qz, .inl (cI, 46, .inl z)), (qa, .inl (cI, 46, .inl as)), (qe, .inl (cI, 276, .inl be)), (qs, .inl (cI, 92, .inl sl)), (qv, .inl (cZ, 2, .inl sv)), (qp, .inl (cI, 60, .inl pd)), (qn, .inl (cI, 36, .inl nd))])) (vp_Si (fun r => r = m_count w0 (z, be, sts, sl, sv, pd, len))) 0 0 (fun _ => False) := by
  refine met_bw rfl (Nat.le_of_ble_eq_true rfl) ?_
  intro p e s m below meth c ls hx hb hr hml hown hts hlocks hin hsz hP hK hD0 hX0 hl
  have hown : s.vm.findClass RX6 = some m.cls := hown
  have hl : lv_has ls 2 [(0, .ref qm), (1, .int w0)] := hl
  refine lv_iload_n hx hb dX6_count_0 rfl (lv_at hl 1 rfl) ?_
  refine lv_iconst (v := 0) hx hb dX6_count_1 (by decide) ?_
  refine lv_bipush (v := 7) hx hb dX6_count_2 (by decide) ?_
  refine vp_callSi (va_Run.run (va_runS (As := [.int w0, .int 0, .int 7]) (rest := []) ⟨hx, hb, hml, hown, hts⟩ (c_X6_in l w0 0 7) (cf_RX6_32 hts ⟨Nat.le_of_ble_eq_true rfl, Nat.le_of_ble_eq_true rfl⟩) pre_P rfl rfl hl.1 rfl (lv_room (Nat.le_of_ble_eq_true rfl)) dX6_count_4 ⟨Nat.le_of_ble_eq_true rfl, Nat.le_of_ble_eq_true rfl⟩)) (fun r611 hr611 => ?_)
  subst hr611
  refine zb_eq (tgt := 20) hx hb dX6_count_7 (by decide) (fun c_612 => ?_) (fun c_612 => ?_)
  · refine lv_iload_n hx hb dX6_count_20 rfl (lv_at hl 1 rfl) ?_
    refine lv_bipush (v := 9) hx hb dX6_count_21 (by decide) ?_
    refine lv_bipush (v := 12) hx hb dX6_count_23 (by decide) ?_
    refine vp_callSi (va_Run.run (va_runS (As := [.int w0, .int 9, .int 12]) (rest := []) ⟨hx, hb, hml, hown, hts⟩ (c_X6_in l w0 9 12) (cf_RX6_32 hts ⟨Nat.le_of_ble_eq_true rfl, Nat.le_of_ble_eq_true rfl⟩) pre_P rfl rfl hl.1 rfl (lv_room (Nat.le_of_ble_eq_true rfl)) dX6_count_25 ⟨Nat.le_of_ble_eq_true rfl, Nat.le_of_ble_eq_true rfl⟩)) (fun r613 hr613 => ?_)
    subst hr613
    refine zb_eq (tgt := 40) hx hb dX6_count_28 (by decide) (fun c_614 => ?_) (fun c_614 => ?_)
    · refine lv_iload_n hx hb dX6_count_40 rfl (lv_at hl 1 rfl) ?_
      rcases sw_cases2 8 17 w0 with hsw615 | ⟨j615, hg615, hj615, hsw615⟩
      · refine lv_tableOut (tgt := 132) hx hb dX6_count_41 hsw615 (by decide) ?_
        refine lv_bipush (v := (-2)) hx hb dX6_count_132 (by decide) ?_
        exact W.iret (v := (-2)) hx hb hr (fun t ht hW => ⟨(-2), rfl, by rw [m_count, if_neg c_612, if_neg c_614, if_neg (show ¬ w0 = 8 from sw_ne hsw615 (by decide)), if_neg (show ¬ w0 = 13 from sw_ne hsw615 (by decide)), if_neg (show ¬ w0 = 14 from sw_ne hsw615 (by decide)), if_neg (show ¬ w0 = 15 from sw_ne hsw615 (by decide)), if_neg (show ¬ w0 = 16 from sw_ne hsw615 (by decide)), if_neg (show ¬ w0 = 17 from sw_ne hsw615 (by decide))], ht⟩) (fun _ h => absurd h List.not_mem_nil) dX6_count_134
      · rcases (show j615 = 8 ∨ j615 = 9 ∨ j615 = 10 ∨ j615 = 11 ∨ j615 = 12 ∨ j615 = 13 ∨ j615 = 14 ∨ j615 = 15 ∨ j615 = 16 ∨ j615 = 17 by omega) with rfl | rfl | rfl | rfl | rfl | rfl | rfl | rfl | rfl | rfl
        · refine lv_tableIn (off := 55) (tgt := 96) hx hb dX6_count_41 (by rw [hsw615]; decide) (by rw [hsw615]; decide) (by rw [hsw615]; rfl) (by decide) ?_
          refine lv_aload_n hx hb dX6_count_96 rfl (lv_at hl 0 rfl) ?_
          have hPc : va_P G vwCl [(qm, .inr (6, [.ref qz, .ref qa, .ref qe, .int (nI sts), .ref qs, .ref qv, .ref qp, .int (nI len), .int go, .ref qn])), (qz, .inl (cI, 46, .inl z)), (qa, .inl (cI, 46, .inl as)), (qe, .inl (cI, 276, .inl be)), (qs, .inl (cI, 92, .inl sl)), (qv, .inl (cZ, 2, .inl sv)), (qp, .inl (cI, 60, .inl pd)), (qn, .inl (cI, 36, .inl nd))] s.heap := hP
          have hDc := hD0
          refine vp_callSi (va_Run.run (va_runV (As := []) (rest := []) ⟨hx, hb, hml, hown, hts⟩ (c_X6_winner l G cI cC cZ cG s.heap.size qm qz qa qe qs qv qp qn z as be sl sv pd nd sts len go) (cf_RX6_54 hts ⟨Nat.le_of_ble_eq_true rfl, Nat.le_of_ble_eq_true rfl⟩) (pre_V hK hPc hDc (ci := 6) (q0 := 0) rfl rfl) rfl rfl hl.1 rfl (lv_room (Nat.le_of_ble_eq_true rfl)) dX6_count_97 ⟨Nat.le_of_ble_eq_true rfl, Nat.le_of_ble_eq_true rfl⟩)) (fun r616 hr616 => ?_)
          subst hr616
          exact W.iret (v := mwi z) hx hb hr (fun t ht hW => ⟨mwi z, rfl, by rw [m_count, if_neg c_612, if_neg c_614, if_pos (show w0 = 8 from hsw615)], ht⟩) (fun _ h => absurd h List.not_mem_nil) dX6_count_100
        · refine lv_tableIn (off := 91) (tgt := 132) hx hb dX6_count_41 (by rw [hsw615]; decide) (by rw [hsw615]; decide) (by rw [hsw615]; rfl) (by decide) ?_
          refine lv_bipush (v := (-2)) hx hb dX6_count_132 (by decide) ?_
          exact W.iret (v := (-2)) hx hb hr (fun t ht hW => ⟨(-2), rfl, by rw [m_count, if_neg c_612, if_neg c_614, if_neg (show ¬ w0 = 8 by rw [hsw615]; decide), if_neg (show ¬ w0 = 13 by rw [hsw615]; decide), if_neg (show ¬ w0 = 14 by rw [hsw615]; decide), if_neg (show ¬ w0 = 15 by rw [hsw615]; decide), if_neg (show ¬ w0 = 16 by rw [hsw615]; decide), if_neg (show ¬ w0 = 17 by rw [hsw615]; decide)], ht⟩) (fun _ h => absurd h List.not_mem_nil) dX6_count_134
        · refine lv_tableIn (off := 91) (tgt := 132) hx hb dX6_count_41 (by rw [hsw615]; decide) (by rw [hsw615]; decide) (by rw [hsw615]; rfl) (by decide) ?_
          refine lv_bipush (v := (-2)) hx hb dX6_count_132 (by decide) ?_
          exact W.iret (v := (-2)) hx hb hr (fun t ht hW => ⟨(-2), rfl, by rw [m_count, if_neg c_612, if_neg c_614, if_neg (show ¬ w0 = 8 by rw [hsw615]; decide), if_neg (show ¬ w0 = 13 by rw [hsw615]; decide), if_neg (show ¬ w0 = 14 by rw [hsw615]; decide), if_neg (show ¬ w0 = 15 by rw [hsw615]; decide), if_neg (show ¬ w0 = 16 by rw [hsw615]; decide), if_neg (show ¬ w0 = 17 by rw [hsw615]; decide)], ht⟩) (fun _ h => absurd h List.not_mem_nil) dX6_count_134
        · refine lv_tableIn (off := 91) (tgt := 132) hx hb dX6_count_41 (by rw [hsw615]; decide) (by rw [hsw615]; decide) (by rw [hsw615]; rfl) (by decide) ?_
          refine lv_bipush (v := (-2)) hx hb dX6_count_132 (by decide) ?_
          exact W.iret (v := (-2)) hx hb hr (fun t ht hW => ⟨(-2), rfl, by rw [m_count, if_neg c_612, if_neg c_614, if_neg (show ¬ w0 = 8 by rw [hsw615]; decide), if_neg (show ¬ w0 = 13 by rw [hsw615]; decide), if_neg (show ¬ w0 = 14 by rw [hsw615]; decide), if_neg (show ¬ w0 = 15 by rw [hsw615]; decide), if_neg (show ¬ w0 = 16 by rw [hsw615]; decide), if_neg (show ¬ w0 = 17 by rw [hsw615]; decide)], ht⟩) (fun _ h => absurd h List.not_mem_nil) dX6_count_134
        · refine lv_tableIn (off := 91) (tgt := 132) hx hb dX6_count_41 (by rw [hsw615]; decide) (by rw [hsw615]; decide) (by rw [hsw615]; rfl) (by decide) ?_
          refine lv_bipush (v := (-2)) hx hb dX6_count_132 (by decide) ?_
          exact W.iret (v := (-2)) hx hb hr (fun t ht hW => ⟨(-2), rfl, by rw [m_count, if_neg c_612, if_neg c_614, if_neg (show ¬ w0 = 8 by rw [hsw615]; decide), if_neg (show ¬ w0 = 13 by rw [hsw615]; decide), if_neg (show ¬ w0 = 14 by rw [hsw615]; decide), if_neg (show ¬ w0 = 15 by rw [hsw615]; decide), if_neg (show ¬ w0 = 16 by rw [hsw615]; decide), if_neg (show ¬ w0 = 17 by rw [hsw615]; decide)], ht⟩) (fun _ h => absurd h List.not_mem_nil) dX6_count_134
        · refine lv_tableIn (off := 60) (tgt := 101) hx hb dX6_count_41 (by rw [hsw615]; decide) (by rw [hsw615]; decide) (by rw [hsw615]; rfl) (by decide) ?_
          refine lv_aload_n hx hb dX6_count_101 rfl (lv_at hl 0 rfl) ?_
          refine va_get (D := G) (ci := 6) (v := .ref qz) (C := RX6) (T := TX6) (N := 10) hx hb hts inlX6 hown hK.1 hP 0 rfl rfl 0 (by decide) (hts _ wd78) (fun _ h9 => h9) rfl dX6_count_102 ?_
          refine lv_bipush (v := 44) hx hb dX6_count_105 (by decide) ?_
          refine za_ld hx hb hK.1 hP 1 0 rfl rfl 44 rfl (by decide) (by decide) dX6_count_107 ?_
          exact W.iret (v := z 44) hx hb hr (fun t ht hW => ⟨z 44, rfl, by rw [m_count, if_neg c_612, if_neg c_614, if_neg (show ¬ w0 = 8 by rw [hsw615]; decide), if_pos (show w0 = 13 from hsw615)], ht⟩) (fun _ h => absurd h List.not_mem_nil) dX6_count_108
        · refine lv_tableIn (off := 68) (tgt := 109) hx hb dX6_count_41 (by rw [hsw615]; decide) (by rw [hsw615]; decide) (by rw [hsw615]; rfl) (by decide) ?_
          refine lv_aload_n hx hb dX6_count_109 rfl (lv_at hl 0 rfl) ?_
          have hPc : va_P G vwCl [(qm, .inr (6, [.ref qz, .ref qa, .ref qe, .int (nI sts), .ref qs, .ref qv, .ref qp, .int (nI len), .int go, .ref qn])), (qz, .inl (cI, 46, .inl z)), (qa, .inl (cI, 46, .inl as)), (qe, .inl (cI, 276, .inl be)), (qs, .inl (cI, 92, .inl sl)), (qv, .inl (cZ, 2, .inl sv)), (qp, .inl (cI, 60, .inl pd)), (qn, .inl (cI, 36, .inl nd))] s.heap := hP
          have hDc := hD0
          refine vp_callSi (va_Run.run (va_runV (As := []) (rest := []) ⟨hx, hb, hml, hown, hts⟩ (c_X6_fallenBridges l G cI cC cZ cG s.heap.size qm qz qa qe qs qv qp qn z as be sl sv pd nd sts len go) (cf_RX6_158 hts ⟨Nat.le_of_ble_eq_true rfl, Nat.le_of_ble_eq_true rfl⟩) (pre_V hK hPc hDc (ci := 6) (q0 := 0) rfl rfl) rfl rfl hl.1 rfl (lv_room (Nat.le_of_ble_eq_true rfl)) dX6_count_110 ⟨Nat.le_of_ble_eq_true rfl, Nat.le_of_ble_eq_true rfl⟩)) (fun r617 hr617 => ?_)
          subst hr617
          exact W.iret (v := fbM z 4) hx hb hr (fun t ht hW => ⟨fbM z 4, rfl, by rw [m_count, if_neg c_612, if_neg c_614, if_neg (show ¬ w0 = 8 by rw [hsw615]; decide), if_neg (show ¬ w0 = 13 by rw [hsw615]; decide), if_pos (show w0 = 14 from hsw615)], ht⟩) (fun _ h => absurd h List.not_mem_nil) dX6_count_113
        · refine lv_tableIn (off := 73) (tgt := 114) hx hb dX6_count_41 (by rw [hsw615]; decide) (by rw [hsw615]; decide) (by rw [hsw615]; rfl) (by decide) ?_
          refine lv_aload_n hx hb dX6_count_114 rfl (lv_at hl 0 rfl) ?_
          refine va_get (D := G) (ci := 6) (v := .ref qz) (C := RX6) (T := TX6) (N := 10) hx hb hts inlX6 hown hK.1 hP 0 rfl rfl 0 (by decide) (hts _ wd78) (fun _ h9 => h9) rfl dX6_count_115 ?_
          refine lv_bipush (v := 45) hx hb dX6_count_118 (by decide) ?_
          refine za_ld hx hb hK.1 hP 1 0 rfl rfl 45 rfl (by decide) (by decide) dX6_count_120 ?_
          exact W.iret (v := z 45) hx hb hr (fun t ht hW => ⟨z 45, rfl, by rw [m_count, if_neg c_612, if_neg c_614, if_neg (show ¬ w0 = 8 by rw [hsw615]; decide), if_neg (show ¬ w0 = 13 by rw [hsw615]; decide), if_neg (show ¬ w0 = 14 by rw [hsw615]; decide), if_pos (show w0 = 15 from hsw615)], ht⟩) (fun _ h => absurd h List.not_mem_nil) dX6_count_121
        · refine lv_tableIn (off := 81) (tgt := 122) hx hb dX6_count_41 (by rw [hsw615]; decide) (by rw [hsw615]; decide) (by rw [hsw615]; rfl) (by decide) ?_
          refine lv_aload_n hx hb dX6_count_122 rfl (lv_at hl 0 rfl) ?_
          refine va_get (D := G) (ci := 6) (v := .int (nI len)) (C := RX6) (T := TX6) (N := 10) hx hb hts inlX6 hown hK.1 hP 0 rfl rfl 7 (by decide) (hts _ wd406) (fun _ h9 => h9) rfl dX6_count_123 ?_
          exact W.iret (v := nI len) hx hb hr (fun t ht hW => ⟨nI len, rfl, by rw [m_count, if_neg c_612, if_neg c_614, if_neg (show ¬ w0 = 8 by rw [hsw615]; decide), if_neg (show ¬ w0 = 13 by rw [hsw615]; decide), if_neg (show ¬ w0 = 14 by rw [hsw615]; decide), if_neg (show ¬ w0 = 15 by rw [hsw615]; decide), if_pos (show w0 = 16 from hsw615)], ht⟩) (fun _ h => absurd h List.not_mem_nil) dX6_count_126
        · refine lv_tableIn (off := 86) (tgt := 127) hx hb dX6_count_41 (by rw [hsw615]; decide) (by rw [hsw615]; decide) (by rw [hsw615]; rfl) (by decide) ?_
          refine lv_aload_n hx hb dX6_count_127 rfl (lv_at hl 0 rfl) ?_
          refine va_get (D := G) (ci := 6) (v := .int (nI sts)) (C := RX6) (T := TX6) (N := 10) hx hb hts inlX6 hown hK.1 hP 0 rfl rfl 3 (by decide) (hts _ wd123) (fun _ h9 => h9) rfl dX6_count_128 ?_
          exact W.iret (v := nI sts) hx hb hr (fun t ht hW => ⟨nI sts, rfl, by rw [m_count, if_neg c_612, if_neg c_614, if_neg (show ¬ w0 = 8 by rw [hsw615]; decide), if_neg (show ¬ w0 = 13 by rw [hsw615]; decide), if_neg (show ¬ w0 = 14 by rw [hsw615]; decide), if_neg (show ¬ w0 = 15 by rw [hsw615]; decide), if_neg (show ¬ w0 = 16 by rw [hsw615]; decide), if_pos (show w0 = 17 from hsw615)], ht⟩) (fun _ h => absurd h List.not_mem_nil) dX6_count_131
    · obtain ⟨j, hj0, hj, rfl⟩ := inQ_nI (lo := 9) (hi := 12) (by decide) (by decide) c_614
      refine lv_aload_n hx hb dX6_count_31 rfl (lv_at hl 0 rfl) ?_
      refine lv_iload_n hx hb dX6_count_32 rfl (lv_at hl 1 rfl) ?_
      refine lv_bipush (v := 9) hx hb dX6_count_33 (by decide) ?_
      refine zi_sub hx hb j 9 dX6_count_35 rfl rfl (by omega) ?_
      have hPc : va_P G vwCl [(qm, .inr (6, [.ref qz, .ref qa, .ref qe, .int (nI sts), .ref qs, .ref qv, .ref qp, .int (nI len), .int go, .ref qn])), (qz, .inl (cI, 46, .inl z)), (qa, .inl (cI, 46, .inl as)), (qe, .inl (cI, 276, .inl be)), (qs, .inl (cI, 92, .inl sl)), (qv, .inl (cZ, 2, .inl sv)), (qp, .inl (cI, 60, .inl pd)), (qn, .inl (cI, 36, .inl nd))] s.heap := hP
      have hDc := hD0
      refine vp_callSi (va_Run.run (va_runV (As := [.int (nI (j - 9))]) (rest := []) ⟨hx, hb, hml, hown, hts⟩ (c_X6_atHome l G cI cC cZ cG s.heap.size qm qz qa qe qs qv qp qn z as be sl sv pd nd sts len go (j - 9) (by omega)) (cf_RX6_51 hts ⟨Nat.le_of_ble_eq_true rfl, Nat.le_of_ble_eq_true rfl⟩) (pre_V hK hPc hDc (ci := 6) (q0 := 0) rfl rfl) rfl rfl hl.1 rfl (lv_room (Nat.le_of_ble_eq_true rfl)) dX6_count_36 ⟨Nat.le_of_ble_eq_true rfl, Nat.le_of_ble_eq_true rfl⟩)) (fun r618 hr618 => ?_)
      subst hr618
      have hf619 := (show mho z (j - 9) ≤ 3 from cnt_le (mhP z (j - 9)) 3)
      exact W.iret (v := nI (mho z (j - 9))) hx hb hr (fun t ht hW => ⟨nI (mho z (j - 9)), rfl, by rw [m_count, if_neg c_612, if_pos c_614, (show (nI j).toNatClampNeg = j from nI_clamp (by omega))], ht⟩) (fun _ h => absurd h List.not_mem_nil) dX6_count_39
  · obtain ⟨j, hj0, hj, rfl⟩ := inQ_nI (lo := 0) (hi := 7) (by decide) (by decide) c_612
    refine lv_aload_n hx hb dX6_count_10 rfl (lv_at hl 0 rfl) ?_
    refine va_get (D := G) (ci := 6) (v := .ref qz) (C := RX6) (T := TX6) (N := 10) hx hb hts inlX6 hown hK.1 hP 0 rfl rfl 0 (by decide) (hts _ wd78) (fun _ h9 => h9) rfl dX6_count_11 ?_
    refine lv_bipush (v := 36) hx hb dX6_count_14 (by decide) ?_
    refine lv_iload_n hx hb dX6_count_16 rfl (lv_at hl 1 rfl) ?_
    refine zi_add hx hb 36 j dX6_count_17 rfl rfl ?_
    refine za_ld hx hb hK.1 hP 1 0 rfl rfl (36 + j) rfl (by omega) (by decide) dX6_count_18 ?_
    exact W.iret (v := z (36 + j)) hx hb hr (fun t ht hW => ⟨z (36 + j), rfl, by rw [m_count, if_pos c_612, (show (nI j).toNatClampNeg = j from nI_clamp (by omega))], ht⟩) (fun _ h => absurd h List.not_mem_nil) dX6_count_19

abbrev rm_X6_fault : Room := { frames := 2, cells := 0, slots := 0, locals := 44 }
theorem cf_RX6_140 {R : Room} {s : State} {args : Array Value} (ht : ∀ w ∈ wsL_law, w.before args s = true) (hR : rm_X6_findFault.frames + 1 ≤ R.frames ∧ 8 + (3 + 11) + rm_X6_findFault.locals ≤ R.locals) : CallW R s args RX6 RX6 140 yX6_findFault cX6_findFault 3 (some .int) (.code yX6_findFault cX6_findFault 3 (some .int) :: wsL_law) rm_X6_findFault 0 0 0 := ⟨cw_B 0 ht wd407 wd5 wd410 (by decide +kernel) rfl rfl hR, ht _ wd408, ht _ wd409⟩
set_option maxHeartbeats 1000000 in
set_option maxRecDepth 100000 in
theorem c_X6_fault (l : Launch) (G : va_G) (cI cC cZ cG : ClassId) (sz : Nat) (qm qz qa qe qs qv qp qn : Nat) (z as be sl sv pd nd : IA) (sts len : Nat) (go : Int32) (hln : len ≤ 60) : Met l yX6_fault (.code yX6_fault cX6_fault 1 (some .int) :: wsL_law) rm_X6_fault (va_Pc [.ref qm] (bw G cI cC cZ cG false sz [(qm, .inr (6, [.ref qz, .ref qa, .ref qe, .int (nI sts), .ref qs, .ref qv, .ref qp, .int (nI len), .int go, .ref qn])), (qz, .inl (cI, 46, .inl z)), (qa, .inl (cI, 46, .inl as)), (qe, .inl (cI, 276, .inl be)), (qs, .inl (cI, 92, .inl sl)), (qv, .inl (cZ, 2, .inl sv)), (qp, .inl (cI, 60, .inl pd)), (qn, .inl (cI, 36, .inl nd))])) (vp_Si (fun r => r = ffM pd len)) 0 0 (fun _ => False) := by
  refine met_bw rfl (Nat.le_of_ble_eq_true rfl) ?_
  intro p e s m below meth c ls hx hb hr hml hown hts hlocks hin hsz hP hK hD0 hX0 hl
  have hown : s.vm.findClass RX6 = some m.cls := hown
  have hl : lv_has ls 1 [(0, .ref qm)] := hl
  refine lv_aload_n hx hb dX6_fault_0 rfl (lv_at hl 0 rfl) ?_
  have hPc : va_P G vwCl [(qm, .inr (6, [.ref qz, .ref qa, .ref qe, .int (nI sts), .ref qs, .ref qv, .ref qp, .int (nI len), .int go, .ref qn])), (qz, .inl (cI, 46, .inl z)), (qa, .inl (cI, 46, .inl as)), (qe, .inl (cI, 276, .inl be)), (qs, .inl (cI, 92, .inl sl)), (qv, .inl (cZ, 2, .inl sv)), (qp, .inl (cI, 60, .inl pd)), (qn, .inl (cI, 36, .inl nd))] s.heap := hP
  have hDc := hD0
  refine vp_callSi (va_Run.run (va_runV (As := []) (rest := []) ⟨hx, hb, hml, hown, hts⟩ (c_X6_findFault l G cI cC cZ cG s.heap.size qm qz qa qe qs qv qp qn z as be sl sv pd nd sts len go (by omega)) (cf_RX6_140 hts ⟨Nat.le_of_ble_eq_true rfl, Nat.le_of_ble_eq_true rfl⟩) (pre_V hK hPc hDc (ci := 6) (q0 := 0) rfl rfl) rfl rfl hl.1 rfl (lv_room (Nat.le_of_ble_eq_true rfl)) dX6_fault_1 ⟨Nat.le_of_ble_eq_true rfl, Nat.le_of_ble_eq_true rfl⟩)) (fun r620 hr620 => ?_)
  subst hr620
  exact W.iret (v := ffM pd len) hx hb hr (fun t ht hW => ⟨ffM pd len, rfl, rfl, ht⟩) (fun _ h => absurd h List.not_mem_nil) dX6_fault_4

abbrev rm_X6_why : Room := { frames := 6, cells := 0, slots := 0, locals := 138 }
set_option maxHeartbeats 1000000 in
set_option maxRecDepth 100000 in
theorem c_X6_why (l : Launch) (G : va_G) (cI cC cZ cG : ClassId) (sz : Nat) (qm qz qa qe qs qv qp qn : Nat) (z as be sl sv pd nd : IA) (sts len : Nat) (go : Int32) (pl : Nat) (k0 c0 : Int32) (hz : ∀ k, k < 12 → okv (z k)) (hx0 : ¬ z 39 < 0) (hpl : pl < 4) (h40 : z 40 = nI pl) (h4c : okc (z 41)) (hst : sts ≤ 6) (hln : len ≤ 60) : Met l yX6_why (.code yX6_why cX6_why 3 (some .int) :: wsL_law) rm_X6_why (va_Pc [.ref qm, .int k0, .int c0] (bw G cI cC cZ cG false sz [(qm, .inr (6, [.ref qz, .ref qa, .ref qe, .int (nI sts), .ref qs, .ref qv, .ref qp, .int (nI len), .int go, .ref qn])), (qz, .inl (cI, 46, .inl z)), (qa, .inl (cI, 46, .inl as)), (qe, .inl (cI, 276, .inl be)), (qs, .inl (cI, 92, .inl sl)), (qv, .inl (cZ, 2, .inl sv)), (qp, .inl (cI, 60, .inl pd)), (qn, .inl (cI, 36, .inl nd))])) (va_Qi (fun (r : Int32) (u : MS) => r = m_why k0 c0 z ∧ cor u = (z, be, sts, sl, sv, pd, len)) (fun (u : MS) t => va_P G vwCl [(qm, .inr (6, [.ref qz, .ref qa, .ref qe, .int (nI u.2.2.1), .ref qs, .ref qv, .ref qp, .int (nI u.2.2.2.2.2.2.1), .int u.2.2.2.2.2.2.2.2.1, .ref qn])), (qz, .inl (cI, 46, .inl u.1)), (qa, .inl (cI, 46, .inl u.2.2.2.2.2.2.2.1)), (qe, .inl (cI, 276, .inl u.2.1)), (qs, .inl (cI, 92, .inl u.2.2.2.1)), (qv, .inl (cZ, 2, .inl u.2.2.2.2.1)), (qp, .inl (cI, 60, .inl u.2.2.2.2.2.1)), (qn, .inl (cI, 36, .inl u.2.2.2.2.2.2.2.2.2))] t.heap ∧ va_D (va_A [(qm, .inr (6, [.ref qz, .ref qa, .ref qe, .int (nI sts), .ref qs, .ref qv, .ref qp, .int (nI len), .int go, .ref qn])), (qz, .inl (cI, 46, .inl z)), (qa, .inl (cI, 46, .inl as)), (qe, .inl (cI, 276, .inl be)), (qs, .inl (cI, 92, .inl sl)), (qv, .inl (cZ, 2, .inl sv)), (qp, .inl (cI, 60, .inl pd)), (qn, .inl (cI, 36, .inl nd))] sz) [(qm, .inr (6, [.ref qz, .ref qa, .ref qe, .int (nI u.2.2.1), .ref qs, .ref qv, .ref qp, .int (nI u.2.2.2.2.2.2.1), .int u.2.2.2.2.2.2.2.2.1, .ref qn])), (qz, .inl (cI, 46, .inl u.1)), (qa, .inl (cI, 46, .inl u.2.2.2.2.2.2.2.1)), (qe, .inl (cI, 276, .inl u.2.1)), (qs, .inl (cI, 92, .inl u.2.2.2.1)), (qv, .inl (cZ, 2, .inl u.2.2.2.2.1)), (qp, .inl (cI, 60, .inl u.2.2.2.2.2.1)), (qn, .inl (cI, 36, .inl u.2.2.2.2.2.2.2.2.2))]) (va_A [(qm, .inr (6, [.ref qz, .ref qa, .ref qe, .int (nI sts), .ref qs, .ref qv, .ref qp, .int (nI len), .int go, .ref qn])), (qz, .inl (cI, 46, .inl z)), (qa, .inl (cI, 46, .inl as)), (qe, .inl (cI, 276, .inl be)), (qs, .inl (cI, 92, .inl sl)), (qv, .inl (cZ, 2, .inl sv)), (qp, .inl (cI, 60, .inl pd)), (qn, .inl (cI, 36, .inl nd))] sz)) 0 0 (va_A [(qm, .inr (6, [.ref qz, .ref qa, .ref qe, .int (nI sts), .ref qs, .ref qv, .ref qp, .int (nI len), .int go, .ref qn])), (qz, .inl (cI, 46, .inl z)), (qa, .inl (cI, 46, .inl as)), (qe, .inl (cI, 276, .inl be)), (qs, .inl (cI, 92, .inl sl)), (qv, .inl (cZ, 2, .inl sv)), (qp, .inl (cI, 60, .inl pd)), (qn, .inl (cI, 36, .inl nd))] sz) := by
  refine met_bw rfl (Nat.le_of_ble_eq_true rfl) ?_
  intro p e s m below meth c ls hx hb hr hml hown hts hlocks hin hsz hP hK hD0 hX0 hl
  have hown : s.vm.findClass RX6 = some m.cls := hown
  have hl : lv_has ls 3 [(0, .ref qm), (1, .int k0), (2, .int c0)] := hl
  subst hsz
  have hD := hD0.self (sz := s.heap.size)
  generalize hAe : va_A [(qm, .inr (6, [.ref qz, .ref qa, .ref qe, .int (nI sts), .ref qs, .ref qv, .ref qp, .int (nI len), .int go, .ref qn])), (qz, .inl (cI, 46, .inl z)), (qa, .inl (cI, 46, .inl as)), (qe, .inl (cI, 276, .inl be)), (qs, .inl (cI, 92, .inl sl)), (qv, .inl (cZ, 2, .inl sv)), (qp, .inl (cI, 60, .inl pd)), (qn, .inl (cI, 36, .inl nd))] s.heap.size = A at hD ⊢
  have hA : ∀ q : Nat, s.heap.size ≤ q → A q := fun q h => by rw [← hAe]; exact Or.inr h
  have hS : va_S A s.heap s.heap [] := va_S.rf
  refine lv_iload_n hx hb dX6_why_0 rfl (lv_at hl 1 rfl) ?_
  refine vp_callSi (va_Run.run (va_runS (As := [.int k0]) (rest := []) ⟨hx, hb, hml, hown, hts⟩ (c_X6_isPiece l k0) (cf_RX6_146 hts ⟨Nat.le_of_ble_eq_true rfl, Nat.le_of_ble_eq_true rfl⟩) pre_P rfl rfl hl.1 rfl (lv_room (Nat.le_of_ble_eq_true rfl)) dX6_why_1 ⟨Nat.le_of_ble_eq_true rfl, Nat.le_of_ble_eq_true rfl⟩)) (fun r621 hr621 => ?_)
  subst hr621
  refine zb_ne (tgt := 11) hx hb dX6_why_4 (by decide) (fun c_622 => ?_) (fun c_622 => ?_)
  · obtain ⟨j, hj0, hj, rfl⟩ := inQ_nI (lo := 0) (hi := 11) (by decide) (by decide) c_622
    refine lv_iload_n hx hb dX6_why_11 rfl (lv_at hl 2 rfl) ?_
    refine lv_iconst (v := 1) hx hb dX6_why_12 (by decide) ?_
    refine lv_bipush (v := 6) hx hb dX6_why_13 (by decide) ?_
    refine vp_callSi (va_Run.run (va_runS (As := [.int c0, .int 1, .int 6]) (rest := []) ⟨hx, hb, hml, hown, hts⟩ (c_X6_in l c0 1 6) (cf_RX6_32 hts ⟨Nat.le_of_ble_eq_true rfl, Nat.le_of_ble_eq_true rfl⟩) pre_P rfl rfl hl.1 rfl (lv_room (Nat.le_of_ble_eq_true rfl)) dX6_why_15 ⟨Nat.le_of_ble_eq_true rfl, Nat.le_of_ble_eq_true rfl⟩)) (fun r623 hr623 => ?_)
    subst hr623
    refine zb_eq (tgt := 30) hx hb dX6_why_18 (by decide) (fun c_624 => ?_) (fun c_624 => ?_)
    · refine lv_bipush (v := (-2)) hx hb dX6_why_30 (by decide) ?_
      exact W.iret (v := (-2)) hx hb hr (fun t ht hW => ⟨⟨(-2), (z, be, sts, sl, sv, pd, len, as, go, nd), rfl, ⟨by rw [m_why, if_neg (fun h => h c_622), if_neg c_624], rfl⟩, by rw [ht]; exact hP, hD⟩, hS.F ht⟩) hS.2.2 dX6_why_32
    · obtain ⟨j2, hj3, hj4, rfl⟩ := inQ_nI (lo := 1) (hi := 6) (by decide) (by decide) c_624
      refine lv_aload_n hx hb dX6_why_21 rfl (lv_at hl 0 rfl) ?_
      refine lv_iload_n hx hb dX6_why_22 rfl (lv_at hl 1 rfl) ?_
      refine lv_iload_n hx hb dX6_why_23 rfl (lv_at hl 2 rfl) ?_
      have hPc : va_P G vwCl [(qm, .inr (6, [.ref qz, .ref qa, .ref qe, .int (nI sts), .ref qs, .ref qv, .ref qp, .int (nI len), .int go, .ref qn])), (qz, .inl (cI, 46, .inl z)), (qa, .inl (cI, 46, .inl as)), (qe, .inl (cI, 276, .inl be)), (qs, .inl (cI, 92, .inl sl)), (qv, .inl (cZ, 2, .inl sv)), (qp, .inl (cI, 60, .inl pd)), (qn, .inl (cI, 36, .inl nd))] s.heap := hP
      have hDc := hD.tt
      have hFc := va_free (wc := [(qm, .inr (6, [.ref qz, .ref qa, .ref qe, .int (nI sts), .ref qs, .ref qv, .ref qp, .int (nI len), .int go, .ref qn])), (qz, .inl (cI, 46, .inl z)), (qa, .inl (cI, 46, .inl as)), (qe, .inl (cI, 276, .inl be)), (qs, .inl (cI, 92, .inl sl)), (qv, .inl (cZ, 2, .inl sv)), (qp, .inl (cI, 60, .inl pd)), (qn, .inl (cI, 36, .inl nd))]) hD hS hA [0, 1, 2, 3, 4, 5, 6, 7] rfl
      refine va_calli (va_runV (As := [.int (nI j), .int (nI j2)]) (rest := []) ⟨hx, hb, hml, hown, hts⟩ (c_X6_whyNot l G cI cC cZ cG s.heap.size qm qz qa qe qs qv qp qn z as be sl sv pd nd sts len go j j2 hz (by omega) hj3 hj4) (cf_RX6_88 hts ⟨Nat.le_of_ble_eq_true rfl, Nat.le_of_ble_eq_true rfl⟩) (pre_V hK hPc hDc (ci := 6) (q0 := 0) rfl rfl) rfl rfl hl.1 rfl (lv_room (Nat.le_of_ble_eq_true rfl)) dX6_why_24 ⟨Nat.le_of_ble_eq_true rfl, Nat.le_of_ble_eq_true rfl⟩) hS (fun q _ h => hFc q h) hFc (fun r625 u625 t625 H625 locs625 ht625 hvm625 hw625 hB625 hz625 hk625 hS => ?_)
      obtain ⟨go625, rfl⟩ : ∃ z, z = u625 := ⟨_, rfl⟩
      obtain ⟨hP1, hD1⟩ := hB625
      rw [ht625] at hP1
      try dsimp only at hw625
      obtain ⟨hr625, hw625⟩ := hw625
      subst hr625
      obtain ⟨hP, hD⟩ := va_join (wr := []) (w1 := [(qm, .inr (6, [.ref qz, .ref qa, .ref qe, .int (nI sts), .ref qs, .ref qv, .ref qp, .int (nI len), .int go625, .ref qn])), (qz, .inl (cI, 46, .inl z)), (qa, .inl (cI, 46, .inl as)), (qe, .inl (cI, 276, .inl be)), (qs, .inl (cI, 92, .inl sl)), (qv, .inl (cZ, 2, .inl sv)), (qp, .inl (cI, 60, .inl pd)), (qn, .inl (cI, 36, .inl nd))]) hP hD [0, 1, 2, 3, 4, 5, 6, 7] [] rfl rfl (by decide) (by decide) hk625 hFc hP1 hD1
      have hP : va_P G vwCl [(qm, .inr (6, [.ref qz, .ref qa, .ref qe, .int (nI sts), .ref qs, .ref qv, .ref qp, .int (nI len), .int go625, .ref qn])), (qz, .inl (cI, 46, .inl z)), (qa, .inl (cI, 46, .inl as)), (qe, .inl (cI, 276, .inl be)), (qs, .inl (cI, 92, .inl sl)), (qv, .inl (cZ, 2, .inl sv)), (qp, .inl (cI, 60, .inl pd)), (qn, .inl (cI, 36, .inl nd))] H625 := hP
      have hD : va_D A [(qm, .inr (6, [.ref qz, .ref qa, .ref qe, .int (nI sts), .ref qs, .ref qv, .ref qp, .int (nI len), .int go625, .ref qn])), (qz, .inl (cI, 46, .inl z)), (qa, .inl (cI, 46, .inl as)), (qe, .inl (cI, 276, .inl be)), (qs, .inl (cI, 92, .inl sl)), (qv, .inl (cZ, 2, .inl sv)), (qp, .inl (cI, 60, .inl pd)), (qn, .inl (cI, 36, .inl nd))] := hD
      refine lv_goto (tgt := 32) hx hb dX6_why_27 (by decide) ?_
      exact W.iret (v := mwn z j j2) hx hb hr (fun t ht hW => ⟨⟨mwn z j j2, (z, be, sts, sl, sv, pd, len, as, go625, nd), rfl, ⟨by rw [m_why, if_neg (fun h => h c_622), if_pos c_624, (show (nI j).toNatClampNeg = j from nI_clamp (by omega)), (show (nI j2).toNatClampNeg = j2 from nI_clamp (by omega))], rfl⟩, by rw [ht]; exact hP, hD⟩, hS.F ht⟩) hS.2.2 dX6_why_32
  · refine lv_iconst (v := (-1)) hx hb dX6_why_7 (by decide) ?_
    refine lv_goto (tgt := 32) hx hb dX6_why_8 (by decide) ?_
    exact W.iret (v := (-1)) hx hb hr (fun t ht hW => ⟨⟨(-1), (z, be, sts, sl, sv, pd, len, as, go, nd), rfl, ⟨by rw [m_why, if_pos c_622], rfl⟩, by rw [ht]; exact hP, hD⟩, hS.F ht⟩) hS.2.2 dX6_why_32

abbrev rm_X6_best : Room := { frames := 8, cells := 0, slots := 0, locals := 188 }
set_option maxHeartbeats 1000000 in
set_option maxRecDepth 100000 in
theorem c_X6_best (l : Launch) (G : va_G) (cI cC cZ cG : ClassId) (sz : Nat) (qm qz qa qe qs qv qp qn : Nat) (z as be sl sv pd nd : IA) (sts len : Nat) (go : Int32) (pl : Nat) (hz : ∀ k, k < 12 → okv (z k)) (hx0 : ¬ z 39 < 0) (hpl : pl < 4) (h40 : z 40 = nI pl) (h4c : okc (z 41)) (hst : sts ≤ 6) (hln : len ≤ 60) : Met l yX6_best (.code yX6_best cX6_best 1 (some .int) :: wsL_law) rm_X6_best (va_Pc [.ref qm] (bw G cI cC cZ cG false sz [(qm, .inr (6, [.ref qz, .ref qa, .ref qe, .int (nI sts), .ref qs, .ref qv, .ref qp, .int (nI len), .int go, .ref qn])), (qz, .inl (cI, 46, .inl z)), (qa, .inl (cI, 46, .inl as)), (qe, .inl (cI, 276, .inl be)), (qs, .inl (cI, 92, .inl sl)), (qv, .inl (cZ, 2, .inl sv)), (qp, .inl (cI, 60, .inl pd)), (qn, .inl (cI, 36, .inl nd))])) (va_Qi (fun (r : Int32) (u : MS) => r = m_best z ∧ cor u = (z, be, sts, sl, sv, pd, len)) (fun (u : MS) t => va_P G vwCl [(qm, .inr (6, [.ref qz, .ref qa, .ref qe, .int (nI u.2.2.1), .ref qs, .ref qv, .ref qp, .int (nI u.2.2.2.2.2.2.1), .int u.2.2.2.2.2.2.2.2.1, .ref qn])), (qz, .inl (cI, 46, .inl u.1)), (qa, .inl (cI, 46, .inl u.2.2.2.2.2.2.2.1)), (qe, .inl (cI, 276, .inl u.2.1)), (qs, .inl (cI, 92, .inl u.2.2.2.1)), (qv, .inl (cZ, 2, .inl u.2.2.2.2.1)), (qp, .inl (cI, 60, .inl u.2.2.2.2.2.1)), (qn, .inl (cI, 36, .inl u.2.2.2.2.2.2.2.2.2))] t.heap ∧ va_D (va_A [(qm, .inr (6, [.ref qz, .ref qa, .ref qe, .int (nI sts), .ref qs, .ref qv, .ref qp, .int (nI len), .int go, .ref qn])), (qz, .inl (cI, 46, .inl z)), (qa, .inl (cI, 46, .inl as)), (qe, .inl (cI, 276, .inl be)), (qs, .inl (cI, 92, .inl sl)), (qv, .inl (cZ, 2, .inl sv)), (qp, .inl (cI, 60, .inl pd)), (qn, .inl (cI, 36, .inl nd))] sz) [(qm, .inr (6, [.ref qz, .ref qa, .ref qe, .int (nI u.2.2.1), .ref qs, .ref qv, .ref qp, .int (nI u.2.2.2.2.2.2.1), .int u.2.2.2.2.2.2.2.2.1, .ref qn])), (qz, .inl (cI, 46, .inl u.1)), (qa, .inl (cI, 46, .inl u.2.2.2.2.2.2.2.1)), (qe, .inl (cI, 276, .inl u.2.1)), (qs, .inl (cI, 92, .inl u.2.2.2.1)), (qv, .inl (cZ, 2, .inl u.2.2.2.2.1)), (qp, .inl (cI, 60, .inl u.2.2.2.2.2.1)), (qn, .inl (cI, 36, .inl u.2.2.2.2.2.2.2.2.2))]) (va_A [(qm, .inr (6, [.ref qz, .ref qa, .ref qe, .int (nI sts), .ref qs, .ref qv, .ref qp, .int (nI len), .int go, .ref qn])), (qz, .inl (cI, 46, .inl z)), (qa, .inl (cI, 46, .inl as)), (qe, .inl (cI, 276, .inl be)), (qs, .inl (cI, 92, .inl sl)), (qv, .inl (cZ, 2, .inl sv)), (qp, .inl (cI, 60, .inl pd)), (qn, .inl (cI, 36, .inl nd))] sz)) 0 0 (va_A [(qm, .inr (6, [.ref qz, .ref qa, .ref qe, .int (nI sts), .ref qs, .ref qv, .ref qp, .int (nI len), .int go, .ref qn])), (qz, .inl (cI, 46, .inl z)), (qa, .inl (cI, 46, .inl as)), (qe, .inl (cI, 276, .inl be)), (qs, .inl (cI, 92, .inl sl)), (qv, .inl (cZ, 2, .inl sv)), (qp, .inl (cI, 60, .inl pd)), (qn, .inl (cI, 36, .inl nd))] sz) := by
  refine met_bw rfl (Nat.le_of_ble_eq_true rfl) ?_
  intro p e s m below meth c ls hx hb hr hml hown hts hlocks hin hsz hP hK hD0 hX0 hl
  have hown : s.vm.findClass RX6 = some m.cls := hown
  have hl : lv_has ls 1 [(0, .ref qm)] := hl
  subst hsz
  have hD := hD0.self (sz := s.heap.size)
  generalize hAe : va_A [(qm, .inr (6, [.ref qz, .ref qa, .ref qe, .int (nI sts), .ref qs, .ref qv, .ref qp, .int (nI len), .int go, .ref qn])), (qz, .inl (cI, 46, .inl z)), (qa, .inl (cI, 46, .inl as)), (qe, .inl (cI, 276, .inl be)), (qs, .inl (cI, 92, .inl sl)), (qv, .inl (cZ, 2, .inl sv)), (qp, .inl (cI, 60, .inl pd)), (qn, .inl (cI, 36, .inl nd))] s.heap.size = A at hD ⊢
  have hA : ∀ q : Nat, s.heap.size ≤ q → A q := fun q h => by rw [← hAe]; exact Or.inr h
  have hS : va_S A s.heap s.heap [] := va_S.rf
  refine lv_aload_n hx hb dX6_best_0 rfl (lv_at hl 0 rfl) ?_
  have hPc : va_P G vwCl [(qm, .inr (6, [.ref qz, .ref qa, .ref qe, .int (nI sts), .ref qs, .ref qv, .ref qp, .int (nI len), .int go, .ref qn])), (qz, .inl (cI, 46, .inl z)), (qa, .inl (cI, 46, .inl as)), (qe, .inl (cI, 276, .inl be)), (qs, .inl (cI, 92, .inl sl)), (qv, .inl (cZ, 2, .inl sv)), (qp, .inl (cI, 60, .inl pd)), (qn, .inl (cI, 36, .inl nd))] s.heap := hP
  have hDc := hD.tt
  refine vp_callSi (va_Run.run (va_runV (As := []) (rest := []) ⟨hx, hb, hml, hown, hts⟩ (c_X6_hasCast l G cI cC cZ cG s.heap.size qm qz qa qe qs qv qp qn z as be sl sv pd nd sts len go) (cf_RX6_114 hts ⟨Nat.le_of_ble_eq_true rfl, Nat.le_of_ble_eq_true rfl⟩) (pre_V hK hPc hDc (ci := 6) (q0 := 0) rfl rfl) rfl rfl hl.1 rfl (lv_room (Nat.le_of_ble_eq_true rfl)) dX6_best_1 ⟨Nat.le_of_ble_eq_true rfl, Nat.le_of_ble_eq_true rfl⟩)) (fun r626 hr626 => ?_)
  subst hr626
  refine zb_eq (tgt := 14) hx hb dX6_best_4 (by decide) (fun c_627 => ?_) (fun c_627 => ?_)
  · refine lv_bipush (v := (-5)) hx hb dX6_best_14 (by decide) ?_
    exact W.iret (v := (-5)) hx hb hr (fun t ht hW => ⟨⟨(-5), (z, be, sts, sl, sv, pd, len, as, go, nd), rfl, ⟨by rw [m_best, if_pos (Decidable.not_not.mp c_627)], rfl⟩, by rw [ht]; exact hP, hD⟩, hS.F ht⟩) hS.2.2 dX6_best_16
  · obtain ⟨cn, hc1, hc, h41⟩ := okc_ne h4c c_627
    refine lv_aload_n hx hb dX6_best_7 rfl (lv_at hl 0 rfl) ?_
    have hPc : va_P G vwCl [(qm, .inr (6, [.ref qz, .ref qa, .ref qe, .int (nI sts), .ref qs, .ref qv, .ref qp, .int (nI len), .int go, .ref qn])), (qz, .inl (cI, 46, .inl z)), (qa, .inl (cI, 46, .inl as)), (qe, .inl (cI, 276, .inl be)), (qs, .inl (cI, 92, .inl sl)), (qv, .inl (cZ, 2, .inl sv)), (qp, .inl (cI, 60, .inl pd)), (qn, .inl (cI, 36, .inl nd))] s.heap := hP
    have hDc := hD.tt
    have hFc := va_free (wc := [(qm, .inr (6, [.ref qz, .ref qa, .ref qe, .int (nI sts), .ref qs, .ref qv, .ref qp, .int (nI len), .int go, .ref qn])), (qz, .inl (cI, 46, .inl z)), (qa, .inl (cI, 46, .inl as)), (qe, .inl (cI, 276, .inl be)), (qs, .inl (cI, 92, .inl sl)), (qv, .inl (cZ, 2, .inl sv)), (qp, .inl (cI, 60, .inl pd)), (qn, .inl (cI, 36, .inl nd))]) hD hS hA [0, 1, 2, 3, 4, 5, 6, 7] rfl
    refine va_calli (va_runV (As := []) (rest := []) ⟨hx, hb, hml, hown, hts⟩ (c_X6_bestPiece l G cI cC cZ cG s.heap.size qm qz qa qe qs qv qp qn z as be sl sv pd nd sts len go pl cn hz hpl h40 h41 hc1 hc) (cf_RX6_134 hts ⟨Nat.le_of_ble_eq_true rfl, Nat.le_of_ble_eq_true rfl⟩) (pre_V hK hPc hDc (ci := 6) (q0 := 0) rfl rfl) rfl rfl hl.1 rfl (lv_room (Nat.le_of_ble_eq_true rfl)) dX6_best_8 ⟨Nat.le_of_ble_eq_true rfl, Nat.le_of_ble_eq_true rfl⟩) hS (fun q _ h => hFc q h) hFc (fun r628 u628 t628 H628 locs628 ht628 hvm628 hw628 hB628 hz628 hk628 hS => ?_)
    obtain ⟨go628, rfl⟩ : ∃ z, z = u628 := ⟨_, rfl⟩
    obtain ⟨hP1, hD1⟩ := hB628
    rw [ht628] at hP1
    try dsimp only at hw628
    obtain ⟨hr628, hw628⟩ := hw628
    subst hr628
    obtain ⟨hP, hD⟩ := va_join (wr := []) (w1 := [(qm, .inr (6, [.ref qz, .ref qa, .ref qe, .int (nI sts), .ref qs, .ref qv, .ref qp, .int (nI len), .int go628, .ref qn])), (qz, .inl (cI, 46, .inl z)), (qa, .inl (cI, 46, .inl as)), (qe, .inl (cI, 276, .inl be)), (qs, .inl (cI, 92, .inl sl)), (qv, .inl (cZ, 2, .inl sv)), (qp, .inl (cI, 60, .inl pd)), (qn, .inl (cI, 36, .inl nd))]) hP hD [0, 1, 2, 3, 4, 5, 6, 7] [] rfl rfl (by decide) (by decide) hk628 hFc hP1 hD1
    have hP : va_P G vwCl [(qm, .inr (6, [.ref qz, .ref qa, .ref qe, .int (nI sts), .ref qs, .ref qv, .ref qp, .int (nI len), .int go628, .ref qn])), (qz, .inl (cI, 46, .inl z)), (qa, .inl (cI, 46, .inl as)), (qe, .inl (cI, 276, .inl be)), (qs, .inl (cI, 92, .inl sl)), (qv, .inl (cZ, 2, .inl sv)), (qp, .inl (cI, 60, .inl pd)), (qn, .inl (cI, 36, .inl nd))] H628 := hP
    have hD : va_D A [(qm, .inr (6, [.ref qz, .ref qa, .ref qe, .int (nI sts), .ref qs, .ref qv, .ref qp, .int (nI len), .int go628, .ref qn])), (qz, .inl (cI, 46, .inl z)), (qa, .inl (cI, 46, .inl as)), (qe, .inl (cI, 276, .inl be)), (qs, .inl (cI, 92, .inl sl)), (qv, .inl (cZ, 2, .inl sv)), (qp, .inl (cI, 60, .inl pd)), (qn, .inl (cI, 36, .inl nd))] := hD
    refine lv_goto (tgt := 16) hx hb dX6_best_11 (by decide) ?_
    exact W.iret (v := bpM z pl cn) hx hb hr (fun t ht hW => ⟨⟨bpM z pl cn, (z, be, sts, sl, sv, pd, len, as, go628, nd), rfl, ⟨by rw [m_best, if_neg c_627, (show (z 41).toNatClampNeg = cn by rw [h41]; exact nI_clamp (by omega)), (show (z 40).toNatClampNeg = pl by rw [h40]; exact nI_clamp (by omega))], rfl⟩, by rw [ht]; exact hP, hD⟩, hS.F ht⟩) hS.2.2 dX6_best_16

abbrev rm_X6_nextCast : Room := { frames := 1, cells := 0, slots := 0, locals := 22 }
set_option maxHeartbeats 1000000 in
set_option maxRecDepth 100000 in
theorem c_X6_nextCast (l : Launch) (G : va_G) (cI cC cZ cG : ClassId) (sz : Nat) (qm qz qa qe qs qv qp qn : Nat) (z as be sl sv pd nd : IA) (sts len : Nat) (go : Int32) (pl : Nat) (n0 : Int32) (hz : ∀ k, k < 12 → okv (z k)) (hx0 : ¬ z 39 < 0) (hpl : pl < 4) (h40 : z 40 = nI pl) (h4c : okc (z 41)) (hst : sts ≤ 6) (hln : len ≤ 60) : Met l yX6_nextCast (.code yX6_nextCast cX6_nextCast 5 (some .int) :: wsL_law) rm_X6_nextCast (va_Pc [.ref qm, .int n0] (bw G cI cC cZ cG false sz [(qm, .inr (6, [.ref qz, .ref qa, .ref qe, .int (nI sts), .ref qs, .ref qv, .ref qp, .int (nI len), .int go, .ref qn])), (qz, .inl (cI, 46, .inl z)), (qa, .inl (cI, 46, .inl as)), (qe, .inl (cI, 276, .inl be)), (qs, .inl (cI, 92, .inl sl)), (qv, .inl (cZ, 2, .inl sv)), (qp, .inl (cI, 60, .inl pd)), (qn, .inl (cI, 36, .inl nd))])) (va_Qi (fun (r : Int32) (u : MS) => r = m_nextCast n0 z ∧ cor u = (z, be, sts, sl, sv, pd, len)) (fun (u : MS) t => va_P G vwCl [(qm, .inr (6, [.ref qz, .ref qa, .ref qe, .int (nI u.2.2.1), .ref qs, .ref qv, .ref qp, .int (nI u.2.2.2.2.2.2.1), .int u.2.2.2.2.2.2.2.2.1, .ref qn])), (qz, .inl (cI, 46, .inl u.1)), (qa, .inl (cI, 46, .inl u.2.2.2.2.2.2.2.1)), (qe, .inl (cI, 276, .inl u.2.1)), (qs, .inl (cI, 92, .inl u.2.2.2.1)), (qv, .inl (cZ, 2, .inl u.2.2.2.2.1)), (qp, .inl (cI, 60, .inl u.2.2.2.2.2.1)), (qn, .inl (cI, 36, .inl u.2.2.2.2.2.2.2.2.2))] t.heap ∧ va_D (va_A [(qm, .inr (6, [.ref qz, .ref qa, .ref qe, .int (nI sts), .ref qs, .ref qv, .ref qp, .int (nI len), .int go, .ref qn])), (qz, .inl (cI, 46, .inl z)), (qa, .inl (cI, 46, .inl as)), (qe, .inl (cI, 276, .inl be)), (qs, .inl (cI, 92, .inl sl)), (qv, .inl (cZ, 2, .inl sv)), (qp, .inl (cI, 60, .inl pd)), (qn, .inl (cI, 36, .inl nd))] sz) [(qm, .inr (6, [.ref qz, .ref qa, .ref qe, .int (nI u.2.2.1), .ref qs, .ref qv, .ref qp, .int (nI u.2.2.2.2.2.2.1), .int u.2.2.2.2.2.2.2.2.1, .ref qn])), (qz, .inl (cI, 46, .inl u.1)), (qa, .inl (cI, 46, .inl u.2.2.2.2.2.2.2.1)), (qe, .inl (cI, 276, .inl u.2.1)), (qs, .inl (cI, 92, .inl u.2.2.2.1)), (qv, .inl (cZ, 2, .inl u.2.2.2.2.1)), (qp, .inl (cI, 60, .inl u.2.2.2.2.2.1)), (qn, .inl (cI, 36, .inl u.2.2.2.2.2.2.2.2.2))]) (va_A [(qm, .inr (6, [.ref qz, .ref qa, .ref qe, .int (nI sts), .ref qs, .ref qv, .ref qp, .int (nI len), .int go, .ref qn])), (qz, .inl (cI, 46, .inl z)), (qa, .inl (cI, 46, .inl as)), (qe, .inl (cI, 276, .inl be)), (qs, .inl (cI, 92, .inl sl)), (qv, .inl (cZ, 2, .inl sv)), (qp, .inl (cI, 60, .inl pd)), (qn, .inl (cI, 36, .inl nd))] sz)) 0 0 (va_A [(qm, .inr (6, [.ref qz, .ref qa, .ref qe, .int (nI sts), .ref qs, .ref qv, .ref qp, .int (nI len), .int go, .ref qn])), (qz, .inl (cI, 46, .inl z)), (qa, .inl (cI, 46, .inl as)), (qe, .inl (cI, 276, .inl be)), (qs, .inl (cI, 92, .inl sl)), (qv, .inl (cZ, 2, .inl sv)), (qp, .inl (cI, 60, .inl pd)), (qn, .inl (cI, 36, .inl nd))] sz) := by
  refine met_bw rfl (Nat.le_of_ble_eq_true rfl) ?_
  intro p e s m below meth c ls hx hb hr hml hown hts hlocks hin hsz hP hK hD0 hX0 hl
  have hown : s.vm.findClass RX6 = some m.cls := hown
  have hl : lv_has ls 5 [(0, .ref qm), (1, .int n0)] := hl
  subst hsz
  have hD := hD0.self (sz := s.heap.size)
  generalize hAe : va_A [(qm, .inr (6, [.ref qz, .ref qa, .ref qe, .int (nI sts), .ref qs, .ref qv, .ref qp, .int (nI len), .int go, .ref qn])), (qz, .inl (cI, 46, .inl z)), (qa, .inl (cI, 46, .inl as)), (qe, .inl (cI, 276, .inl be)), (qs, .inl (cI, 92, .inl sl)), (qv, .inl (cZ, 2, .inl sv)), (qp, .inl (cI, 60, .inl pd)), (qn, .inl (cI, 36, .inl nd))] s.heap.size = A at hD ⊢
  have hA : ∀ q : Nat, s.heap.size ≤ q → A q := fun q h => by rw [← hAe]; exact Or.inr h
  have hS : va_S A s.heap s.heap [] := va_S.rf
  generalize hQ : MQ below (va_Qi (fun (r : Int32) (u : MS) => r = m_nextCast n0 z ∧ cor u = (z, be, sts, sl, sv, pd, len)) (fun (u : MS) t => va_P G vwCl [(qm, .inr (6, [.ref qz, .ref qa, .ref qe, .int (nI u.2.2.1), .ref qs, .ref qv, .ref qp, .int (nI u.2.2.2.2.2.2.1), .int u.2.2.2.2.2.2.2.2.1, .ref qn])), (qz, .inl (cI, 46, .inl u.1)), (qa, .inl (cI, 46, .inl u.2.2.2.2.2.2.2.1)), (qe, .inl (cI, 276, .inl u.2.1)), (qs, .inl (cI, 92, .inl u.2.2.2.1)), (qv, .inl (cZ, 2, .inl u.2.2.2.2.1)), (qp, .inl (cI, 60, .inl u.2.2.2.2.2.1)), (qn, .inl (cI, 36, .inl u.2.2.2.2.2.2.2.2.2))] t.heap ∧ va_D A [(qm, .inr (6, [.ref qz, .ref qa, .ref qe, .int (nI u.2.2.1), .ref qs, .ref qv, .ref qp, .int (nI u.2.2.2.2.2.2.1), .int u.2.2.2.2.2.2.2.2.1, .ref qn])), (qz, .inl (cI, 46, .inl u.1)), (qa, .inl (cI, 46, .inl u.2.2.2.2.2.2.2.1)), (qe, .inl (cI, 276, .inl u.2.1)), (qs, .inl (cI, 92, .inl u.2.2.2.1)), (qv, .inl (cZ, 2, .inl u.2.2.2.2.1)), (qp, .inl (cI, 60, .inl u.2.2.2.2.2.1)), (qn, .inl (cI, 36, .inl u.2.2.2.2.2.2.2.2.2))]) A) ([.ref qm, .int n0] : List Value).toArray s 0 0 A = Q
  generalize hag : ([.ref qm, .int n0] : List Value).toArray = ag at hts hQ ⊢
  refine lv_iload_n hx hb dX6_nextCast_0 rfl (lv_at hl 1 rfl) ?_
  refine lv_iconst (v := 0) hx hb dX6_nextCast_1 (by decide) ?_
  refine lv_bipush (v := 99) hx hb dX6_nextCast_2 (by decide) ?_
  refine vp_callSi (va_Run.run (va_runS (As := [.int n0, .int 0, .int 99]) (rest := []) ⟨hx, hb, hml, hown, hts⟩ (c_X6_in l n0 0 99) (cf_RX6_32 hts ⟨Nat.le_of_ble_eq_true rfl, Nat.le_of_ble_eq_true rfl⟩) pre_P rfl rfl hl.1 rfl (lv_room (Nat.le_of_ble_eq_true rfl)) dX6_nextCast_4 ⟨Nat.le_of_ble_eq_true rfl, Nat.le_of_ble_eq_true rfl⟩)) (fun r629 hr629 => ?_)
  subst hr629
  refine zb_ne (tgt := 13) hx hb dX6_nextCast_7 (by decide) (fun c_630 => ?_) (fun c_630 => ?_)
  · obtain ⟨j, hj0, hj, rfl⟩ := inQ_nI (lo := 0) (hi := 99) (by decide) (by decide) c_630
    refine lv_aload_n hx hb dX6_nextCast_13 rfl (lv_at hl 0 rfl) ?_
    refine va_get (D := G) (ci := 6) (v := .ref qz) (C := RX6) (T := TX6) (N := 10) hx hb hts inlX6 hown hK.1 hP 0 rfl rfl 0 (by decide) (hts _ wd78) (fun _ h9 => h9) rfl dX6_nextCast_14 ?_
    refine lv_bipush (v := 39) hx hb dX6_nextCast_17 (by decide) ?_
    refine za_ld hx hb hK.1 hP 1 0 rfl rfl 39 rfl (by decide) (by decide) dX6_nextCast_19 ?_
    refine lv_istore_n (lv' := [(2, .int (z 39)), (0, .ref qm), (1, .int (nI j))]) hx hb dX6_nextCast_20 rfl hl (by decide) rfl (fun ls hl => ?_)
    refine lv_iconst (v := 0) hx hb dX6_nextCast_21 (by decide) ?_
    refine lv_istore_n (lv' := [(3, .int 0), (2, .int (z 39)), (0, .ref qm), (1, .int (nI j))]) hx hb dX6_nextCast_22 rfl hl (by decide) rfl (fun ls hl => ?_)
    refine lv_iconst (v := 0) hx hb dX6_nextCast_23 (by decide) ?_
    refine lv_istore (lv' := [(4, .int 0), (3, .int 0), (2, .int (z 39)), (0, .ref qm), (1, .int (nI j))]) hx hb dX6_nextCast_24 hl (by decide) rfl (fun ls hl => ?_)
    have L1 : ∀ (n : Nat), ∀ (i : Nat), ∀ (zc : IA), ∀ (cc0 : Int32), ∀ (hi : i ≤ j + 1), ∀ (hf2 : zc = upd z 39 (xN (z 39) i)), ∀ (hf3 : cc0 = if i = 0 then 0 else co (xN (z 39) i)), ∀ (hn : j + 2 ≤ i + n), ∀ (H631 : Heap) (locs631 : List Loc), va_P G vwCl [(qm, .inr (6, [.ref qz, .ref qa, .ref qe, .int (nI sts), .ref qs, .ref qv, .ref qp, .int (nI len), .int go, .ref qn])), (qz, .inl (cI, 46, .inl zc)), (qa, .inl (cI, 46, .inl as)), (qe, .inl (cI, 276, .inl be)), (qs, .inl (cI, 92, .inl sl)), (qv, .inl (cZ, 2, .inl sv)), (qp, .inl (cI, 60, .inl pd)), (qn, .inl (cI, 36, .inl nd))] H631 → va_D A [(qm, .inr (6, [.ref qz, .ref qa, .ref qe, .int (nI sts), .ref qs, .ref qv, .ref qp, .int (nI len), .int go, .ref qn])), (qz, .inl (cI, 46, .inl zc)), (qa, .inl (cI, 46, .inl as)), (qe, .inl (cI, 276, .inl be)), (qs, .inl (cI, 92, .inl sl)), (qv, .inl (cZ, 2, .inl sv)), (qp, .inl (cI, 60, .inl pd)), (qn, .inl (cI, 36, .inl nd))] → va_S A s.heap H631 locs631 → ∀ (ls : Array Slot), lv_has ls 5 [(4, .int (nI i)), (3, .int cc0), (2, .int (z 39)), (0, .ref qm), (1, .int (nI j))] → W p l e rm_X6_nextCast s m ag below meth c H631 locs631 0 0 Q (F0 m 26 ls []) := by
      intro n
      induction n with
      | zero =>
        intro i zc cc0 hi hf2 hf3 hn H631 locs631 hP hD hS ls hl
        omega
      | succ n ih1 =>
        intro i zc cc0 hi hf2 hf3 hn H631 locs631 hP hD hS ls hl
        refine lv_iload hx hb dX6_nextCast_26 (lv_at hl 0 rfl) ?_
        refine lv_iload_n hx hb dX6_nextCast_28 rfl (lv_at hl 4 rfl) ?_
        refine zi_gt (tgt := 43) hx hb i j dX6_nextCast_29 (by decide) rfl rfl (by omega) (by omega) (fun c_632 => ?_) (fun c_632 => ?_)
        · refine lv_aload_n hx hb dX6_nextCast_43 rfl (lv_at hl 3 rfl) ?_
          refine va_get (D := G) (ci := 6) (v := .ref qz) (C := RX6) (T := TX6) (N := 10) hx hb hts inlX6 hown hK.1 hP 0 rfl rfl 0 (by decide) (hts _ wd78) (fun _ h9 => h9) rfl dX6_nextCast_44 ?_
          refine lv_bipush (v := 39) hx hb dX6_nextCast_47 (by decide) ?_
          refine lv_iload_n hx hb dX6_nextCast_49 rfl (lv_at hl 2 rfl) ?_
          refine za_st hx hb hK.1 hP hD hS 1 0 rfl rfl 39 rfl (by decide) (by decide) dX6_nextCast_50 (fun H633 locs633 hP hD hS => ?_)
          have hP : va_P G vwCl [(qm, .inr (6, [.ref qz, .ref qa, .ref qe, .int (nI sts), .ref qs, .ref qv, .ref qp, .int (nI len), .int go, .ref qn])), (qz, .inl (cI, 46, .inl (upd zc 39 (z 39)))), (qa, .inl (cI, 46, .inl as)), (qe, .inl (cI, 276, .inl be)), (qs, .inl (cI, 92, .inl sl)), (qv, .inl (cZ, 2, .inl sv)), (qp, .inl (cI, 60, .inl pd)), (qn, .inl (cI, 36, .inl nd))] H633 := hP
          have hD : va_D A [(qm, .inr (6, [.ref qz, .ref qa, .ref qe, .int (nI sts), .ref qs, .ref qv, .ref qp, .int (nI len), .int go, .ref qn])), (qz, .inl (cI, 46, .inl (upd zc 39 (z 39)))), (qa, .inl (cI, 46, .inl as)), (qe, .inl (cI, 276, .inl be)), (qs, .inl (cI, 92, .inl sl)), (qv, .inl (cZ, 2, .inl sv)), (qp, .inl (cI, 60, .inl pd)), (qn, .inl (cI, 36, .inl nd))] := hD
          refine lv_iload_n hx hb dX6_nextCast_51 rfl (lv_at hl 1 rfl) ?_
          subst hQ
          exact W.iret (v := cc0) hx hb hr (fun t ht hW => ⟨⟨cc0, (upd zc 39 (z 39), be, sts, sl, sv, pd, len, as, go, nd), rfl, ⟨by rw [m_nextCast, if_pos c_630, (show (nI j).toNatClampNeg = j from nI_clamp (by omega)), hf3, show j + 1 = i by omega, if_neg (by omega)], (cor_eq (by rw [hf2, upd_upd]; exact upd_self) rfl rfl rfl rfl rfl rfl)⟩, by rw [ht]; exact hP, hD⟩, hS.F ht⟩) hS.2.2 dX6_nextCast_52
        · refine lv_aload_n hx hb dX6_nextCast_32 rfl (lv_at hl 3 rfl) ?_
          have hPc : va_P G vwCl [(qm, .inr (6, [.ref qz, .ref qa, .ref qe, .int (nI sts), .ref qs, .ref qv, .ref qp, .int (nI len), .int go, .ref qn])), (qz, .inl (cI, 46, .inl zc)), (qa, .inl (cI, 46, .inl as)), (qe, .inl (cI, 276, .inl be)), (qs, .inl (cI, 92, .inl sl)), (qv, .inl (cZ, 2, .inl sv)), (qp, .inl (cI, 60, .inl pd)), (qn, .inl (cI, 36, .inl nd))] H631 := hP
          have hDc := hD.tt
          have hFc := va_free (wc := [(qm, .inr (6, [.ref qz, .ref qa, .ref qe, .int (nI sts), .ref qs, .ref qv, .ref qp, .int (nI len), .int go, .ref qn])), (qz, .inl (cI, 46, .inl zc)), (qa, .inl (cI, 46, .inl as)), (qe, .inl (cI, 276, .inl be)), (qs, .inl (cI, 92, .inl sl)), (qv, .inl (cZ, 2, .inl sv)), (qp, .inl (cI, 60, .inl pd)), (qn, .inl (cI, 36, .inl nd))]) hD hS hA [0, 1, 2, 3, 4, 5, 6, 7] rfl
          refine va_calli (va_runV (As := []) (rest := []) ⟨hx, hb, hml, hown, hts⟩ (c_X6_draw l G cI cC cZ cG H631.size qm qz qa qe qs qv qp qn zc as be sl sv pd nd sts len go) (cf_RX6_117 hts ⟨Nat.le_of_ble_eq_true rfl, Nat.le_of_ble_eq_true rfl⟩) (pre_V hK hPc hDc (ci := 6) (q0 := 0) rfl rfl) rfl rfl hl.1 rfl (lv_room (Nat.le_of_ble_eq_true rfl)) dX6_nextCast_33 ⟨Nat.le_of_ble_eq_true rfl, Nat.le_of_ble_eq_true rfl⟩) hS (fun q _ h => hFc q h) hFc (fun r634 u634 t634 H634 locs634 ht634 hvm634 hw634 hB634 hz634 hk634 hS => ?_)
          obtain ⟨q634, rfl⟩ : ∃ z, z = u634 := ⟨_, rfl⟩
          obtain ⟨hP1, hD1⟩ := hB634
          rw [ht634] at hP1
          try dsimp only at hw634
          obtain ⟨hr634, hw634⟩ := hw634
          subst hr634
          obtain ⟨hP, hD⟩ := va_join (wr := []) (w1 := [(qm, .inr (6, [.ref qz, .ref qa, .ref qe, .int (nI sts), .ref qs, .ref qv, .ref qp, .int (nI len), .int go, .ref qn])), (qz, .inl (cI, 46, .inl (drM zc))), (qa, .inl (cI, 46, .inl as)), (qe, .inl (cI, 276, .inl be)), (qs, .inl (cI, 92, .inl sl)), (qv, .inl (cZ, 2, .inl sv)), (qp, .inl (cI, 60, .inl pd)), (qn, .inl (cI, 36, .inl nd))]) hP hD [0, 1, 2, 3, 4, 5, 6, 7] [] rfl rfl (by decide) (by decide) hk634 hFc hP1 hD1
          have hP : va_P G vwCl [(qm, .inr (6, [.ref qz, .ref qa, .ref qe, .int (nI sts), .ref qs, .ref qv, .ref qp, .int (nI len), .int go, .ref qn])), (qz, .inl (cI, 46, .inl (drM zc))), (qa, .inl (cI, 46, .inl as)), (qe, .inl (cI, 276, .inl be)), (qs, .inl (cI, 92, .inl sl)), (qv, .inl (cZ, 2, .inl sv)), (qp, .inl (cI, 60, .inl pd)), (qn, .inl (cI, 36, .inl nd))] H634 := hP
          have hD : va_D A [(qm, .inr (6, [.ref qz, .ref qa, .ref qe, .int (nI sts), .ref qs, .ref qv, .ref qp, .int (nI len), .int go, .ref qn])), (qz, .inl (cI, 46, .inl (drM zc))), (qa, .inl (cI, 46, .inl as)), (qe, .inl (cI, 276, .inl be)), (qs, .inl (cI, 92, .inl sl)), (qv, .inl (cZ, 2, .inl sv)), (qp, .inl (cI, 60, .inl pd)), (qn, .inl (cI, 36, .inl nd))] := hD
          refine lv_istore_n (lv' := [(3, .int (co (nx (zc 39)))), (4, .int (nI i)), (2, .int (z 39)), (0, .ref qm), (1, .int (nI j))]) hx hb dX6_nextCast_36 rfl hl (by decide) rfl (fun ls hl => ?_)
          refine lv_iinc (v := nI (i + 1)) (lv' := [(4, .int (nI (i + 1))), (3, .int (co (nx (zc 39)))), (2, .int (z 39)), (0, .ref qm), (1, .int (nI j))]) hx hb dX6_nextCast_37 hl (k := 1) rfl (nI_inc i) (by decide) rfl (fun ls hl => ?_)
          refine lv_goto (tgt := 26) hx hb dX6_nextCast_40 (by decide) ?_
          exact ih1 (i + 1) (drM zc) (co (nx (zc 39))) (by omega) (by rw [hf2, drM, upd_eq, upd_upd, xN]) (by rw [hf2, upd_eq, if_neg (by omega), xN]) (by omega) H634 locs634 hP hD hS _ (lv_sub hl [0, 1, 2, 3, 4] rfl)
    exact L1 (j + 2) 0 z 0 (by omega) (by rw [xN]; exact upd_self.symm) rfl (by omega) s.heap [] hP hD hS _ (lv_sub hl [0, 1, 2, 3, 4] rfl)
  · refine lv_bipush (v := (-2)) hx hb dX6_nextCast_10 (by decide) ?_
    subst hQ
    exact W.iret (v := (-2)) hx hb hr (fun t ht hW => ⟨⟨(-2), (z, be, sts, sl, sv, pd, len, as, go, nd), rfl, ⟨by rw [m_nextCast, if_neg c_630], rfl⟩, by rw [ht]; exact hP, hD⟩, hS.F ht⟩) hS.2.2 dX6_nextCast_12

abbrev rm_X6_untilOver : Room := { frames := 9, cells := 0, slots := 0, locals := 211 }
theorem cf_RX6_167 {R : Room} {s : State} {args : Array Value} (ht : ∀ w ∈ wsL_law, w.before args s = true) (hR : rm_X6_putAside.frames + 1 ≤ R.frames ∧ 8 + (2 + 11) + rm_X6_putAside.locals ≤ R.locals) : CallW R s args RX6 RX6 167 yX6_putAside cX6_putAside 2 none (.code yX6_putAside cX6_putAside 2 none :: wsL_law) rm_X6_putAside 0 0 0 := ⟨cw_B 0 ht wd548 wd5 wd551 (by decide +kernel) rfl rfl hR, ht _ wd549, ht _ wd550⟩
theorem cf_RX6_170 {R : Room} {s : State} {args : Array Value} (ht : ∀ w ∈ wsL_law, w.before args s = true) (hR : rm_X6_putBack.frames + 1 ≤ R.frames ∧ 8 + (2 + 11) + rm_X6_putBack.locals ≤ R.locals) : CallW R s args RX6 RX6 170 yX6_putBack cX6_putBack 2 none (.code yX6_putBack cX6_putBack 2 none :: wsL_law) rm_X6_putBack 0 0 0 := ⟨cw_B 0 ht wd552 wd5 wd555 (by decide +kernel) rfl rfl hR, ht _ wd553, ht _ wd554⟩
set_option maxHeartbeats 1000000 in
set_option maxRecDepth 100000 in
theorem c_X6_untilOver (l : Launch) (G : va_G) (cI cC cZ cG : ClassId) (sz : Nat) (qm qz qa qe qs qv qp qn : Nat) (z as be sl sv pd nd : IA) (sts len : Nat) (go : Int32) (pl : Nat) (hz : ∀ k, k < 12 → okv (z k)) (hx0 : ¬ z 39 < 0) (hpl : pl < 4) (h40 : z 40 = nI pl) (h4c : okc (z 41)) (hst : sts ≤ 6) (hln : len ≤ 60) : Met l yX6_untilOver (.code yX6_untilOver cX6_untilOver 3 (some .int) :: wsL_law) rm_X6_untilOver (va_Pc [.ref qm] (bw G cI cC cZ cG false sz [(qm, .inr (6, [.ref qz, .ref qa, .ref qe, .int (nI sts), .ref qs, .ref qv, .ref qp, .int (nI len), .int go, .ref qn])), (qz, .inl (cI, 46, .inl z)), (qa, .inl (cI, 46, .inl as)), (qe, .inl (cI, 276, .inl be)), (qs, .inl (cI, 92, .inl sl)), (qv, .inl (cZ, 2, .inl sv)), (qp, .inl (cI, 60, .inl pd)), (qn, .inl (cI, 36, .inl nd))])) (va_Qi (fun (r : Int32) (u : MS) => r = m_untilOver z ∧ (∀ k, k < 46 → u.1 k = z k) ∧ cor u = (u.1, be, sts, sl, sv, pd, len)) (fun (u : MS) t => va_P G vwCl [(qm, .inr (6, [.ref qz, .ref qa, .ref qe, .int (nI u.2.2.1), .ref qs, .ref qv, .ref qp, .int (nI u.2.2.2.2.2.2.1), .int u.2.2.2.2.2.2.2.2.1, .ref qn])), (qz, .inl (cI, 46, .inl u.1)), (qa, .inl (cI, 46, .inl u.2.2.2.2.2.2.2.1)), (qe, .inl (cI, 276, .inl u.2.1)), (qs, .inl (cI, 92, .inl u.2.2.2.1)), (qv, .inl (cZ, 2, .inl u.2.2.2.2.1)), (qp, .inl (cI, 60, .inl u.2.2.2.2.2.1)), (qn, .inl (cI, 36, .inl u.2.2.2.2.2.2.2.2.2))] t.heap ∧ va_D (va_A [(qm, .inr (6, [.ref qz, .ref qa, .ref qe, .int (nI sts), .ref qs, .ref qv, .ref qp, .int (nI len), .int go, .ref qn])), (qz, .inl (cI, 46, .inl z)), (qa, .inl (cI, 46, .inl as)), (qe, .inl (cI, 276, .inl be)), (qs, .inl (cI, 92, .inl sl)), (qv, .inl (cZ, 2, .inl sv)), (qp, .inl (cI, 60, .inl pd)), (qn, .inl (cI, 36, .inl nd))] sz) [(qm, .inr (6, [.ref qz, .ref qa, .ref qe, .int (nI u.2.2.1), .ref qs, .ref qv, .ref qp, .int (nI u.2.2.2.2.2.2.1), .int u.2.2.2.2.2.2.2.2.1, .ref qn])), (qz, .inl (cI, 46, .inl u.1)), (qa, .inl (cI, 46, .inl u.2.2.2.2.2.2.2.1)), (qe, .inl (cI, 276, .inl u.2.1)), (qs, .inl (cI, 92, .inl u.2.2.2.1)), (qv, .inl (cZ, 2, .inl u.2.2.2.2.1)), (qp, .inl (cI, 60, .inl u.2.2.2.2.2.1)), (qn, .inl (cI, 36, .inl u.2.2.2.2.2.2.2.2.2))]) (va_A [(qm, .inr (6, [.ref qz, .ref qa, .ref qe, .int (nI sts), .ref qs, .ref qv, .ref qp, .int (nI len), .int go, .ref qn])), (qz, .inl (cI, 46, .inl z)), (qa, .inl (cI, 46, .inl as)), (qe, .inl (cI, 276, .inl be)), (qs, .inl (cI, 92, .inl sl)), (qv, .inl (cZ, 2, .inl sv)), (qp, .inl (cI, 60, .inl pd)), (qn, .inl (cI, 36, .inl nd))] sz)) 0 0 (va_A [(qm, .inr (6, [.ref qz, .ref qa, .ref qe, .int (nI sts), .ref qs, .ref qv, .ref qp, .int (nI len), .int go, .ref qn])), (qz, .inl (cI, 46, .inl z)), (qa, .inl (cI, 46, .inl as)), (qe, .inl (cI, 276, .inl be)), (qs, .inl (cI, 92, .inl sl)), (qv, .inl (cZ, 2, .inl sv)), (qp, .inl (cI, 60, .inl pd)), (qn, .inl (cI, 36, .inl nd))] sz) := by
  refine met_bw rfl (Nat.le_of_ble_eq_true rfl) ?_
  intro p e s m below meth c ls hx hb hr hml hown hts hlocks hin hsz hP hK hD0 hX0 hl
  have hown : s.vm.findClass RX6 = some m.cls := hown
  have hl : lv_has ls 3 [(0, .ref qm)] := hl
  subst hsz
  have hD := hD0.self (sz := s.heap.size)
  generalize hAe : va_A [(qm, .inr (6, [.ref qz, .ref qa, .ref qe, .int (nI sts), .ref qs, .ref qv, .ref qp, .int (nI len), .int go, .ref qn])), (qz, .inl (cI, 46, .inl z)), (qa, .inl (cI, 46, .inl as)), (qe, .inl (cI, 276, .inl be)), (qs, .inl (cI, 92, .inl sl)), (qv, .inl (cZ, 2, .inl sv)), (qp, .inl (cI, 60, .inl pd)), (qn, .inl (cI, 36, .inl nd))] s.heap.size = A at hD ⊢
  have hA : ∀ q : Nat, s.heap.size ≤ q → A q := fun q h => by rw [← hAe]; exact Or.inr h
  have hS : va_S A s.heap s.heap [] := va_S.rf
  refine lv_aload_n hx hb dX6_untilOver_0 rfl (lv_at hl 0 rfl) ?_
  have hPc : va_P G vwCl [(qm, .inr (6, [.ref qz, .ref qa, .ref qe, .int (nI sts), .ref qs, .ref qv, .ref qp, .int (nI len), .int go, .ref qn])), (qz, .inl (cI, 46, .inl z)), (qa, .inl (cI, 46, .inl as)), (qe, .inl (cI, 276, .inl be)), (qs, .inl (cI, 92, .inl sl)), (qv, .inl (cZ, 2, .inl sv)), (qp, .inl (cI, 60, .inl pd)), (qn, .inl (cI, 36, .inl nd))] s.heap := hP
  have hDc := hD.tt
  refine vp_callSi (va_Run.run (va_runV (As := []) (rest := []) ⟨hx, hb, hml, hown, hts⟩ (c_X6_hasCast l G cI cC cZ cG s.heap.size qm qz qa qe qs qv qp qn z as be sl sv pd nd sts len go) (cf_RX6_114 hts ⟨Nat.le_of_ble_eq_true rfl, Nat.le_of_ble_eq_true rfl⟩) (pre_V hK hPc hDc (ci := 6) (q0 := 0) rfl rfl) rfl rfl hl.1 rfl (lv_room (Nat.le_of_ble_eq_true rfl)) dX6_untilOver_1 ⟨Nat.le_of_ble_eq_true rfl, Nat.le_of_ble_eq_true rfl⟩)) (fun r635 hr635 => ?_)
  subst hr635
  refine zb_eq (tgt := 10) hx hb dX6_untilOver_4 (by decide) (fun c_636 => ?_) (fun c_636 => ?_)
  · refine lv_aload_n hx hb dX6_untilOver_10 rfl (lv_at hl 0 rfl) ?_
    have hPc : va_P G vwCl [(qm, .inr (6, [.ref qz, .ref qa, .ref qe, .int (nI sts), .ref qs, .ref qv, .ref qp, .int (nI len), .int go, .ref qn])), (qz, .inl (cI, 46, .inl z)), (qa, .inl (cI, 46, .inl as)), (qe, .inl (cI, 276, .inl be)), (qs, .inl (cI, 92, .inl sl)), (qv, .inl (cZ, 2, .inl sv)), (qp, .inl (cI, 60, .inl pd)), (qn, .inl (cI, 36, .inl nd))] s.heap := hP
    have hDc := hD.tt
    have hFc := va_free (wc := [(qm, .inr (6, [.ref qz, .ref qa, .ref qe, .int (nI sts), .ref qs, .ref qv, .ref qp, .int (nI len), .int go, .ref qn])), (qz, .inl (cI, 46, .inl z)), (qa, .inl (cI, 46, .inl as)), (qe, .inl (cI, 276, .inl be)), (qs, .inl (cI, 92, .inl sl)), (qv, .inl (cZ, 2, .inl sv)), (qp, .inl (cI, 60, .inl pd)), (qn, .inl (cI, 36, .inl nd))]) hD hS hA [0, 1, 2, 3, 4, 5, 6, 7] rfl
    refine va_callv (va_runV (As := []) (rest := []) ⟨hx, hb, hml, hown, hts⟩ (c_X6_putAside l G cI cC cZ cG s.heap.size qm qz qa qe qs qv qp qn z as be sl sv pd nd sts len go) (cf_RX6_167 hts ⟨Nat.le_of_ble_eq_true rfl, Nat.le_of_ble_eq_true rfl⟩) (pre_V hK hPc hDc (ci := 6) (q0 := 0) rfl rfl) rfl rfl hl.1 rfl (lv_room (Nat.le_of_ble_eq_true rfl)) dX6_untilOver_11 ⟨Nat.le_of_ble_eq_true rfl, Nat.le_of_ble_eq_true rfl⟩) hS (fun q _ h => hFc q h) hFc (fun u637 t637 H637 locs637 ht637 hvm637 hw637 hB637 hz637 hk637 hS => ?_)
    obtain ⟨as_637, rfl⟩ : ∃ z, z = u637 := ⟨_, rfl⟩
    obtain ⟨hP1, hD1⟩ := hB637
    rw [ht637] at hP1
    try dsimp only at hw637
    obtain ⟨hP, hD⟩ := va_join (wr := []) (w1 := [(qm, .inr (6, [.ref qz, .ref qa, .ref qe, .int (nI sts), .ref qs, .ref qv, .ref qp, .int (nI len), .int go, .ref qn])), (qz, .inl (cI, 46, .inl z)), (qa, .inl (cI, 46, .inl as_637)), (qe, .inl (cI, 276, .inl be)), (qs, .inl (cI, 92, .inl sl)), (qv, .inl (cZ, 2, .inl sv)), (qp, .inl (cI, 60, .inl pd)), (qn, .inl (cI, 36, .inl nd))]) hP hD [0, 1, 2, 3, 4, 5, 6, 7] [] rfl rfl (by decide) (by decide) hk637 hFc hP1 hD1
    have hP : va_P G vwCl [(qm, .inr (6, [.ref qz, .ref qa, .ref qe, .int (nI sts), .ref qs, .ref qv, .ref qp, .int (nI len), .int go, .ref qn])), (qz, .inl (cI, 46, .inl z)), (qa, .inl (cI, 46, .inl as_637)), (qe, .inl (cI, 276, .inl be)), (qs, .inl (cI, 92, .inl sl)), (qv, .inl (cZ, 2, .inl sv)), (qp, .inl (cI, 60, .inl pd)), (qn, .inl (cI, 36, .inl nd))] H637 := hP
    have hD : va_D A [(qm, .inr (6, [.ref qz, .ref qa, .ref qe, .int (nI sts), .ref qs, .ref qv, .ref qp, .int (nI len), .int go, .ref qn])), (qz, .inl (cI, 46, .inl z)), (qa, .inl (cI, 46, .inl as_637)), (qe, .inl (cI, 276, .inl be)), (qs, .inl (cI, 92, .inl sl)), (qv, .inl (cZ, 2, .inl sv)), (qp, .inl (cI, 60, .inl pd)), (qn, .inl (cI, 36, .inl nd))] := hD
    refine lv_aload_n hx hb dX6_untilOver_14 rfl (lv_at hl 0 rfl) ?_
    refine lv_sipush (v := 400) hx hb dX6_untilOver_15 (by decide) ?_
    have hPc : va_P G vwCl [(qm, .inr (6, [.ref qz, .ref qa, .ref qe, .int (nI sts), .ref qs, .ref qv, .ref qp, .int (nI len), .int go, .ref qn])), (qz, .inl (cI, 46, .inl z)), (qa, .inl (cI, 46, .inl as_637)), (qe, .inl (cI, 276, .inl be)), (qs, .inl (cI, 92, .inl sl)), (qv, .inl (cZ, 2, .inl sv)), (qp, .inl (cI, 60, .inl pd)), (qn, .inl (cI, 36, .inl nd))] H637 := hP
    have hDc := hD.tt
    have hFc := va_free (wc := [(qm, .inr (6, [.ref qz, .ref qa, .ref qe, .int (nI sts), .ref qs, .ref qv, .ref qp, .int (nI len), .int go, .ref qn])), (qz, .inl (cI, 46, .inl z)), (qa, .inl (cI, 46, .inl as_637)), (qe, .inl (cI, 276, .inl be)), (qs, .inl (cI, 92, .inl sl)), (qv, .inl (cZ, 2, .inl sv)), (qp, .inl (cI, 60, .inl pd)), (qn, .inl (cI, 36, .inl nd))]) hD hS hA [0, 1, 2, 3, 4, 5, 6, 7] rfl
    refine va_calli (va_runV (As := [.int 400]) (rest := []) ⟨hx, hb, hml, hown, hts⟩ (c_X6_doPlay l G cI cC cZ cG H637.size qm qz qa qe qs qv qp qn z as_637 be sl sv pd nd sts len go 400 (⟨hz, hx0, pl, hpl, h40⟩) (by decide)) (cf_RX6_137 hts ⟨Nat.le_of_ble_eq_true rfl, Nat.le_of_ble_eq_true rfl⟩) (pre_V hK hPc hDc (ci := 6) (q0 := 0) rfl rfl) rfl rfl hl.1 rfl (lv_room (Nat.le_of_ble_eq_true rfl)) dX6_untilOver_18 ⟨Nat.le_of_ble_eq_true rfl, Nat.le_of_ble_eq_true rfl⟩) hS (fun q _ h => hFc q h) hFc (fun r638 u638 t638 H638 locs638 ht638 hvm638 hw638 hB638 hz638 hk638 hS => ?_)
    obtain ⟨z638, go638⟩ := u638
    obtain ⟨hP1, hD1⟩ := hB638
    rw [ht638] at hP1
    try dsimp only at hw638
    obtain ⟨hr638, hw638⟩ := hw638
    subst hr638
    obtain ⟨hP, hD⟩ := va_join (wr := []) (w1 := [(qm, .inr (6, [.ref qz, .ref qa, .ref qe, .int (nI sts), .ref qs, .ref qv, .ref qp, .int (nI len), .int go638, .ref qn])), (qz, .inl (cI, 46, .inl z638)), (qa, .inl (cI, 46, .inl as_637)), (qe, .inl (cI, 276, .inl be)), (qs, .inl (cI, 92, .inl sl)), (qv, .inl (cZ, 2, .inl sv)), (qp, .inl (cI, 60, .inl pd)), (qn, .inl (cI, 36, .inl nd))]) hP hD [0, 1, 2, 3, 4, 5, 6, 7] [] rfl rfl (by decide) (by decide) hk638 hFc hP1 hD1
    have hP : va_P G vwCl [(qm, .inr (6, [.ref qz, .ref qa, .ref qe, .int (nI sts), .ref qs, .ref qv, .ref qp, .int (nI len), .int go638, .ref qn])), (qz, .inl (cI, 46, .inl z638)), (qa, .inl (cI, 46, .inl as_637)), (qe, .inl (cI, 276, .inl be)), (qs, .inl (cI, 92, .inl sl)), (qv, .inl (cZ, 2, .inl sv)), (qp, .inl (cI, 60, .inl pd)), (qn, .inl (cI, 36, .inl nd))] H638 := hP
    have hD : va_D A [(qm, .inr (6, [.ref qz, .ref qa, .ref qe, .int (nI sts), .ref qs, .ref qv, .ref qp, .int (nI len), .int go638, .ref qn])), (qz, .inl (cI, 46, .inl z638)), (qa, .inl (cI, 46, .inl as_637)), (qe, .inl (cI, 276, .inl be)), (qs, .inl (cI, 92, .inl sl)), (qv, .inl (cZ, 2, .inl sv)), (qp, .inl (cI, 60, .inl pd)), (qn, .inl (cI, 36, .inl nd))] := hD
    have eplay := hw638
    refine lv_istore_n (lv' := [(1, .int (nI ((pgM 400 z).2))), (0, .ref qm)]) hx hb dX6_untilOver_21 rfl hl (by decide) rfl (fun ls hl => ?_)
    refine lv_aload_n hx hb dX6_untilOver_22 rfl (lv_at hl 1 rfl) ?_
    have hPc : va_P G vwCl [(qm, .inr (6, [.ref qz, .ref qa, .ref qe, .int (nI sts), .ref qs, .ref qv, .ref qp, .int (nI len), .int go638, .ref qn])), (qz, .inl (cI, 46, .inl z638)), (qa, .inl (cI, 46, .inl as_637)), (qe, .inl (cI, 276, .inl be)), (qs, .inl (cI, 92, .inl sl)), (qv, .inl (cZ, 2, .inl sv)), (qp, .inl (cI, 60, .inl pd)), (qn, .inl (cI, 36, .inl nd))] H638 := hP
    have hDc := hD.tt
    refine vp_callSi (va_Run.run (va_runV (As := []) (rest := []) ⟨hx, hb, hml, hown, hts⟩ (c_X6_isOver l G cI cC cZ cG H638.size qm qz qa qe qs qv qp qn z638 as_637 be sl sv pd nd sts len go638) (cf_RX6_97 hts ⟨Nat.le_of_ble_eq_true rfl, Nat.le_of_ble_eq_true rfl⟩) (pre_V hK hPc hDc (ci := 6) (q0 := 0) rfl rfl) rfl rfl hl.1 rfl (lv_room (Nat.le_of_ble_eq_true rfl)) dX6_untilOver_23 ⟨Nat.le_of_ble_eq_true rfl, Nat.le_of_ble_eq_true rfl⟩)) (fun r639 hr639 => ?_)
    subst hr639
    refine lv_istore_n (lv' := [(2, .int (bz (¬ mwi z638 < 0))), (1, .int (nI ((pgM 400 z).2))), (0, .ref qm)]) hx hb dX6_untilOver_26 rfl hl (by decide) rfl (fun ls hl => ?_)
    refine lv_aload_n hx hb dX6_untilOver_27 rfl (lv_at hl 2 rfl) ?_
    have hPc : va_P G vwCl [(qm, .inr (6, [.ref qz, .ref qa, .ref qe, .int (nI sts), .ref qs, .ref qv, .ref qp, .int (nI len), .int go638, .ref qn])), (qz, .inl (cI, 46, .inl z638)), (qa, .inl (cI, 46, .inl as_637)), (qe, .inl (cI, 276, .inl be)), (qs, .inl (cI, 92, .inl sl)), (qv, .inl (cZ, 2, .inl sv)), (qp, .inl (cI, 60, .inl pd)), (qn, .inl (cI, 36, .inl nd))] H638 := hP
    have hDc := hD.tt
    have hFc := va_free (wc := [(qm, .inr (6, [.ref qz, .ref qa, .ref qe, .int (nI sts), .ref qs, .ref qv, .ref qp, .int (nI len), .int go638, .ref qn])), (qz, .inl (cI, 46, .inl z638)), (qa, .inl (cI, 46, .inl as_637)), (qe, .inl (cI, 276, .inl be)), (qs, .inl (cI, 92, .inl sl)), (qv, .inl (cZ, 2, .inl sv)), (qp, .inl (cI, 60, .inl pd)), (qn, .inl (cI, 36, .inl nd))]) hD hS hA [0, 1, 2, 3, 4, 5, 6, 7] rfl
    refine va_callv (va_runV (As := []) (rest := []) ⟨hx, hb, hml, hown, hts⟩ (c_X6_putBack l G cI cC cZ cG H638.size qm qz qa qe qs qv qp qn z638 as_637 be sl sv pd nd sts len go638) (cf_RX6_170 hts ⟨Nat.le_of_ble_eq_true rfl, Nat.le_of_ble_eq_true rfl⟩) (pre_V hK hPc hDc (ci := 6) (q0 := 0) rfl rfl) rfl rfl hl.1 rfl (lv_room (Nat.le_of_ble_eq_true rfl)) dX6_untilOver_28 ⟨Nat.le_of_ble_eq_true rfl, Nat.le_of_ble_eq_true rfl⟩) hS (fun q _ h => hFc q h) hFc (fun u640 t640 H640 locs640 ht640 hvm640 hw640 hB640 hz640 hk640 hS => ?_)
    obtain ⟨z640, rfl⟩ : ∃ z, z = u640 := ⟨_, rfl⟩
    obtain ⟨hP1, hD1⟩ := hB640
    rw [ht640] at hP1
    try dsimp only at hw640
    obtain ⟨hP, hD⟩ := va_join (wr := []) (w1 := [(qm, .inr (6, [.ref qz, .ref qa, .ref qe, .int (nI sts), .ref qs, .ref qv, .ref qp, .int (nI len), .int go638, .ref qn])), (qz, .inl (cI, 46, .inl z640)), (qa, .inl (cI, 46, .inl as_637)), (qe, .inl (cI, 276, .inl be)), (qs, .inl (cI, 92, .inl sl)), (qv, .inl (cZ, 2, .inl sv)), (qp, .inl (cI, 60, .inl pd)), (qn, .inl (cI, 36, .inl nd))]) hP hD [0, 1, 2, 3, 4, 5, 6, 7] [] rfl rfl (by decide) (by decide) hk640 hFc hP1 hD1
    have hP : va_P G vwCl [(qm, .inr (6, [.ref qz, .ref qa, .ref qe, .int (nI sts), .ref qs, .ref qv, .ref qp, .int (nI len), .int go638, .ref qn])), (qz, .inl (cI, 46, .inl z640)), (qa, .inl (cI, 46, .inl as_637)), (qe, .inl (cI, 276, .inl be)), (qs, .inl (cI, 92, .inl sl)), (qv, .inl (cZ, 2, .inl sv)), (qp, .inl (cI, 60, .inl pd)), (qn, .inl (cI, 36, .inl nd))] H640 := hP
    have hD : va_D A [(qm, .inr (6, [.ref qz, .ref qa, .ref qe, .int (nI sts), .ref qs, .ref qv, .ref qp, .int (nI len), .int go638, .ref qn])), (qz, .inl (cI, 46, .inl z640)), (qa, .inl (cI, 46, .inl as_637)), (qe, .inl (cI, 276, .inl be)), (qs, .inl (cI, 92, .inl sl)), (qv, .inl (cZ, 2, .inl sv)), (qp, .inl (cI, 60, .inl pd)), (qn, .inl (cI, 36, .inl nd))] := hD
    refine lv_iload_n hx hb dX6_untilOver_31 rfl (lv_at hl 0 rfl) ?_
    refine zb_eq (tgt := 39) hx hb dX6_untilOver_32 (by decide) (fun c_641 => ?_) (fun c_641 => ?_)
    · refine lv_bipush (v := (-6)) hx hb dX6_untilOver_39 (by decide) ?_
      exact W.iret (v := (-6)) hx hb hr (fun t ht hW => ⟨⟨(-6), (z640, be, sts, sl, sv, pd, len, as_637, go638, nd), rfl, ⟨by rw [m_untilOver, if_neg c_636, if_neg (by rw [← eplay]; exact c_641)], ⟨fun k hk => (congrFun hw640 k).trans ((cpz_in hk).trans ((congrFun hw637 k).trans (cpz_in hk))), rfl⟩⟩, by rw [ht]; exact hP, hD⟩, hS.F ht⟩) hS.2.2 dX6_untilOver_41
    · refine lv_iload_n hx hb dX6_untilOver_35 rfl (lv_at hl 1 rfl) ?_
      refine lv_goto (tgt := 41) hx hb dX6_untilOver_36 (by decide) ?_
      exact W.iret (v := nI ((pgM 400 z).2)) hx hb hr (fun t ht hW => ⟨⟨nI ((pgM 400 z).2), (z640, be, sts, sl, sv, pd, len, as_637, go638, nd), rfl, ⟨by rw [m_untilOver, if_neg c_636, if_pos (by rw [← eplay]; exact c_641)], ⟨fun k hk => (congrFun hw640 k).trans ((cpz_in hk).trans ((congrFun hw637 k).trans (cpz_in hk))), rfl⟩⟩, by rw [ht]; exact hP, hD⟩, hS.F ht⟩) hS.2.2 dX6_untilOver_41
  · refine lv_bipush (v := (-5)) hx hb dX6_untilOver_7 (by decide) ?_
    exact W.iret (v := (-5)) hx hb hr (fun t ht hW => ⟨⟨(-5), (z, be, sts, sl, sv, pd, len, as, go, nd), rfl, ⟨by rw [m_untilOver, if_pos c_636], ⟨fun _ _ => rfl, rfl⟩⟩, by rw [ht]; exact hP, hD⟩, hS.F ht⟩) hS.2.2 dX6_untilOver_9

abbrev rm_X6_wipe : Room := { frames := 0, cells := 0, slots := 0, locals := 0 }
set_option maxHeartbeats 1000000 in
set_option maxRecDepth 100000 in
theorem c_X6_wipe (l : Launch) (G : va_G) (cI cC cZ cG : ClassId) (sz : Nat) (qm qz qa qe qs qv qp qn : Nat) (z as be sl sv pd nd : IA) (sts len : Nat) (go : Int32) (pl : Nat) (hz : ∀ k, k < 12 → okv (z k)) (hx0 : ¬ z 39 < 0) (hpl : pl < 4) (h40 : z 40 = nI pl) (h4c : okc (z 41)) (hst : sts ≤ 6) (hln : len ≤ 60) : Met l yX6_wipe (.code yX6_wipe cX6_wipe 2 (some .int) :: wsL_law) rm_X6_wipe (va_Pc [.ref qm] (bw G cI cC cZ cG false sz [(qm, .inr (6, [.ref qz, .ref qa, .ref qe, .int (nI sts), .ref qs, .ref qv, .ref qp, .int (nI len), .int go, .ref qn])), (qz, .inl (cI, 46, .inl z)), (qa, .inl (cI, 46, .inl as)), (qe, .inl (cI, 276, .inl be)), (qs, .inl (cI, 92, .inl sl)), (qv, .inl (cZ, 2, .inl sv)), (qp, .inl (cI, 60, .inl pd)), (qn, .inl (cI, 36, .inl nd))])) (va_Qi (fun (r : Int32) (u : MS) => r = (m_wipe (z, be, sts, sl, sv, pd, len)).1 ∧ cor u = (m_wipe (z, be, sts, sl, sv, pd, len)).2) (fun (u : MS) t => va_P G vwCl [(qm, .inr (6, [.ref qz, .ref qa, .ref qe, .int (nI u.2.2.1), .ref qs, .ref qv, .ref qp, .int (nI u.2.2.2.2.2.2.1), .int u.2.2.2.2.2.2.2.2.1, .ref qn])), (qz, .inl (cI, 46, .inl u.1)), (qa, .inl (cI, 46, .inl u.2.2.2.2.2.2.2.1)), (qe, .inl (cI, 276, .inl u.2.1)), (qs, .inl (cI, 92, .inl u.2.2.2.1)), (qv, .inl (cZ, 2, .inl u.2.2.2.2.1)), (qp, .inl (cI, 60, .inl u.2.2.2.2.2.1)), (qn, .inl (cI, 36, .inl u.2.2.2.2.2.2.2.2.2))] t.heap ∧ va_D (va_A [(qm, .inr (6, [.ref qz, .ref qa, .ref qe, .int (nI sts), .ref qs, .ref qv, .ref qp, .int (nI len), .int go, .ref qn])), (qz, .inl (cI, 46, .inl z)), (qa, .inl (cI, 46, .inl as)), (qe, .inl (cI, 276, .inl be)), (qs, .inl (cI, 92, .inl sl)), (qv, .inl (cZ, 2, .inl sv)), (qp, .inl (cI, 60, .inl pd)), (qn, .inl (cI, 36, .inl nd))] sz) [(qm, .inr (6, [.ref qz, .ref qa, .ref qe, .int (nI u.2.2.1), .ref qs, .ref qv, .ref qp, .int (nI u.2.2.2.2.2.2.1), .int u.2.2.2.2.2.2.2.2.1, .ref qn])), (qz, .inl (cI, 46, .inl u.1)), (qa, .inl (cI, 46, .inl u.2.2.2.2.2.2.2.1)), (qe, .inl (cI, 276, .inl u.2.1)), (qs, .inl (cI, 92, .inl u.2.2.2.1)), (qv, .inl (cZ, 2, .inl u.2.2.2.2.1)), (qp, .inl (cI, 60, .inl u.2.2.2.2.2.1)), (qn, .inl (cI, 36, .inl u.2.2.2.2.2.2.2.2.2))]) (va_A [(qm, .inr (6, [.ref qz, .ref qa, .ref qe, .int (nI sts), .ref qs, .ref qv, .ref qp, .int (nI len), .int go, .ref qn])), (qz, .inl (cI, 46, .inl z)), (qa, .inl (cI, 46, .inl as)), (qe, .inl (cI, 276, .inl be)), (qs, .inl (cI, 92, .inl sl)), (qv, .inl (cZ, 2, .inl sv)), (qp, .inl (cI, 60, .inl pd)), (qn, .inl (cI, 36, .inl nd))] sz)) 0 0 (va_A [(qm, .inr (6, [.ref qz, .ref qa, .ref qe, .int (nI sts), .ref qs, .ref qv, .ref qp, .int (nI len), .int go, .ref qn])), (qz, .inl (cI, 46, .inl z)), (qa, .inl (cI, 46, .inl as)), (qe, .inl (cI, 276, .inl be)), (qs, .inl (cI, 92, .inl sl)), (qv, .inl (cZ, 2, .inl sv)), (qp, .inl (cI, 60, .inl pd)), (qn, .inl (cI, 36, .inl nd))] sz) := by
  refine met_bw rfl (Nat.le_of_ble_eq_true rfl) ?_
  intro p e s m below meth c ls hx hb hr hml hown hts hlocks hin hsz hP hK hD0 hX0 hl
  have hown : s.vm.findClass RX6 = some m.cls := hown
  have hl : lv_has ls 2 [(0, .ref qm)] := hl
  subst hsz
  have hD := hD0.self (sz := s.heap.size)
  generalize hAe : va_A [(qm, .inr (6, [.ref qz, .ref qa, .ref qe, .int (nI sts), .ref qs, .ref qv, .ref qp, .int (nI len), .int go, .ref qn])), (qz, .inl (cI, 46, .inl z)), (qa, .inl (cI, 46, .inl as)), (qe, .inl (cI, 276, .inl be)), (qs, .inl (cI, 92, .inl sl)), (qv, .inl (cZ, 2, .inl sv)), (qp, .inl (cI, 60, .inl pd)), (qn, .inl (cI, 36, .inl nd))] s.heap.size = A at hD ⊢
  have hA : ∀ q : Nat, s.heap.size ≤ q → A q := fun q h => by rw [← hAe]; exact Or.inr h
  have hS : va_S A s.heap s.heap [] := va_S.rf
  refine lv_aload_n hx hb dX6_wipe_0 rfl (lv_at hl 0 rfl) ?_
  refine va_get (D := G) (ci := 6) (v := .int (nI len)) (C := RX6) (T := TX6) (N := 10) hx hb hts inlX6 hown hK.1 hP 0 rfl rfl 7 (by decide) (hts _ wd406) (fun _ h9 => h9) rfl dX6_wipe_1 ?_
  refine lv_istore_n (lv' := [(1, .int (nI len)), (0, .ref qm)]) hx hb dX6_wipe_4 rfl hl (by decide) rfl (fun ls hl => ?_)
  refine lv_aload_n hx hb dX6_wipe_5 rfl (lv_at hl 1 rfl) ?_
  refine lv_iconst (v := 0) hx hb dX6_wipe_6 (by decide) ?_
  refine va_put (D := G) (ci := 6) (v := .int 0) (ty := .int) (C := RX6) (T := TX6) (N := 10) hx hb hts inlX6 tyX6 tyX6_ok nmX6 hown hK.1 hP hD hS 0 rfl rfl 7 (by decide) (hts _ wd406) (fun _ h9 => h9) rfl (by decide +kernel) rfl rfl (Nat.le_of_ble_eq_true rfl) dX6_wipe_7 (fun H642 locs642 hP hD hS => ?_)
  have hP : va_P G vwCl [(qm, .inr (6, [.ref qz, .ref qa, .ref qe, .int (nI sts), .ref qs, .ref qv, .ref qp, .int 0, .int go, .ref qn])), (qz, .inl (cI, 46, .inl z)), (qa, .inl (cI, 46, .inl as)), (qe, .inl (cI, 276, .inl be)), (qs, .inl (cI, 92, .inl sl)), (qv, .inl (cZ, 2, .inl sv)), (qp, .inl (cI, 60, .inl pd)), (qn, .inl (cI, 36, .inl nd))] H642 := hP
  have hD : va_D A [(qm, .inr (6, [.ref qz, .ref qa, .ref qe, .int (nI sts), .ref qs, .ref qv, .ref qp, .int 0, .int go, .ref qn])), (qz, .inl (cI, 46, .inl z)), (qa, .inl (cI, 46, .inl as)), (qe, .inl (cI, 276, .inl be)), (qs, .inl (cI, 92, .inl sl)), (qv, .inl (cZ, 2, .inl sv)), (qp, .inl (cI, 60, .inl pd)), (qn, .inl (cI, 36, .inl nd))] := hD
  refine lv_iload_n hx hb dX6_wipe_10 rfl (lv_at hl 0 rfl) ?_
  exact W.iret (v := nI len) hx hb hr (fun t ht hW => ⟨⟨nI len, (z, be, sts, sl, sv, pd, 0, as, go, nd), rfl, ⟨rfl, rfl⟩, by rw [ht]; exact hP, hD⟩, hS.F ht⟩) hS.2.2 dX6_wipe_11

abbrev rm_X6_undo : Room := { frames := 0, cells := 0, slots := 0, locals := 0 }
set_option maxHeartbeats 1000000 in
set_option maxRecDepth 100000 in
theorem c_X6_undo (l : Launch) (G : va_G) (cI cC cZ cG : ClassId) (sz : Nat) (qm qz qa qe qs qv qp qn : Nat) (z as be sl sv pd nd : IA) (sts len : Nat) (go : Int32) (pl : Nat) (hz : ∀ k, k < 12 → okv (z k)) (hx0 : ¬ z 39 < 0) (hpl : pl < 4) (h40 : z 40 = nI pl) (h4c : okc (z 41)) (hst : sts ≤ 6) (hln : len ≤ 60) : Met l yX6_undo (.code yX6_undo cX6_undo 2 (some .int) :: wsL_law) rm_X6_undo (va_Pc [.ref qm] (bw G cI cC cZ cG false sz [(qm, .inr (6, [.ref qz, .ref qa, .ref qe, .int (nI sts), .ref qs, .ref qv, .ref qp, .int (nI len), .int go, .ref qn])), (qz, .inl (cI, 46, .inl z)), (qa, .inl (cI, 46, .inl as)), (qe, .inl (cI, 276, .inl be)), (qs, .inl (cI, 92, .inl sl)), (qv, .inl (cZ, 2, .inl sv)), (qp, .inl (cI, 60, .inl pd)), (qn, .inl (cI, 36, .inl nd))])) (va_Qi (fun (r : Int32) (u : MS) => r = (m_undo (z, be, sts, sl, sv, pd, len)).1 ∧ cor u = (m_undo (z, be, sts, sl, sv, pd, len)).2) (fun (u : MS) t => va_P G vwCl [(qm, .inr (6, [.ref qz, .ref qa, .ref qe, .int (nI u.2.2.1), .ref qs, .ref qv, .ref qp, .int (nI u.2.2.2.2.2.2.1), .int u.2.2.2.2.2.2.2.2.1, .ref qn])), (qz, .inl (cI, 46, .inl u.1)), (qa, .inl (cI, 46, .inl u.2.2.2.2.2.2.2.1)), (qe, .inl (cI, 276, .inl u.2.1)), (qs, .inl (cI, 92, .inl u.2.2.2.1)), (qv, .inl (cZ, 2, .inl u.2.2.2.2.1)), (qp, .inl (cI, 60, .inl u.2.2.2.2.2.1)), (qn, .inl (cI, 36, .inl u.2.2.2.2.2.2.2.2.2))] t.heap ∧ va_D (va_A [(qm, .inr (6, [.ref qz, .ref qa, .ref qe, .int (nI sts), .ref qs, .ref qv, .ref qp, .int (nI len), .int go, .ref qn])), (qz, .inl (cI, 46, .inl z)), (qa, .inl (cI, 46, .inl as)), (qe, .inl (cI, 276, .inl be)), (qs, .inl (cI, 92, .inl sl)), (qv, .inl (cZ, 2, .inl sv)), (qp, .inl (cI, 60, .inl pd)), (qn, .inl (cI, 36, .inl nd))] sz) [(qm, .inr (6, [.ref qz, .ref qa, .ref qe, .int (nI u.2.2.1), .ref qs, .ref qv, .ref qp, .int (nI u.2.2.2.2.2.2.1), .int u.2.2.2.2.2.2.2.2.1, .ref qn])), (qz, .inl (cI, 46, .inl u.1)), (qa, .inl (cI, 46, .inl u.2.2.2.2.2.2.2.1)), (qe, .inl (cI, 276, .inl u.2.1)), (qs, .inl (cI, 92, .inl u.2.2.2.1)), (qv, .inl (cZ, 2, .inl u.2.2.2.2.1)), (qp, .inl (cI, 60, .inl u.2.2.2.2.2.1)), (qn, .inl (cI, 36, .inl u.2.2.2.2.2.2.2.2.2))]) (va_A [(qm, .inr (6, [.ref qz, .ref qa, .ref qe, .int (nI sts), .ref qs, .ref qv, .ref qp, .int (nI len), .int go, .ref qn])), (qz, .inl (cI, 46, .inl z)), (qa, .inl (cI, 46, .inl as)), (qe, .inl (cI, 276, .inl be)), (qs, .inl (cI, 92, .inl sl)), (qv, .inl (cZ, 2, .inl sv)), (qp, .inl (cI, 60, .inl pd)), (qn, .inl (cI, 36, .inl nd))] sz)) 0 0 (va_A [(qm, .inr (6, [.ref qz, .ref qa, .ref qe, .int (nI sts), .ref qs, .ref qv, .ref qp, .int (nI len), .int go, .ref qn])), (qz, .inl (cI, 46, .inl z)), (qa, .inl (cI, 46, .inl as)), (qe, .inl (cI, 276, .inl be)), (qs, .inl (cI, 92, .inl sl)), (qv, .inl (cZ, 2, .inl sv)), (qp, .inl (cI, 60, .inl pd)), (qn, .inl (cI, 36, .inl nd))] sz) := by
  refine met_bw rfl (Nat.le_of_ble_eq_true rfl) ?_
  intro p e s m below meth c ls hx hb hr hml hown hts hlocks hin hsz hP hK hD0 hX0 hl
  have hown : s.vm.findClass RX6 = some m.cls := hown
  have hl : lv_has ls 2 [(0, .ref qm)] := hl
  subst hsz
  have hD := hD0.self (sz := s.heap.size)
  generalize hAe : va_A [(qm, .inr (6, [.ref qz, .ref qa, .ref qe, .int (nI sts), .ref qs, .ref qv, .ref qp, .int (nI len), .int go, .ref qn])), (qz, .inl (cI, 46, .inl z)), (qa, .inl (cI, 46, .inl as)), (qe, .inl (cI, 276, .inl be)), (qs, .inl (cI, 92, .inl sl)), (qv, .inl (cZ, 2, .inl sv)), (qp, .inl (cI, 60, .inl pd)), (qn, .inl (cI, 36, .inl nd))] s.heap.size = A at hD ⊢
  have hA : ∀ q : Nat, s.heap.size ≤ q → A q := fun q h => by rw [← hAe]; exact Or.inr h
  have hS : va_S A s.heap s.heap [] := va_S.rf
  generalize hQ : MQ below (va_Qi (fun (r : Int32) (u : MS) => r = (m_undo (z, be, sts, sl, sv, pd, len)).1 ∧ cor u = (m_undo (z, be, sts, sl, sv, pd, len)).2) (fun (u : MS) t => va_P G vwCl [(qm, .inr (6, [.ref qz, .ref qa, .ref qe, .int (nI u.2.2.1), .ref qs, .ref qv, .ref qp, .int (nI u.2.2.2.2.2.2.1), .int u.2.2.2.2.2.2.2.2.1, .ref qn])), (qz, .inl (cI, 46, .inl u.1)), (qa, .inl (cI, 46, .inl u.2.2.2.2.2.2.2.1)), (qe, .inl (cI, 276, .inl u.2.1)), (qs, .inl (cI, 92, .inl u.2.2.2.1)), (qv, .inl (cZ, 2, .inl u.2.2.2.2.1)), (qp, .inl (cI, 60, .inl u.2.2.2.2.2.1)), (qn, .inl (cI, 36, .inl u.2.2.2.2.2.2.2.2.2))] t.heap ∧ va_D A [(qm, .inr (6, [.ref qz, .ref qa, .ref qe, .int (nI u.2.2.1), .ref qs, .ref qv, .ref qp, .int (nI u.2.2.2.2.2.2.1), .int u.2.2.2.2.2.2.2.2.1, .ref qn])), (qz, .inl (cI, 46, .inl u.1)), (qa, .inl (cI, 46, .inl u.2.2.2.2.2.2.2.1)), (qe, .inl (cI, 276, .inl u.2.1)), (qs, .inl (cI, 92, .inl u.2.2.2.1)), (qv, .inl (cZ, 2, .inl u.2.2.2.2.1)), (qp, .inl (cI, 60, .inl u.2.2.2.2.2.1)), (qn, .inl (cI, 36, .inl u.2.2.2.2.2.2.2.2.2))]) A) ([.ref qm] : List Value).toArray s 0 0 A = Q
  generalize hag : ([.ref qm] : List Value).toArray = ag at hts hQ ⊢
  refine lv_aload_n hx hb dX6_undo_0 rfl (lv_at hl 0 rfl) ?_
  refine va_get (D := G) (ci := 6) (v := .int (nI sts)) (C := RX6) (T := TX6) (N := 10) hx hb hts inlX6 hown hK.1 hP 0 rfl rfl 3 (by decide) (hts _ wd123) (fun _ h9 => h9) rfl dX6_undo_1 ?_
  refine z0_ne (tgt := 10) hx hb sts dX6_undo_4 (by decide) rfl (by omega) (fun c_643 => ?_) (fun c_643 => ?_)
  · refine lv_aload_n hx hb dX6_undo_10 rfl (lv_at hl 0 rfl) ?_
    refine lv_dup hx hb dX6_undo_11 rfl ?_
    refine va_get (D := G) (ci := 6) (v := .int (nI sts)) (C := RX6) (T := TX6) (N := 10) hx hb hts inlX6 hown hK.1 hP 0 rfl rfl 3 (by decide) (hts _ wd123) (fun _ h9 => h9) rfl dX6_undo_12 ?_
    refine lv_iconst (v := 1) hx hb dX6_undo_15 (by decide) ?_
    refine zi_sub hx hb sts 1 dX6_undo_16 rfl rfl (by omega) ?_
    refine va_put (D := G) (ci := 6) (v := .int (nI (sts - 1))) (ty := .int) (C := RX6) (T := TX6) (N := 10) hx hb hts inlX6 tyX6 tyX6_ok nmX6 hown hK.1 hP hD hS 0 rfl rfl 3 (by decide) (hts _ wd123) (fun _ h9 => h9) rfl (by decide +kernel) rfl rfl (Nat.le_of_ble_eq_true rfl) dX6_undo_17 (fun H644 locs644 hP hD hS => ?_)
    have hP : va_P G vwCl [(qm, .inr (6, [.ref qz, .ref qa, .ref qe, .int (nI (sts - 1)), .ref qs, .ref qv, .ref qp, .int (nI len), .int go, .ref qn])), (qz, .inl (cI, 46, .inl z)), (qa, .inl (cI, 46, .inl as)), (qe, .inl (cI, 276, .inl be)), (qs, .inl (cI, 92, .inl sl)), (qv, .inl (cZ, 2, .inl sv)), (qp, .inl (cI, 60, .inl pd)), (qn, .inl (cI, 36, .inl nd))] H644 := hP
    have hD : va_D A [(qm, .inr (6, [.ref qz, .ref qa, .ref qe, .int (nI (sts - 1)), .ref qs, .ref qv, .ref qp, .int (nI len), .int go, .ref qn])), (qz, .inl (cI, 46, .inl z)), (qa, .inl (cI, 46, .inl as)), (qe, .inl (cI, 276, .inl be)), (qs, .inl (cI, 92, .inl sl)), (qv, .inl (cZ, 2, .inl sv)), (qp, .inl (cI, 60, .inl pd)), (qn, .inl (cI, 36, .inl nd))] := hD
    refine lv_iconst (v := 0) hx hb dX6_undo_20 (by decide) ?_
    refine lv_istore_n (lv' := [(1, .int 0), (0, .ref qm)]) hx hb dX6_undo_21 rfl hl (by decide) rfl (fun ls hl => ?_)
    have L1 : ∀ (n : Nat), ∀ (i : Nat), ∀ (zc : IA), ∀ (hi : i ≤ 46), ∀ (hf2 : zc = cpz z be 0 (46 * (sts - 1)) i), ∀ (hn : 47 ≤ i + n), ∀ (H645 : Heap) (locs645 : List Loc), va_P G vwCl [(qm, .inr (6, [.ref qz, .ref qa, .ref qe, .int (nI (sts - 1)), .ref qs, .ref qv, .ref qp, .int (nI len), .int go, .ref qn])), (qz, .inl (cI, 46, .inl zc)), (qa, .inl (cI, 46, .inl as)), (qe, .inl (cI, 276, .inl be)), (qs, .inl (cI, 92, .inl sl)), (qv, .inl (cZ, 2, .inl sv)), (qp, .inl (cI, 60, .inl pd)), (qn, .inl (cI, 36, .inl nd))] H645 → va_D A [(qm, .inr (6, [.ref qz, .ref qa, .ref qe, .int (nI (sts - 1)), .ref qs, .ref qv, .ref qp, .int (nI len), .int go, .ref qn])), (qz, .inl (cI, 46, .inl zc)), (qa, .inl (cI, 46, .inl as)), (qe, .inl (cI, 276, .inl be)), (qs, .inl (cI, 92, .inl sl)), (qv, .inl (cZ, 2, .inl sv)), (qp, .inl (cI, 60, .inl pd)), (qn, .inl (cI, 36, .inl nd))] → va_S A s.heap H645 locs645 → ∀ (ls : Array Slot), lv_has ls 2 [(1, .int (nI i)), (0, .ref qm)] → W p l e rm_X6_undo s m ag below meth c H645 locs645 0 0 Q (F0 m 22 ls []) := by
      intro n
      induction n with
      | zero =>
        intro i zc hi hf2 hn H645 locs645 hP hD hS ls hl
        omega
      | succ n ih1 =>
        intro i zc hi hf2 hn H645 locs645 hP hD hS ls hl
        refine lv_iload_n hx hb dX6_undo_22 rfl (lv_at hl 0 rfl) ?_
        refine lv_bipush (v := 46) hx hb dX6_undo_23 (by decide) ?_
        refine zi_ge (tgt := 54) hx hb i 46 dX6_undo_25 (by decide) rfl rfl (by omega) (by decide) (fun c_646 => ?_) (fun c_646 => ?_)
        · refine lv_aload_n hx hb dX6_undo_54 rfl (lv_at hl 1 rfl) ?_
          refine va_get (D := G) (ci := 6) (v := .int (nI (sts - 1))) (C := RX6) (T := TX6) (N := 10) hx hb hts inlX6 hown hK.1 hP 0 rfl rfl 3 (by decide) (hts _ wd123) (fun _ h9 => h9) rfl dX6_undo_55 ?_
          subst hQ
          exact W.iret (v := nI (sts - 1)) hx hb hr (fun t ht hW => ⟨⟨nI (sts - 1), (zc, be, sts - 1, sl, sv, pd, len, as, go, nd), rfl, ⟨by show _ = Prod.fst (_ : Int32 × KS); rw [m_undo, if_neg c_643], by rw [m_undo, if_neg c_643]; exact cor_eq (by rw [hf2, show i = 46 by omega]) rfl rfl rfl rfl rfl rfl⟩, by rw [ht]; exact hP, hD⟩, hS.F ht⟩) hS.2.2 dX6_undo_58
        · refine lv_aload_n hx hb dX6_undo_28 rfl (lv_at hl 1 rfl) ?_
          refine va_get (D := G) (ci := 6) (v := .ref qz) (C := RX6) (T := TX6) (N := 10) hx hb hts inlX6 hown hK.1 hP 0 rfl rfl 0 (by decide) (hts _ wd78) (fun _ h9 => h9) rfl dX6_undo_29 ?_
          refine lv_iload_n hx hb dX6_undo_32 rfl (lv_at hl 0 rfl) ?_
          refine lv_aload_n hx hb dX6_undo_33 rfl (lv_at hl 1 rfl) ?_
          refine va_get (D := G) (ci := 6) (v := .ref qe) (C := RX6) (T := TX6) (N := 10) hx hb hts inlX6 hown hK.1 hP 0 rfl rfl 2 (by decide) (hts _ wd80) (fun _ h9 => h9) rfl dX6_undo_34 ?_
          refine lv_bipush (v := 46) hx hb dX6_undo_37 (by decide) ?_
          refine lv_aload_n hx hb dX6_undo_39 rfl (lv_at hl 1 rfl) ?_
          refine va_get (D := G) (ci := 6) (v := .int (nI (sts - 1))) (C := RX6) (T := TX6) (N := 10) hx hb hts inlX6 hown hK.1 hP 0 rfl rfl 3 (by decide) (hts _ wd123) (fun _ h9 => h9) rfl dX6_undo_40 ?_
          refine zi_mul hx hb 46 (sts - 1) dX6_undo_43 rfl rfl ?_
          refine lv_iload_n hx hb dX6_undo_44 rfl (lv_at hl 0 rfl) ?_
          refine zi_add hx hb (46 * (sts - 1)) i dX6_undo_45 rfl rfl ?_
          refine za_ld hx hb hK.1 hP 3 0 rfl rfl ((46 * (sts - 1)) + i) rfl (by omega) (by decide) dX6_undo_46 ?_
          refine za_st hx hb hK.1 hP hD hS 1 0 rfl rfl i rfl (by omega) (by decide) dX6_undo_47 (fun H647 locs647 hP hD hS => ?_)
          have hP : va_P G vwCl [(qm, .inr (6, [.ref qz, .ref qa, .ref qe, .int (nI (sts - 1)), .ref qs, .ref qv, .ref qp, .int (nI len), .int go, .ref qn])), (qz, .inl (cI, 46, .inl (upd zc i (be ((46 * (sts - 1)) + i))))), (qa, .inl (cI, 46, .inl as)), (qe, .inl (cI, 276, .inl be)), (qs, .inl (cI, 92, .inl sl)), (qv, .inl (cZ, 2, .inl sv)), (qp, .inl (cI, 60, .inl pd)), (qn, .inl (cI, 36, .inl nd))] H647 := hP
          have hD : va_D A [(qm, .inr (6, [.ref qz, .ref qa, .ref qe, .int (nI (sts - 1)), .ref qs, .ref qv, .ref qp, .int (nI len), .int go, .ref qn])), (qz, .inl (cI, 46, .inl (upd zc i (be ((46 * (sts - 1)) + i))))), (qa, .inl (cI, 46, .inl as)), (qe, .inl (cI, 276, .inl be)), (qs, .inl (cI, 92, .inl sl)), (qv, .inl (cZ, 2, .inl sv)), (qp, .inl (cI, 60, .inl pd)), (qn, .inl (cI, 36, .inl nd))] := hD
          refine lv_iinc (v := nI (i + 1)) (lv' := [(1, .int (nI (i + 1))), (0, .ref qm)]) hx hb dX6_undo_48 hl (k := 0) rfl (nI_inc i) (by decide) rfl (fun ls hl => ?_)
          refine lv_goto (tgt := 22) hx hb dX6_undo_51 (by decide) ?_
          exact ih1 (i + 1) (upd zc i (be ((46 * (sts - 1)) + i))) (by omega) (by rw [cpz, ← hf2, Nat.zero_add]) (by omega) H647 locs647 hP hD hS _ (lv_sub hl [0, 1] rfl)
    exact L1 47 0 z (by decide) rfl (by decide) H644 locs644 hP hD hS _ (lv_sub hl [0, 1] rfl)
  · refine lv_bipush (v := (-5)) hx hb dX6_undo_7 (by decide) ?_
    subst hQ
    exact W.iret (v := (-5)) hx hb hr (fun t ht hW => ⟨⟨(-5), (z, be, sts, sl, sv, pd, len, as, go, nd), rfl, ⟨by show _ = Prod.fst (_ : Int32 × KS); rw [m_undo, if_pos c_643], by rw [m_undo, if_pos c_643]; rfl⟩, by rw [ht]; exact hP, hD⟩, hS.F ht⟩) hS.2.2 dX6_undo_9

abbrev rm_X6_save : Room := { frames := 1, cells := 0, slots := 0, locals := 22 }
set_option maxHeartbeats 1000000 in
set_option maxRecDepth 100000 in
theorem c_X6_save (l : Launch) (G : va_G) (cI cC cZ cG : ClassId) (sz : Nat) (qm qz qa qe qs qv qp qn : Nat) (z as be sl sv pd nd : IA) (sts len : Nat) (go : Int32) (pl : Nat) (s0 : Int32) (hz : ∀ k, k < 12 → okv (z k)) (hx0 : ¬ z 39 < 0) (hpl : pl < 4) (h40 : z 40 = nI pl) (h4c : okc (z 41)) (hst : sts ≤ 6) (hln : len ≤ 60) : Met l yX6_save (.code yX6_save cX6_save 3 (some .int) :: wsL_law) rm_X6_save (va_Pc [.ref qm, .int s0] (bw G cI cC cZ cG false sz [(qm, .inr (6, [.ref qz, .ref qa, .ref qe, .int (nI sts), .ref qs, .ref qv, .ref qp, .int (nI len), .int go, .ref qn])), (qz, .inl (cI, 46, .inl z)), (qa, .inl (cI, 46, .inl as)), (qe, .inl (cI, 276, .inl be)), (qs, .inl (cI, 92, .inl sl)), (qv, .inl (cZ, 2, .inl sv)), (qp, .inl (cI, 60, .inl pd)), (qn, .inl (cI, 36, .inl nd))])) (va_Qi (fun (r : Int32) (u : MS) => r = (m_save s0 (z, be, sts, sl, sv, pd, len)).1 ∧ cor u = (m_save s0 (z, be, sts, sl, sv, pd, len)).2) (fun (u : MS) t => va_P G vwCl [(qm, .inr (6, [.ref qz, .ref qa, .ref qe, .int (nI u.2.2.1), .ref qs, .ref qv, .ref qp, .int (nI u.2.2.2.2.2.2.1), .int u.2.2.2.2.2.2.2.2.1, .ref qn])), (qz, .inl (cI, 46, .inl u.1)), (qa, .inl (cI, 46, .inl u.2.2.2.2.2.2.2.1)), (qe, .inl (cI, 276, .inl u.2.1)), (qs, .inl (cI, 92, .inl u.2.2.2.1)), (qv, .inl (cZ, 2, .inl u.2.2.2.2.1)), (qp, .inl (cI, 60, .inl u.2.2.2.2.2.1)), (qn, .inl (cI, 36, .inl u.2.2.2.2.2.2.2.2.2))] t.heap ∧ va_D (va_A [(qm, .inr (6, [.ref qz, .ref qa, .ref qe, .int (nI sts), .ref qs, .ref qv, .ref qp, .int (nI len), .int go, .ref qn])), (qz, .inl (cI, 46, .inl z)), (qa, .inl (cI, 46, .inl as)), (qe, .inl (cI, 276, .inl be)), (qs, .inl (cI, 92, .inl sl)), (qv, .inl (cZ, 2, .inl sv)), (qp, .inl (cI, 60, .inl pd)), (qn, .inl (cI, 36, .inl nd))] sz) [(qm, .inr (6, [.ref qz, .ref qa, .ref qe, .int (nI u.2.2.1), .ref qs, .ref qv, .ref qp, .int (nI u.2.2.2.2.2.2.1), .int u.2.2.2.2.2.2.2.2.1, .ref qn])), (qz, .inl (cI, 46, .inl u.1)), (qa, .inl (cI, 46, .inl u.2.2.2.2.2.2.2.1)), (qe, .inl (cI, 276, .inl u.2.1)), (qs, .inl (cI, 92, .inl u.2.2.2.1)), (qv, .inl (cZ, 2, .inl u.2.2.2.2.1)), (qp, .inl (cI, 60, .inl u.2.2.2.2.2.1)), (qn, .inl (cI, 36, .inl u.2.2.2.2.2.2.2.2.2))]) (va_A [(qm, .inr (6, [.ref qz, .ref qa, .ref qe, .int (nI sts), .ref qs, .ref qv, .ref qp, .int (nI len), .int go, .ref qn])), (qz, .inl (cI, 46, .inl z)), (qa, .inl (cI, 46, .inl as)), (qe, .inl (cI, 276, .inl be)), (qs, .inl (cI, 92, .inl sl)), (qv, .inl (cZ, 2, .inl sv)), (qp, .inl (cI, 60, .inl pd)), (qn, .inl (cI, 36, .inl nd))] sz)) 0 0 (va_A [(qm, .inr (6, [.ref qz, .ref qa, .ref qe, .int (nI sts), .ref qs, .ref qv, .ref qp, .int (nI len), .int go, .ref qn])), (qz, .inl (cI, 46, .inl z)), (qa, .inl (cI, 46, .inl as)), (qe, .inl (cI, 276, .inl be)), (qs, .inl (cI, 92, .inl sl)), (qv, .inl (cZ, 2, .inl sv)), (qp, .inl (cI, 60, .inl pd)), (qn, .inl (cI, 36, .inl nd))] sz) := by
  refine met_bw rfl (Nat.le_of_ble_eq_true rfl) ?_
  intro p e s m below meth c ls hx hb hr hml hown hts hlocks hin hsz hP hK hD0 hX0 hl
  have hown : s.vm.findClass RX6 = some m.cls := hown
  have hl : lv_has ls 3 [(0, .ref qm), (1, .int s0)] := hl
  subst hsz
  have hD := hD0.self (sz := s.heap.size)
  generalize hAe : va_A [(qm, .inr (6, [.ref qz, .ref qa, .ref qe, .int (nI sts), .ref qs, .ref qv, .ref qp, .int (nI len), .int go, .ref qn])), (qz, .inl (cI, 46, .inl z)), (qa, .inl (cI, 46, .inl as)), (qe, .inl (cI, 276, .inl be)), (qs, .inl (cI, 92, .inl sl)), (qv, .inl (cZ, 2, .inl sv)), (qp, .inl (cI, 60, .inl pd)), (qn, .inl (cI, 36, .inl nd))] s.heap.size = A at hD ⊢
  have hA : ∀ q : Nat, s.heap.size ≤ q → A q := fun q h => by rw [← hAe]; exact Or.inr h
  have hS : va_S A s.heap s.heap [] := va_S.rf
  generalize hQ : MQ below (va_Qi (fun (r : Int32) (u : MS) => r = (m_save s0 (z, be, sts, sl, sv, pd, len)).1 ∧ cor u = (m_save s0 (z, be, sts, sl, sv, pd, len)).2) (fun (u : MS) t => va_P G vwCl [(qm, .inr (6, [.ref qz, .ref qa, .ref qe, .int (nI u.2.2.1), .ref qs, .ref qv, .ref qp, .int (nI u.2.2.2.2.2.2.1), .int u.2.2.2.2.2.2.2.2.1, .ref qn])), (qz, .inl (cI, 46, .inl u.1)), (qa, .inl (cI, 46, .inl u.2.2.2.2.2.2.2.1)), (qe, .inl (cI, 276, .inl u.2.1)), (qs, .inl (cI, 92, .inl u.2.2.2.1)), (qv, .inl (cZ, 2, .inl u.2.2.2.2.1)), (qp, .inl (cI, 60, .inl u.2.2.2.2.2.1)), (qn, .inl (cI, 36, .inl u.2.2.2.2.2.2.2.2.2))] t.heap ∧ va_D A [(qm, .inr (6, [.ref qz, .ref qa, .ref qe, .int (nI u.2.2.1), .ref qs, .ref qv, .ref qp, .int (nI u.2.2.2.2.2.2.1), .int u.2.2.2.2.2.2.2.2.1, .ref qn])), (qz, .inl (cI, 46, .inl u.1)), (qa, .inl (cI, 46, .inl u.2.2.2.2.2.2.2.1)), (qe, .inl (cI, 276, .inl u.2.1)), (qs, .inl (cI, 92, .inl u.2.2.2.1)), (qv, .inl (cZ, 2, .inl u.2.2.2.2.1)), (qp, .inl (cI, 60, .inl u.2.2.2.2.2.1)), (qn, .inl (cI, 36, .inl u.2.2.2.2.2.2.2.2.2))]) A) ([.ref qm, .int s0] : List Value).toArray s 0 0 A = Q
  generalize hag : ([.ref qm, .int s0] : List Value).toArray = ag at hts hQ ⊢
  refine lv_iload_n hx hb dX6_save_0 rfl (lv_at hl 1 rfl) ?_
  refine lv_iconst (v := 0) hx hb dX6_save_1 (by decide) ?_
  refine lv_iconst (v := 1) hx hb dX6_save_2 (by decide) ?_
  refine vp_callSi (va_Run.run (va_runS (As := [.int s0, .int 0, .int 1]) (rest := []) ⟨hx, hb, hml, hown, hts⟩ (c_X6_in l s0 0 1) (cf_RX6_32 hts ⟨Nat.le_of_ble_eq_true rfl, Nat.le_of_ble_eq_true rfl⟩) pre_P rfl rfl hl.1 rfl (lv_room (Nat.le_of_ble_eq_true rfl)) dX6_save_3 ⟨Nat.le_of_ble_eq_true rfl, Nat.le_of_ble_eq_true rfl⟩)) (fun r648 hr648 => ?_)
  subst hr648
  refine zb_ne (tgt := 12) hx hb dX6_save_6 (by decide) (fun c_649 => ?_) (fun c_649 => ?_)
  · obtain ⟨j, hj0, hj, rfl⟩ := inQ_nI (lo := 0) (hi := 1) (by decide) (by decide) c_649
    refine lv_iconst (v := 0) hx hb dX6_save_12 (by decide) ?_
    refine lv_istore_n (lv' := [(2, .int 0), (0, .ref qm), (1, .int (nI j))]) hx hb dX6_save_13 rfl hl (by decide) rfl (fun ls hl => ?_)
    have L1 : ∀ (n : Nat), ∀ (i : Nat), ∀ (zc : IA), ∀ (hi : i ≤ 46), ∀ (hf2 : zc = cpz sl z (46 * j) 0 i), ∀ (hn : 47 ≤ i + n), ∀ (H650 : Heap) (locs650 : List Loc), va_P G vwCl [(qm, .inr (6, [.ref qz, .ref qa, .ref qe, .int (nI sts), .ref qs, .ref qv, .ref qp, .int (nI len), .int go, .ref qn])), (qz, .inl (cI, 46, .inl z)), (qa, .inl (cI, 46, .inl as)), (qe, .inl (cI, 276, .inl be)), (qs, .inl (cI, 92, .inl zc)), (qv, .inl (cZ, 2, .inl sv)), (qp, .inl (cI, 60, .inl pd)), (qn, .inl (cI, 36, .inl nd))] H650 → va_D A [(qm, .inr (6, [.ref qz, .ref qa, .ref qe, .int (nI sts), .ref qs, .ref qv, .ref qp, .int (nI len), .int go, .ref qn])), (qz, .inl (cI, 46, .inl z)), (qa, .inl (cI, 46, .inl as)), (qe, .inl (cI, 276, .inl be)), (qs, .inl (cI, 92, .inl zc)), (qv, .inl (cZ, 2, .inl sv)), (qp, .inl (cI, 60, .inl pd)), (qn, .inl (cI, 36, .inl nd))] → va_S A s.heap H650 locs650 → ∀ (ls : Array Slot), lv_has ls 3 [(2, .int (nI i)), (0, .ref qm), (1, .int (nI j))] → W p l e rm_X6_save s m ag below meth c H650 locs650 0 0 Q (F0 m 14 ls []) := by
      intro n
      induction n with
      | zero =>
        intro i zc hi hf2 hn H650 locs650 hP hD hS ls hl
        omega
      | succ n ih1 =>
        intro i zc hi hf2 hn H650 locs650 hP hD hS ls hl
        refine lv_iload_n hx hb dX6_save_14 rfl (lv_at hl 0 rfl) ?_
        refine lv_bipush (v := 46) hx hb dX6_save_15 (by decide) ?_
        refine zi_ge (tgt := 43) hx hb i 46 dX6_save_17 (by decide) rfl rfl (by omega) (by decide) (fun c_651 => ?_) (fun c_651 => ?_)
        · refine lv_aload_n hx hb dX6_save_43 rfl (lv_at hl 1 rfl) ?_
          refine va_get (D := G) (ci := 6) (v := .ref qv) (C := RX6) (T := TX6) (N := 10) hx hb hts inlX6 hown hK.1 hP 0 rfl rfl 5 (by decide) (hts _ wd83) (fun _ h9 => h9) rfl dX6_save_44 ?_
          refine lv_iload_n hx hb dX6_save_47 rfl (lv_at hl 2 rfl) ?_
          refine lv_iconst (v := 1) hx hb dX6_save_48 (by decide) ?_
          refine za_stz hx hb hK.1 hP hD hS 5 2 rfl rfl j rfl (by omega) (by decide) dX6_save_49 (fun H652 locs652 hP hD hS => ?_)
          have hP : va_P G vwCl [(qm, .inr (6, [.ref qz, .ref qa, .ref qe, .int (nI sts), .ref qs, .ref qv, .ref qp, .int (nI len), .int go, .ref qn])), (qz, .inl (cI, 46, .inl z)), (qa, .inl (cI, 46, .inl as)), (qe, .inl (cI, 276, .inl be)), (qs, .inl (cI, 92, .inl zc)), (qv, .inl (cZ, 2, .inl (upd sv j (vp_nar .boolean 1)))), (qp, .inl (cI, 60, .inl pd)), (qn, .inl (cI, 36, .inl nd))] H652 := hP
          have hD : va_D A [(qm, .inr (6, [.ref qz, .ref qa, .ref qe, .int (nI sts), .ref qs, .ref qv, .ref qp, .int (nI len), .int go, .ref qn])), (qz, .inl (cI, 46, .inl z)), (qa, .inl (cI, 46, .inl as)), (qe, .inl (cI, 276, .inl be)), (qs, .inl (cI, 92, .inl zc)), (qv, .inl (cZ, 2, .inl (upd sv j (vp_nar .boolean 1)))), (qp, .inl (cI, 60, .inl pd)), (qn, .inl (cI, 36, .inl nd))] := hD
          refine lv_aload_n hx hb dX6_save_50 rfl (lv_at hl 1 rfl) ?_
          refine va_get (D := G) (ci := 6) (v := .ref qz) (C := RX6) (T := TX6) (N := 10) hx hb hts inlX6 hown hK.1 hP 0 rfl rfl 0 (by decide) (hts _ wd78) (fun _ h9 => h9) rfl dX6_save_51 ?_
          refine lv_bipush (v := 42) hx hb dX6_save_54 (by decide) ?_
          refine za_ld hx hb hK.1 hP 1 0 rfl rfl 42 rfl (by decide) (by decide) dX6_save_56 ?_
          subst hQ
          exact W.iret (v := z 42) hx hb hr (fun t ht hW => ⟨⟨z 42, (z, be, sts, zc, upd sv j (vp_nar .boolean 1), pd, len, as, go, nd), rfl, ⟨by show _ = Prod.fst (_ : Int32 × KS); rw [m_save, if_pos c_649, (show (nI j).toNatClampNeg = j from nI_clamp (by omega))], by rw [m_save, if_pos c_649, (show (nI j).toNatClampNeg = j from nI_clamp (by omega))]; exact cor_eq rfl rfl rfl (by rw [hf2, show i = 46 by omega]) rfl rfl rfl⟩, by rw [ht]; exact hP, hD⟩, hS.F ht⟩) hS.2.2 dX6_save_57
        · refine lv_aload_n hx hb dX6_save_20 rfl (lv_at hl 1 rfl) ?_
          refine va_get (D := G) (ci := 6) (v := .ref qs) (C := RX6) (T := TX6) (N := 10) hx hb hts inlX6 hown hK.1 hP 0 rfl rfl 4 (by decide) (hts _ wd81) (fun _ h9 => h9) rfl dX6_save_21 ?_
          refine lv_bipush (v := 46) hx hb dX6_save_24 (by decide) ?_
          refine lv_iload_n hx hb dX6_save_26 rfl (lv_at hl 2 rfl) ?_
          refine zi_mul hx hb 46 j dX6_save_27 rfl rfl ?_
          refine lv_iload_n hx hb dX6_save_28 rfl (lv_at hl 0 rfl) ?_
          refine zi_add hx hb (46 * j) i dX6_save_29 rfl rfl ?_
          refine lv_aload_n hx hb dX6_save_30 rfl (lv_at hl 1 rfl) ?_
          refine va_get (D := G) (ci := 6) (v := .ref qz) (C := RX6) (T := TX6) (N := 10) hx hb hts inlX6 hown hK.1 hP 0 rfl rfl 0 (by decide) (hts _ wd78) (fun _ h9 => h9) rfl dX6_save_31 ?_
          refine lv_iload_n hx hb dX6_save_34 rfl (lv_at hl 0 rfl) ?_
          refine za_ld hx hb hK.1 hP 1 0 rfl rfl i rfl (by omega) (by decide) dX6_save_35 ?_
          refine za_st hx hb hK.1 hP hD hS 4 0 rfl rfl ((46 * j) + i) rfl (by omega) (by decide) dX6_save_36 (fun H653 locs653 hP hD hS => ?_)
          have hP : va_P G vwCl [(qm, .inr (6, [.ref qz, .ref qa, .ref qe, .int (nI sts), .ref qs, .ref qv, .ref qp, .int (nI len), .int go, .ref qn])), (qz, .inl (cI, 46, .inl z)), (qa, .inl (cI, 46, .inl as)), (qe, .inl (cI, 276, .inl be)), (qs, .inl (cI, 92, .inl (upd zc ((46 * j) + i) (z i)))), (qv, .inl (cZ, 2, .inl sv)), (qp, .inl (cI, 60, .inl pd)), (qn, .inl (cI, 36, .inl nd))] H653 := hP
          have hD : va_D A [(qm, .inr (6, [.ref qz, .ref qa, .ref qe, .int (nI sts), .ref qs, .ref qv, .ref qp, .int (nI len), .int go, .ref qn])), (qz, .inl (cI, 46, .inl z)), (qa, .inl (cI, 46, .inl as)), (qe, .inl (cI, 276, .inl be)), (qs, .inl (cI, 92, .inl (upd zc ((46 * j) + i) (z i)))), (qv, .inl (cZ, 2, .inl sv)), (qp, .inl (cI, 60, .inl pd)), (qn, .inl (cI, 36, .inl nd))] := hD
          refine lv_iinc (v := nI (i + 1)) (lv' := [(2, .int (nI (i + 1))), (0, .ref qm), (1, .int (nI j))]) hx hb dX6_save_37 hl (k := 0) rfl (nI_inc i) (by decide) rfl (fun ls hl => ?_)
          refine lv_goto (tgt := 14) hx hb dX6_save_40 (by decide) ?_
          exact ih1 (i + 1) (upd zc ((46 * j) + i) (z i)) (by omega) (by rw [cpz, ← hf2, Nat.zero_add]) (by omega) H653 locs653 hP hD hS _ (lv_sub hl [0, 1, 2] rfl)
    exact L1 47 0 sl (by decide) rfl (by decide) s.heap [] hP hD hS _ (lv_sub hl [0, 1, 2] rfl)
  · refine lv_bipush (v := (-2)) hx hb dX6_save_9 (by decide) ?_
    subst hQ
    exact W.iret (v := (-2)) hx hb hr (fun t ht hW => ⟨⟨(-2), (z, be, sts, sl, sv, pd, len, as, go, nd), rfl, ⟨by show _ = Prod.fst (_ : Int32 × KS); rw [m_save, if_neg c_649], by rw [m_save, if_neg c_649]; rfl⟩, by rw [ht]; exact hP, hD⟩, hS.F ht⟩) hS.2.2 dX6_save_11

abbrev rm_X6_restore : Room := { frames := 1, cells := 0, slots := 0, locals := 22 }
set_option maxHeartbeats 1000000 in
set_option maxRecDepth 100000 in
theorem c_X6_restore (l : Launch) (G : va_G) (cI cC cZ cG : ClassId) (sz : Nat) (qm qz qa qe qs qv qp qn : Nat) (z as be sl sv pd nd : IA) (sts len : Nat) (go : Int32) (pl : Nat) (s0 : Int32) (hz : ∀ k, k < 12 → okv (z k)) (hx0 : ¬ z 39 < 0) (hpl : pl < 4) (h40 : z 40 = nI pl) (h4c : okc (z 41)) (hst : sts ≤ 6) (hln : len ≤ 60) : Met l yX6_restore (.code yX6_restore cX6_restore 3 (some .int) :: wsL_law) rm_X6_restore (va_Pc [.ref qm, .int s0] (bw G cI cC cZ cG false sz [(qm, .inr (6, [.ref qz, .ref qa, .ref qe, .int (nI sts), .ref qs, .ref qv, .ref qp, .int (nI len), .int go, .ref qn])), (qz, .inl (cI, 46, .inl z)), (qa, .inl (cI, 46, .inl as)), (qe, .inl (cI, 276, .inl be)), (qs, .inl (cI, 92, .inl sl)), (qv, .inl (cZ, 2, .inl sv)), (qp, .inl (cI, 60, .inl pd)), (qn, .inl (cI, 36, .inl nd))])) (va_Qi (fun (r : Int32) (u : MS) => r = (m_restore s0 (z, be, sts, sl, sv, pd, len)).1 ∧ cor u = (m_restore s0 (z, be, sts, sl, sv, pd, len)).2) (fun (u : MS) t => va_P G vwCl [(qm, .inr (6, [.ref qz, .ref qa, .ref qe, .int (nI u.2.2.1), .ref qs, .ref qv, .ref qp, .int (nI u.2.2.2.2.2.2.1), .int u.2.2.2.2.2.2.2.2.1, .ref qn])), (qz, .inl (cI, 46, .inl u.1)), (qa, .inl (cI, 46, .inl u.2.2.2.2.2.2.2.1)), (qe, .inl (cI, 276, .inl u.2.1)), (qs, .inl (cI, 92, .inl u.2.2.2.1)), (qv, .inl (cZ, 2, .inl u.2.2.2.2.1)), (qp, .inl (cI, 60, .inl u.2.2.2.2.2.1)), (qn, .inl (cI, 36, .inl u.2.2.2.2.2.2.2.2.2))] t.heap ∧ va_D (va_A [(qm, .inr (6, [.ref qz, .ref qa, .ref qe, .int (nI sts), .ref qs, .ref qv, .ref qp, .int (nI len), .int go, .ref qn])), (qz, .inl (cI, 46, .inl z)), (qa, .inl (cI, 46, .inl as)), (qe, .inl (cI, 276, .inl be)), (qs, .inl (cI, 92, .inl sl)), (qv, .inl (cZ, 2, .inl sv)), (qp, .inl (cI, 60, .inl pd)), (qn, .inl (cI, 36, .inl nd))] sz) [(qm, .inr (6, [.ref qz, .ref qa, .ref qe, .int (nI u.2.2.1), .ref qs, .ref qv, .ref qp, .int (nI u.2.2.2.2.2.2.1), .int u.2.2.2.2.2.2.2.2.1, .ref qn])), (qz, .inl (cI, 46, .inl u.1)), (qa, .inl (cI, 46, .inl u.2.2.2.2.2.2.2.1)), (qe, .inl (cI, 276, .inl u.2.1)), (qs, .inl (cI, 92, .inl u.2.2.2.1)), (qv, .inl (cZ, 2, .inl u.2.2.2.2.1)), (qp, .inl (cI, 60, .inl u.2.2.2.2.2.1)), (qn, .inl (cI, 36, .inl u.2.2.2.2.2.2.2.2.2))]) (va_A [(qm, .inr (6, [.ref qz, .ref qa, .ref qe, .int (nI sts), .ref qs, .ref qv, .ref qp, .int (nI len), .int go, .ref qn])), (qz, .inl (cI, 46, .inl z)), (qa, .inl (cI, 46, .inl as)), (qe, .inl (cI, 276, .inl be)), (qs, .inl (cI, 92, .inl sl)), (qv, .inl (cZ, 2, .inl sv)), (qp, .inl (cI, 60, .inl pd)), (qn, .inl (cI, 36, .inl nd))] sz)) 0 0 (va_A [(qm, .inr (6, [.ref qz, .ref qa, .ref qe, .int (nI sts), .ref qs, .ref qv, .ref qp, .int (nI len), .int go, .ref qn])), (qz, .inl (cI, 46, .inl z)), (qa, .inl (cI, 46, .inl as)), (qe, .inl (cI, 276, .inl be)), (qs, .inl (cI, 92, .inl sl)), (qv, .inl (cZ, 2, .inl sv)), (qp, .inl (cI, 60, .inl pd)), (qn, .inl (cI, 36, .inl nd))] sz) := by
  refine met_bw rfl (Nat.le_of_ble_eq_true rfl) ?_
  intro p e s m below meth c ls hx hb hr hml hown hts hlocks hin hsz hP hK hD0 hX0 hl
  have hown : s.vm.findClass RX6 = some m.cls := hown
  have hl : lv_has ls 3 [(0, .ref qm), (1, .int s0)] := hl
  subst hsz
  have hD := hD0.self (sz := s.heap.size)
  generalize hAe : va_A [(qm, .inr (6, [.ref qz, .ref qa, .ref qe, .int (nI sts), .ref qs, .ref qv, .ref qp, .int (nI len), .int go, .ref qn])), (qz, .inl (cI, 46, .inl z)), (qa, .inl (cI, 46, .inl as)), (qe, .inl (cI, 276, .inl be)), (qs, .inl (cI, 92, .inl sl)), (qv, .inl (cZ, 2, .inl sv)), (qp, .inl (cI, 60, .inl pd)), (qn, .inl (cI, 36, .inl nd))] s.heap.size = A at hD ⊢
  have hA : ∀ q : Nat, s.heap.size ≤ q → A q := fun q h => by rw [← hAe]; exact Or.inr h
  have hS : va_S A s.heap s.heap [] := va_S.rf
  generalize hQ : MQ below (va_Qi (fun (r : Int32) (u : MS) => r = (m_restore s0 (z, be, sts, sl, sv, pd, len)).1 ∧ cor u = (m_restore s0 (z, be, sts, sl, sv, pd, len)).2) (fun (u : MS) t => va_P G vwCl [(qm, .inr (6, [.ref qz, .ref qa, .ref qe, .int (nI u.2.2.1), .ref qs, .ref qv, .ref qp, .int (nI u.2.2.2.2.2.2.1), .int u.2.2.2.2.2.2.2.2.1, .ref qn])), (qz, .inl (cI, 46, .inl u.1)), (qa, .inl (cI, 46, .inl u.2.2.2.2.2.2.2.1)), (qe, .inl (cI, 276, .inl u.2.1)), (qs, .inl (cI, 92, .inl u.2.2.2.1)), (qv, .inl (cZ, 2, .inl u.2.2.2.2.1)), (qp, .inl (cI, 60, .inl u.2.2.2.2.2.1)), (qn, .inl (cI, 36, .inl u.2.2.2.2.2.2.2.2.2))] t.heap ∧ va_D A [(qm, .inr (6, [.ref qz, .ref qa, .ref qe, .int (nI u.2.2.1), .ref qs, .ref qv, .ref qp, .int (nI u.2.2.2.2.2.2.1), .int u.2.2.2.2.2.2.2.2.1, .ref qn])), (qz, .inl (cI, 46, .inl u.1)), (qa, .inl (cI, 46, .inl u.2.2.2.2.2.2.2.1)), (qe, .inl (cI, 276, .inl u.2.1)), (qs, .inl (cI, 92, .inl u.2.2.2.1)), (qv, .inl (cZ, 2, .inl u.2.2.2.2.1)), (qp, .inl (cI, 60, .inl u.2.2.2.2.2.1)), (qn, .inl (cI, 36, .inl u.2.2.2.2.2.2.2.2.2))]) A) ([.ref qm, .int s0] : List Value).toArray s 0 0 A = Q
  generalize hag : ([.ref qm, .int s0] : List Value).toArray = ag at hts hQ ⊢
  refine lv_iload_n hx hb dX6_restore_0 rfl (lv_at hl 1 rfl) ?_
  refine lv_iconst (v := 0) hx hb dX6_restore_1 (by decide) ?_
  refine lv_iconst (v := 1) hx hb dX6_restore_2 (by decide) ?_
  refine vp_callSi (va_Run.run (va_runS (As := [.int s0, .int 0, .int 1]) (rest := []) ⟨hx, hb, hml, hown, hts⟩ (c_X6_in l s0 0 1) (cf_RX6_32 hts ⟨Nat.le_of_ble_eq_true rfl, Nat.le_of_ble_eq_true rfl⟩) pre_P rfl rfl hl.1 rfl (lv_room (Nat.le_of_ble_eq_true rfl)) dX6_restore_3 ⟨Nat.le_of_ble_eq_true rfl, Nat.le_of_ble_eq_true rfl⟩)) (fun r654 hr654 => ?_)
  subst hr654
  refine zb_ne (tgt := 12) hx hb dX6_restore_6 (by decide) (fun c_655 => ?_) (fun c_655 => ?_)
  · obtain ⟨j, hj0, hj, rfl⟩ := inQ_nI (lo := 0) (hi := 1) (by decide) (by decide) c_655
    refine lv_aload_n hx hb dX6_restore_12 rfl (lv_at hl 0 rfl) ?_
    refine va_get (D := G) (ci := 6) (v := .ref qv) (C := RX6) (T := TX6) (N := 10) hx hb hts inlX6 hown hK.1 hP 0 rfl rfl 5 (by decide) (hts _ wd83) (fun _ h9 => h9) rfl dX6_restore_13 ?_
    refine lv_iload_n hx hb dX6_restore_16 rfl (lv_at hl 1 rfl) ?_
    refine za_ldz hx hb hK.1 hP 5 2 rfl rfl j rfl (by omega) (by decide) dX6_restore_17 ?_
    refine lv_if_ne (tgt := 24) hx hb dX6_restore_18 (by decide) (fun c_656 => ?_) (fun c_656 => ?_)
    · refine lv_aload_n hx hb dX6_restore_24 rfl (lv_at hl 0 rfl) ?_
      have hPc : va_P G vwCl [(qm, .inr (6, [.ref qz, .ref qa, .ref qe, .int (nI sts), .ref qs, .ref qv, .ref qp, .int (nI len), .int go, .ref qn])), (qz, .inl (cI, 46, .inl z)), (qa, .inl (cI, 46, .inl as)), (qe, .inl (cI, 276, .inl be)), (qs, .inl (cI, 92, .inl sl)), (qv, .inl (cZ, 2, .inl sv)), (qp, .inl (cI, 60, .inl pd)), (qn, .inl (cI, 36, .inl nd))] s.heap := hP
      have hDc := hD.tt
      have hFc := va_free (wc := [(qm, .inr (6, [.ref qz, .ref qa, .ref qe, .int (nI sts), .ref qs, .ref qv, .ref qp, .int (nI len), .int go, .ref qn])), (qz, .inl (cI, 46, .inl z)), (qa, .inl (cI, 46, .inl as)), (qe, .inl (cI, 276, .inl be)), (qs, .inl (cI, 92, .inl sl)), (qv, .inl (cZ, 2, .inl sv)), (qp, .inl (cI, 60, .inl pd)), (qn, .inl (cI, 36, .inl nd))]) hD hS hA [0, 1, 2, 3, 4, 5, 6, 7] rfl
      refine va_callv (va_runV (As := []) (rest := []) ⟨hx, hb, hml, hown, hts⟩ (c_X6_record l G cI cC cZ cG s.heap.size qm qz qa qe qs qv qp qn z as be sl sv pd nd sts len go hst) (cf_RX6_68 hts ⟨Nat.le_of_ble_eq_true rfl, Nat.le_of_ble_eq_true rfl⟩) (pre_V hK hPc hDc (ci := 6) (q0 := 0) rfl rfl) rfl rfl hl.1 rfl (lv_room (Nat.le_of_ble_eq_true rfl)) dX6_restore_25 ⟨Nat.le_of_ble_eq_true rfl, Nat.le_of_ble_eq_true rfl⟩) hS (fun q _ h => hFc q h) hFc (fun u657 t657 H657 locs657 ht657 hvm657 hw657 hB657 hz657 hk657 hS => ?_)
      obtain ⟨q657, rfl⟩ : ∃ z, z = u657 := ⟨_, rfl⟩
      obtain ⟨hP1, hD1⟩ := hB657
      rw [ht657] at hP1
      try dsimp only at hw657
      obtain ⟨hP, hD⟩ := va_join (wr := []) (w1 := [(qm, .inr (6, [.ref qz, .ref qa, .ref qe, .int (nI (rcN sts)), .ref qs, .ref qv, .ref qp, .int (nI len), .int go, .ref qn])), (qz, .inl (cI, 46, .inl z)), (qa, .inl (cI, 46, .inl as)), (qe, .inl (cI, 276, .inl (rcB be z sts))), (qs, .inl (cI, 92, .inl sl)), (qv, .inl (cZ, 2, .inl sv)), (qp, .inl (cI, 60, .inl pd)), (qn, .inl (cI, 36, .inl nd))]) hP hD [0, 1, 2, 3, 4, 5, 6, 7] [] rfl rfl (by decide) (by decide) hk657 hFc hP1 hD1
      have hP : va_P G vwCl [(qm, .inr (6, [.ref qz, .ref qa, .ref qe, .int (nI (rcN sts)), .ref qs, .ref qv, .ref qp, .int (nI len), .int go, .ref qn])), (qz, .inl (cI, 46, .inl z)), (qa, .inl (cI, 46, .inl as)), (qe, .inl (cI, 276, .inl (rcB be z sts))), (qs, .inl (cI, 92, .inl sl)), (qv, .inl (cZ, 2, .inl sv)), (qp, .inl (cI, 60, .inl pd)), (qn, .inl (cI, 36, .inl nd))] H657 := hP
      have hD : va_D A [(qm, .inr (6, [.ref qz, .ref qa, .ref qe, .int (nI (rcN sts)), .ref qs, .ref qv, .ref qp, .int (nI len), .int go, .ref qn])), (qz, .inl (cI, 46, .inl z)), (qa, .inl (cI, 46, .inl as)), (qe, .inl (cI, 276, .inl (rcB be z sts))), (qs, .inl (cI, 92, .inl sl)), (qv, .inl (cZ, 2, .inl sv)), (qp, .inl (cI, 60, .inl pd)), (qn, .inl (cI, 36, .inl nd))] := hD
      refine lv_iconst (v := 0) hx hb dX6_restore_28 (by decide) ?_
      refine lv_istore_n (lv' := [(2, .int 0), (0, .ref qm), (1, .int (nI j))]) hx hb dX6_restore_29 rfl hl (by decide) rfl (fun ls hl => ?_)
      have L1 : ∀ (n : Nat), ∀ (i : Nat), ∀ (zc : IA), ∀ (hi : i ≤ 46), ∀ (hf2 : zc = cpz z sl 0 (46 * j) i), ∀ (hn : 47 ≤ i + n), ∀ (H658 : Heap) (locs658 : List Loc), va_P G vwCl [(qm, .inr (6, [.ref qz, .ref qa, .ref qe, .int (nI (rcN sts)), .ref qs, .ref qv, .ref qp, .int (nI len), .int go, .ref qn])), (qz, .inl (cI, 46, .inl zc)), (qa, .inl (cI, 46, .inl as)), (qe, .inl (cI, 276, .inl (rcB be z sts))), (qs, .inl (cI, 92, .inl sl)), (qv, .inl (cZ, 2, .inl sv)), (qp, .inl (cI, 60, .inl pd)), (qn, .inl (cI, 36, .inl nd))] H658 → va_D A [(qm, .inr (6, [.ref qz, .ref qa, .ref qe, .int (nI (rcN sts)), .ref qs, .ref qv, .ref qp, .int (nI len), .int go, .ref qn])), (qz, .inl (cI, 46, .inl zc)), (qa, .inl (cI, 46, .inl as)), (qe, .inl (cI, 276, .inl (rcB be z sts))), (qs, .inl (cI, 92, .inl sl)), (qv, .inl (cZ, 2, .inl sv)), (qp, .inl (cI, 60, .inl pd)), (qn, .inl (cI, 36, .inl nd))] → va_S A s.heap H658 locs658 → ∀ (ls : Array Slot), lv_has ls 3 [(2, .int (nI i)), (0, .ref qm), (1, .int (nI j))] → W p l e rm_X6_restore s m ag below meth c H658 locs658 0 0 Q (F0 m 30 ls []) := by
        intro n
        induction n with
        | zero =>
          intro i zc hi hf2 hn H658 locs658 hP hD hS ls hl
          omega
        | succ n ih1 =>
          intro i zc hi hf2 hn H658 locs658 hP hD hS ls hl
          refine lv_iload_n hx hb dX6_restore_30 rfl (lv_at hl 0 rfl) ?_
          refine lv_bipush (v := 46) hx hb dX6_restore_31 (by decide) ?_
          refine zi_ge (tgt := 59) hx hb i 46 dX6_restore_33 (by decide) rfl rfl (by omega) (by decide) (fun c_659 => ?_) (fun c_659 => ?_)
          · refine lv_aload_n hx hb dX6_restore_59 rfl (lv_at hl 1 rfl) ?_
            refine va_get (D := G) (ci := 6) (v := .ref qz) (C := RX6) (T := TX6) (N := 10) hx hb hts inlX6 hown hK.1 hP 0 rfl rfl 0 (by decide) (hts _ wd78) (fun _ h9 => h9) rfl dX6_restore_60 ?_
            refine lv_bipush (v := 42) hx hb dX6_restore_63 (by decide) ?_
            refine za_ld hx hb hK.1 hP 1 0 rfl rfl 42 rfl (by decide) (by decide) dX6_restore_65 ?_
            subst hQ
            exact W.iret (v := zc 42) hx hb hr (fun t ht hW => ⟨⟨zc 42, (zc, rcB be z sts, rcN sts, sl, sv, pd, len, as, go, nd), rfl, ⟨by show _ = Prod.fst (_ : Int32 × KS); rw [m_restore, if_neg (fun h => h c_655), (show (nI j).toNatClampNeg = j from nI_clamp (by omega)), if_neg c_656]; rw [hf2, show i = 46 by omega], by rw [m_restore, if_neg (fun h => h c_655), (show (nI j).toNatClampNeg = j from nI_clamp (by omega)), if_neg c_656]; exact cor_eq (by rw [hf2, show i = 46 by omega]) rfl rfl rfl rfl rfl rfl⟩, by rw [ht]; exact hP, hD⟩, hS.F ht⟩) hS.2.2 dX6_restore_66
          · refine lv_aload_n hx hb dX6_restore_36 rfl (lv_at hl 1 rfl) ?_
            refine va_get (D := G) (ci := 6) (v := .ref qz) (C := RX6) (T := TX6) (N := 10) hx hb hts inlX6 hown hK.1 hP 0 rfl rfl 0 (by decide) (hts _ wd78) (fun _ h9 => h9) rfl dX6_restore_37 ?_
            refine lv_iload_n hx hb dX6_restore_40 rfl (lv_at hl 0 rfl) ?_
            refine lv_aload_n hx hb dX6_restore_41 rfl (lv_at hl 1 rfl) ?_
            refine va_get (D := G) (ci := 6) (v := .ref qs) (C := RX6) (T := TX6) (N := 10) hx hb hts inlX6 hown hK.1 hP 0 rfl rfl 4 (by decide) (hts _ wd81) (fun _ h9 => h9) rfl dX6_restore_42 ?_
            refine lv_bipush (v := 46) hx hb dX6_restore_45 (by decide) ?_
            refine lv_iload_n hx hb dX6_restore_47 rfl (lv_at hl 2 rfl) ?_
            refine zi_mul hx hb 46 j dX6_restore_48 rfl rfl ?_
            refine lv_iload_n hx hb dX6_restore_49 rfl (lv_at hl 0 rfl) ?_
            refine zi_add hx hb (46 * j) i dX6_restore_50 rfl rfl ?_
            refine za_ld hx hb hK.1 hP 4 0 rfl rfl ((46 * j) + i) rfl (by omega) (by decide) dX6_restore_51 ?_
            refine za_st hx hb hK.1 hP hD hS 1 0 rfl rfl i rfl (by omega) (by decide) dX6_restore_52 (fun H660 locs660 hP hD hS => ?_)
            have hP : va_P G vwCl [(qm, .inr (6, [.ref qz, .ref qa, .ref qe, .int (nI (rcN sts)), .ref qs, .ref qv, .ref qp, .int (nI len), .int go, .ref qn])), (qz, .inl (cI, 46, .inl (upd zc i (sl ((46 * j) + i))))), (qa, .inl (cI, 46, .inl as)), (qe, .inl (cI, 276, .inl (rcB be z sts))), (qs, .inl (cI, 92, .inl sl)), (qv, .inl (cZ, 2, .inl sv)), (qp, .inl (cI, 60, .inl pd)), (qn, .inl (cI, 36, .inl nd))] H660 := hP
            have hD : va_D A [(qm, .inr (6, [.ref qz, .ref qa, .ref qe, .int (nI (rcN sts)), .ref qs, .ref qv, .ref qp, .int (nI len), .int go, .ref qn])), (qz, .inl (cI, 46, .inl (upd zc i (sl ((46 * j) + i))))), (qa, .inl (cI, 46, .inl as)), (qe, .inl (cI, 276, .inl (rcB be z sts))), (qs, .inl (cI, 92, .inl sl)), (qv, .inl (cZ, 2, .inl sv)), (qp, .inl (cI, 60, .inl pd)), (qn, .inl (cI, 36, .inl nd))] := hD
            refine lv_iinc (v := nI (i + 1)) (lv' := [(2, .int (nI (i + 1))), (0, .ref qm), (1, .int (nI j))]) hx hb dX6_restore_53 hl (k := 0) rfl (nI_inc i) (by decide) rfl (fun ls hl => ?_)
            refine lv_goto (tgt := 30) hx hb dX6_restore_56 (by decide) ?_
            exact ih1 (i + 1) (upd zc i (sl ((46 * j) + i))) (by omega) (by rw [cpz, ← hf2, Nat.zero_add]) (by omega) H660 locs660 hP hD hS _ (lv_sub hl [0, 1, 2] rfl)
      exact L1 47 0 z (by decide) rfl (by decide) H657 locs657 hP hD hS _ (lv_sub hl [0, 1, 2] rfl)
    · refine lv_bipush (v := (-5)) hx hb dX6_restore_21 (by decide) ?_
      subst hQ
      exact W.iret (v := (-5)) hx hb hr (fun t ht hW => ⟨⟨(-5), (z, be, sts, sl, sv, pd, len, as, go, nd), rfl, ⟨by show _ = Prod.fst (_ : Int32 × KS); rw [m_restore, if_neg (fun h => h c_655), (show (nI j).toNatClampNeg = j from nI_clamp (by omega)), if_pos c_656], by rw [m_restore, if_neg (fun h => h c_655), (show (nI j).toNatClampNeg = j from nI_clamp (by omega)), if_pos c_656]; rfl⟩, by rw [ht]; exact hP, hD⟩, hS.F ht⟩) hS.2.2 dX6_restore_23
  · refine lv_bipush (v := (-2)) hx hb dX6_restore_9 (by decide) ?_
    subst hQ
    exact W.iret (v := (-2)) hx hb hr (fun t ht hW => ⟨⟨(-2), (z, be, sts, sl, sv, pd, len, as, go, nd), rfl, ⟨by show _ = Prod.fst (_ : Int32 × KS); rw [m_restore, if_pos c_655], by rw [m_restore, if_pos c_655]; rfl⟩, by rw [ht]; exact hP, hD⟩, hS.F ht⟩) hS.2.2 dX6_restore_11
