abbrev rm_X6_put : Room := { frames := 1, cells := 0, slots := 0, locals := 22 }
set_option maxHeartbeats 1000000 in
set_option maxRecDepth 100000 in
theorem c_X6_put (l : Launch) (G : va_G) (cI cC cZ cG : ClassId) (sz : Nat) (qm qz qa qe qs qv qp qn : Nat) (z as be sl sv pd nd : IA) (sts len : Nat) (go : Int32) (ch : Int64) (hln : len ≤ 60) : Met l yX6_put (.code yX6_put cX6_put 8 (some .int) :: wsL_law) rm_X6_put (va_Pc [.ref qm, .long ch] (bw G cI cC cZ cG false sz [(qm, .inr (6, [.ref qz, .ref qa, .ref qe, .int (nI sts), .ref qs, .ref qv, .ref qp, .int (nI len), .int go, .ref qn])), (qz, .inl (cI, 46, .inl z)), (qa, .inl (cI, 46, .inl as)), (qe, .inl (cI, 276, .inl be)), (qs, .inl (cI, 92, .inl sl)), (qv, .inl (cZ, 2, .inl sv)), (qp, .inl (cI, 60, .inl pd)), (qn, .inl (cI, 36, .inl nd))])) (va_Qi (fun (r : Int32) (u : MS) => r = (m_put ch (z, be, sts, sl, sv, pd, len)).1 ∧ cor u = (m_put ch (z, be, sts, sl, sv, pd, len)).2) (fun (u : MS) t => va_P G vwCl [(qm, .inr (6, [.ref qz, .ref qa, .ref qe, .int (nI u.2.2.1), .ref qs, .ref qv, .ref qp, .int (nI u.2.2.2.2.2.2.1), .int u.2.2.2.2.2.2.2.2.1, .ref qn])), (qz, .inl (cI, 46, .inl u.1)), (qa, .inl (cI, 46, .inl u.2.2.2.2.2.2.2.1)), (qe, .inl (cI, 276, .inl u.2.1)), (qs, .inl (cI, 92, .inl u.2.2.2.1)), (qv, .inl (cZ, 2, .inl u.2.2.2.2.1)), (qp, .inl (cI, 60, .inl u.2.2.2.2.2.1)), (qn, .inl (cI, 36, .inl u.2.2.2.2.2.2.2.2.2))] t.heap ∧ va_D (va_A [(qm, .inr (6, [.ref qz, .ref qa, .ref qe, .int (nI sts), .ref qs, .ref qv, .ref qp, .int (nI len), .int go, .ref qn])), (qz, .inl (cI, 46, .inl z)), (qa, .inl (cI, 46, .inl as)), (qe, .inl (cI, 276, .inl be)), (qs, .inl (cI, 92, .inl sl)), (qv, .inl (cZ, 2, .inl sv)), (qp, .inl (cI, 60, .inl pd)), (qn, .inl (cI, 36, .inl nd))] sz) [(qm, .inr (6, [.ref qz, .ref qa, .ref qe, .int (nI u.2.2.1), .ref qs, .ref qv, .ref qp, .int (nI u.2.2.2.2.2.2.1), .int u.2.2.2.2.2.2.2.2.1, .ref qn])), (qz, .inl (cI, 46, .inl u.1)), (qa, .inl (cI, 46, .inl u.2.2.2.2.2.2.2.1)), (qe, .inl (cI, 276, .inl u.2.1)), (qs, .inl (cI, 92, .inl u.2.2.2.1)), (qv, .inl (cZ, 2, .inl u.2.2.2.2.1)), (qp, .inl (cI, 60, .inl u.2.2.2.2.2.1)), (qn, .inl (cI, 36, .inl u.2.2.2.2.2.2.2.2.2))]) (va_A [(qm, .inr (6, [.ref qz, .ref qa, .ref qe, .int (nI sts), .ref qs, .ref qv, .ref qp, .int (nI len), .int go, .ref qn])), (qz, .inl (cI, 46, .inl z)), (qa, .inl (cI, 46, .inl as)), (qe, .inl (cI, 276, .inl be)), (qs, .inl (cI, 92, .inl sl)), (qv, .inl (cZ, 2, .inl sv)), (qp, .inl (cI, 60, .inl pd)), (qn, .inl (cI, 36, .inl nd))] sz)) 0 0 (va_A [(qm, .inr (6, [.ref qz, .ref qa, .ref qe, .int (nI sts), .ref qs, .ref qv, .ref qp, .int (nI len), .int go, .ref qn])), (qz, .inl (cI, 46, .inl z)), (qa, .inl (cI, 46, .inl as)), (qe, .inl (cI, 276, .inl be)), (qs, .inl (cI, 92, .inl sl)), (qv, .inl (cZ, 2, .inl sv)), (qp, .inl (cI, 60, .inl pd)), (qn, .inl (cI, 36, .inl nd))] sz) := by
  refine met_bw rfl (Nat.le_of_ble_eq_true rfl) ?_
  intro p e s m below meth c ls hx hb hr hml hown hts hlocks hin hsz hP hK hD0 hX0 hl
  have hown : s.vm.findClass RX6 = some m.cls := hown
  have hl : lv_has ls 8 [(0, .ref qm), (1, .long ch)] := hl
  subst hsz
  have hD := hD0.self (sz := s.heap.size)
  generalize hAe : va_A [(qm, .inr (6, [.ref qz, .ref qa, .ref qe, .int (nI sts), .ref qs, .ref qv, .ref qp, .int (nI len), .int go, .ref qn])), (qz, .inl (cI, 46, .inl z)), (qa, .inl (cI, 46, .inl as)), (qe, .inl (cI, 276, .inl be)), (qs, .inl (cI, 92, .inl sl)), (qv, .inl (cZ, 2, .inl sv)), (qp, .inl (cI, 60, .inl pd)), (qn, .inl (cI, 36, .inl nd))] s.heap.size = A at hD ⊢
  have hA : ∀ q : Nat, s.heap.size ≤ q → A q := fun q h => by rw [← hAe]; exact Or.inr h
  have hS : va_S A s.heap s.heap [] := va_S.rf
  generalize hQ : MQ below (va_Qi (fun (r : Int32) (u : MS) => r = (m_put ch (z, be, sts, sl, sv, pd, len)).1 ∧ cor u = (m_put ch (z, be, sts, sl, sv, pd, len)).2) (fun (u : MS) t => va_P G vwCl [(qm, .inr (6, [.ref qz, .ref qa, .ref qe, .int (nI u.2.2.1), .ref qs, .ref qv, .ref qp, .int (nI u.2.2.2.2.2.2.1), .int u.2.2.2.2.2.2.2.2.1, .ref qn])), (qz, .inl (cI, 46, .inl u.1)), (qa, .inl (cI, 46, .inl u.2.2.2.2.2.2.2.1)), (qe, .inl (cI, 276, .inl u.2.1)), (qs, .inl (cI, 92, .inl u.2.2.2.1)), (qv, .inl (cZ, 2, .inl u.2.2.2.2.1)), (qp, .inl (cI, 60, .inl u.2.2.2.2.2.1)), (qn, .inl (cI, 36, .inl u.2.2.2.2.2.2.2.2.2))] t.heap ∧ va_D A [(qm, .inr (6, [.ref qz, .ref qa, .ref qe, .int (nI u.2.2.1), .ref qs, .ref qv, .ref qp, .int (nI u.2.2.2.2.2.2.1), .int u.2.2.2.2.2.2.2.2.1, .ref qn])), (qz, .inl (cI, 46, .inl u.1)), (qa, .inl (cI, 46, .inl u.2.2.2.2.2.2.2.1)), (qe, .inl (cI, 276, .inl u.2.1)), (qs, .inl (cI, 92, .inl u.2.2.2.1)), (qv, .inl (cZ, 2, .inl u.2.2.2.2.1)), (qp, .inl (cI, 60, .inl u.2.2.2.2.2.1)), (qn, .inl (cI, 36, .inl u.2.2.2.2.2.2.2.2.2))]) A) ([.ref qm, .long ch] : List Value).toArray s 0 0 A = Q
  generalize hag : ([.ref qm, .long ch] : List Value).toArray = ag at hts hQ ⊢
  refine lv_iconst (v := 0) hx hb dX6_put_0 (by decide) ?_
  refine lv_istore_n (lv' := [(3, .int 0), (0, .ref qm), (1, .long ch)]) hx hb dX6_put_1 rfl hl (by decide) rfl (fun ls hl => ?_)
  refine lv_lload_n hx hb dX6_put_2 rfl (lv_at hl 2 rfl) ?_
  refine lv_lstore (lv' := [(4, .long ch), (3, .int 0), (0, .ref qm), (1, .long ch)]) hx hb dX6_put_3 hl (by decide) rfl (fun ls hl => ?_)
  refine lv_lload_n hx hb dX6_put_5 rfl (lv_at hl 3 rfl) ?_
  refine lv_lconst (v := 0) hx hb dX6_put_6 (by decide) ?_
  refine W.lcmp hx hb dX6_put_7 ?_
  refine lv_if_eq (tgt := 15) hx hb dX6_put_8 (by decide) (fun c_662 => ?_) (fun c_662 => ?_)
  · refine lv_iconst (v := 0) hx hb dX6_put_15 (by decide) ?_
    refine lv_istore (lv' := [(6, .int 0), (4, .long ch), (3, .int 0), (0, .ref qm), (1, .long ch)]) hx hb dX6_put_16 hl (by decide) rfl (fun ls hl => ?_)
    have L1 : ∀ (n : Nat), ∀ (i : Nat), ∀ (r : Int64), ∀ (b : Bool), ∀ (hi : i ≤ 8), ∀ (hrr : uN r < 256 ^ (8 - i)), ∀ (hd : dln 8 (uN ch) = i + dln (8 - i) (uN r)), ∀ (hv : padV ch = (b && dok (8 - i) (uN r))), ∀ (hn : 9 ≤ i + n), ∀ (ls : Array Slot), lv_has ls 8 [(6, .int (bz (b = true))), (4, .long r), (3, .int (nI i)), (0, .ref qm), (1, .long ch)] → W p l e rm_X6_put s m ag below meth c s.heap [] 0 0 Q (F0 m 18 ls []) := by
      intro n
      induction n with
      | zero =>
        intro i r b hi hrr hd hv hn ls hl
        omega
      | succ n ih1 =>
        intro i r b hi hrr hd hv hn ls hl
        refine lv_lload hx hb dX6_put_18 (lv_at hl 1 rfl) ?_
        refine lv_lconst (v := 0) hx hb dX6_put_20 (by decide) ?_
        refine W.lcmp hx hb dX6_put_21 ?_
        refine lv_if_eq (tgt := 67) hx hb dX6_put_22 (by decide) (fun c_664 => ?_) (fun c_664 => ?_)
        · refine lv_iload hx hb dX6_put_67 (lv_at hl 0 rfl) ?_
          refine zb_ne (tgt := 75) hx hb dX6_put_69 (by decide) (fun c_665 => ?_) (fun c_665 => ?_)
          · refine lv_aload_n hx hb dX6_put_75 rfl (lv_at hl 3 rfl) ?_
            refine va_get (D := G) (ci := 6) (v := .int (nI len)) (C := RX6) (T := TX6) (N := 10) hx hb hts inlX6 hown hK.1 hP 0 rfl rfl 7 (by decide) (hts _ wd402) (fun _ h9 => h9) rfl dX6_put_76 ?_
            refine lv_iload_n hx hb dX6_put_79 rfl (lv_at hl 2 rfl) ?_
            refine zi_add hx hb len i dX6_put_80 rfl rfl ?_
            refine lv_bipush (v := 60) hx hb dX6_put_81 (by decide) ?_
            refine zi_le (tgt := 89) hx hb (len + i) 60 dX6_put_83 (by decide) rfl rfl (by omega) (by decide) (fun c_666 => ?_) (fun c_666 => ?_)
            · refine lv_iload_n hx hb dX6_put_89 rfl (lv_at hl 2 rfl) ?_
              refine lv_iconst (v := 1) hx hb dX6_put_90 (by decide) ?_
              refine lv_isub hx hb dX6_put_91 ?_
              refine lv_istore (lv' := [(7, .int ((nI i) - 1)), (6, .int (bz (b = true))), (4, .long r), (3, .int (nI i)), (0, .ref qm), (1, .long ch)]) hx hb dX6_put_92 hl (by decide) rfl (fun ls hl => ?_)
              have hdi : dln 8 (uN ch) = i := dln_e (cmp0.mp c_664) hd
              have hvp : padV ch = true := by rw [hv, c_665, dok_e (cmp0.mp c_664)]; rfl
              have L2 : ∀ (n : Nat), ∀ (Ac : Nat), ∀ (x : Int32), ∀ (lc : Nat), ∀ (pc0 : IA), ∀ (hAc : Ac ≤ i), ∀ (hx2 : x = nI Ac - 1), ∀ (hlc : lc = len + (i - Ac)), ∀ (hpc : pc0 = apd pd len (uN ch) i (i - Ac)), ∀ (hn2 : Ac + 1 ≤ n), ∀ (H667 : Heap) (locs667 : List Loc), va_P G vwCl [(qm, .inr (6, [.ref qz, .ref qa, .ref qe, .int (nI sts), .ref qs, .ref qv, .ref qp, .int (nI lc), .int go, .ref qn])), (qz, .inl (cI, 46, .inl z)), (qa, .inl (cI, 46, .inl as)), (qe, .inl (cI, 276, .inl be)), (qs, .inl (cI, 92, .inl sl)), (qv, .inl (cZ, 2, .inl sv)), (qp, .inl (cI, 60, .inl pc0)), (qn, .inl (cI, 36, .inl nd))] H667 → va_D A [(qm, .inr (6, [.ref qz, .ref qa, .ref qe, .int (nI sts), .ref qs, .ref qv, .ref qp, .int (nI lc), .int go, .ref qn])), (qz, .inl (cI, 46, .inl z)), (qa, .inl (cI, 46, .inl as)), (qe, .inl (cI, 276, .inl be)), (qs, .inl (cI, 92, .inl sl)), (qv, .inl (cZ, 2, .inl sv)), (qp, .inl (cI, 60, .inl pc0)), (qn, .inl (cI, 36, .inl nd))] → va_S A s.heap H667 locs667 → ∀ (ls : Array Slot), lv_has ls 8 [(7, .int x), (6, .int (bz (b = true))), (4, .long r), (3, .int (nI i)), (0, .ref qm), (1, .long ch)] → W p l e rm_X6_put s m ag below meth c H667 locs667 0 0 Q (F0 m 94 ls []) := by
                intro n
                induction n with
                | zero =>
                  intro Ac x lc pc0 hAc hx2 hlc hpc hn2 H667 locs667 hP hD hS ls hl
                  omega
                | succ n ih2 =>
                  intro Ac x lc pc0 hAc hx2 hlc hpc hn2 H667 locs667 hP hD hS ls hl
                  rcases Ac with _ | b2
                  · obtain rfl : x = -1 := by rw [hx2]; decide
                    refine lv_iload hx hb dX6_put_94 (lv_at hl 0 rfl) ?_
                    refine lv_if_lt (tgt := 136) hx hb dX6_put_96 (by decide) (fun c_668 => ?_) (fun c_668 => ?_)
                    · refine lv_aload_n hx hb dX6_put_136 rfl (lv_at hl 4 rfl) ?_
                      refine va_get (D := G) (ci := 6) (v := .int (nI lc)) (C := RX6) (T := TX6) (N := 10) hx hb hts inlX6 hown hK.1 hP 0 rfl rfl 7 (by decide) (hts _ wd402) (fun _ h9 => h9) rfl dX6_put_137 ?_
                      subst hQ
                      exact W.iret (v := nI lc) hx hb hr (fun t ht hW => ⟨⟨nI lc, (z, be, sts, sl, sv, pc0, lc, as, go, nd), rfl, ⟨by show _ = Prod.fst (_ : Int32 × KS); rw [m_put, if_neg (padV_p hvp), hdi, if_neg (by show ¬ 60 < len + i; omega)]; show nI lc = nI (len + i); rw [show lc = len + i by omega], by rw [m_put, if_neg (padV_p hvp), hdi, if_neg (by show ¬ 60 < len + i; omega)]; exact cor_eq rfl rfl rfl rfl rfl (by rw [hpc]; rfl) (by omega)⟩, by rw [ht]; exact hP, hD⟩, hS.F ht⟩) hS.2.2 dX6_put_140
                    · exact absurd c_668 (by decide)
                  · obtain rfl : x = nI b2 := by rw [hx2]; exact nI_pred b2
                    refine lv_iload hx hb dX6_put_94 (lv_at hl 0 rfl) ?_
                    refine z0_lt (tgt := 136) hx hb b2 dX6_put_96 (by decide) rfl (by omega) ?_
                    refine lv_aload_n hx hb dX6_put_99 rfl (lv_at hl 4 rfl) ?_
                    refine va_get (D := G) (ci := 6) (v := .ref qp) (C := RX6) (T := TX6) (N := 10) hx hb hts inlX6 hown hK.1 hP 0 rfl rfl 6 (by decide) (hts _ wd84) (fun _ h9 => h9) rfl dX6_put_100 ?_
                    refine lv_aload_n hx hb dX6_put_103 rfl (lv_at hl 4 rfl) ?_
                    refine va_get (D := G) (ci := 6) (v := .int (nI lc)) (C := RX6) (T := TX6) (N := 10) hx hb hts inlX6 hown hK.1 hP 0 rfl rfl 7 (by decide) (hts _ wd402) (fun _ h9 => h9) rfl dX6_put_104 ?_
                    refine lv_lload_n hx hb dX6_put_107 rfl (lv_at hl 5 rfl) ?_
                    refine lv_bipush (v := 8) hx hb dX6_put_108 (by decide) ?_
                    refine lv_iload hx hb dX6_put_110 (lv_at hl 0 rfl) ?_
                    refine zi_mul hx hb 8 b2 dX6_put_112 rfl rfl ?_
                    refine lv_lshr hx hb dX6_put_113 rfl ?_
                    refine lv_ldc2 hx hb hown (hts _ wd573) dX6_put_114 ?_
                    refine lv_land hx hb dX6_put_117 ?_
                    refine lv_l2i hx hb dX6_put_118 rfl ?_
                    refine za_st hx hb hK.1 hP hD hS 6 0 rfl rfl lc rfl (by omega) (by decide) dX6_put_119 (fun H670 locs670 hP hD hS => ?_)
                    have hP : va_P G vwCl [(qm, .inr (6, [.ref qz, .ref qa, .ref qe, .int (nI sts), .ref qs, .ref qv, .ref qp, .int (nI lc), .int go, .ref qn])), (qz, .inl (cI, 46, .inl z)), (qa, .inl (cI, 46, .inl as)), (qe, .inl (cI, 276, .inl be)), (qs, .inl (cI, 92, .inl sl)), (qv, .inl (cZ, 2, .inl sv)), (qp, .inl (cI, 60, .inl (upd pc0 lc (((ch >>> ((nI (8 * b2)).toInt64 &&& 63)) &&& 255).toInt32)))), (qn, .inl (cI, 36, .inl nd))] H670 := hP
                    have hD : va_D A [(qm, .inr (6, [.ref qz, .ref qa, .ref qe, .int (nI sts), .ref qs, .ref qv, .ref qp, .int (nI lc), .int go, .ref qn])), (qz, .inl (cI, 46, .inl z)), (qa, .inl (cI, 46, .inl as)), (qe, .inl (cI, 276, .inl be)), (qs, .inl (cI, 92, .inl sl)), (qv, .inl (cZ, 2, .inl sv)), (qp, .inl (cI, 60, .inl (upd pc0 lc (((ch >>> ((nI (8 * b2)).toInt64 &&& 63)) &&& 255).toInt32)))), (qn, .inl (cI, 36, .inl nd))] := hD
                    refine lv_aload_n hx hb dX6_put_120 rfl (lv_at hl 4 rfl) ?_
                    refine lv_dup hx hb dX6_put_121 rfl ?_
                    refine va_get (D := G) (ci := 6) (v := .int (nI lc)) (C := RX6) (T := TX6) (N := 10) hx hb hts inlX6 hown hK.1 hP 0 rfl rfl 7 (by decide) (hts _ wd402) (fun _ h9 => h9) rfl dX6_put_122 ?_
                    refine lv_iconst (v := 1) hx hb dX6_put_125 (by decide) ?_
                    refine zi_add hx hb lc 1 dX6_put_126 rfl rfl ?_
                    refine va_put (D := G) (ci := 6) (v := .int (nI (lc + 1))) (ty := .int) (C := RX6) (T := TX6) (N := 10) hx hb hts inlX6 tyX6 tyX6_ok nmX6 hown hK.1 hP hD hS 0 rfl rfl 7 (by decide) (hts _ wd402) (fun _ h9 => h9) rfl (by decide +kernel) rfl rfl (Nat.le_of_ble_eq_true rfl) dX6_put_127 (fun H671 locs671 hP hD hS => ?_)
                    have hP : va_P G vwCl [(qm, .inr (6, [.ref qz, .ref qa, .ref qe, .int (nI sts), .ref qs, .ref qv, .ref qp, .int (nI (lc + 1)), .int go, .ref qn])), (qz, .inl (cI, 46, .inl z)), (qa, .inl (cI, 46, .inl as)), (qe, .inl (cI, 276, .inl be)), (qs, .inl (cI, 92, .inl sl)), (qv, .inl (cZ, 2, .inl sv)), (qp, .inl (cI, 60, .inl (upd pc0 lc (((ch >>> ((nI (8 * b2)).toInt64 &&& 63)) &&& 255).toInt32)))), (qn, .inl (cI, 36, .inl nd))] H671 := hP
                    have hD : va_D A [(qm, .inr (6, [.ref qz, .ref qa, .ref qe, .int (nI sts), .ref qs, .ref qv, .ref qp, .int (nI (lc + 1)), .int go, .ref qn])), (qz, .inl (cI, 46, .inl z)), (qa, .inl (cI, 46, .inl as)), (qe, .inl (cI, 276, .inl be)), (qs, .inl (cI, 92, .inl sl)), (qv, .inl (cZ, 2, .inl sv)), (qp, .inl (cI, 60, .inl (upd pc0 lc (((ch >>> ((nI (8 * b2)).toInt64 &&& 63)) &&& 255).toInt32)))), (qn, .inl (cI, 36, .inl nd))] := hD
                    refine lv_iinc (v := (nI b2) + Int32.ofInt (-1)) (lv' := [(7, .int ((nI b2) + Int32.ofInt (-1))), (6, .int (bz (b = true))), (4, .long r), (3, .int (nI i)), (0, .ref qm), (1, .long ch)]) hx hb dX6_put_130 hl (k := 0) rfl rfl (by decide) rfl (fun ls hl => ?_)
                    refine lv_goto (tgt := 94) hx hb dX6_put_133 (by decide) ?_
                    exact ih2 b2 ((nI b2) + Int32.ofInt (-1)) (lc + 1) (upd pc0 lc (((ch >>> ((nI (8 * b2)).toInt64 &&& 63)) &&& 255).toInt32)) (by omega) (dec_sub b2) (by omega) (by rw [hlc]; exact apd_s hAc hpc (dg_s ch (by omega))) (by omega) H671 locs671 hP hD hS _ (lv_sub hl [0, 1, 2, 3, 4, 5] rfl)
              exact L2 (i + 1) i ((nI i) - 1) len pd (Nat.le_refl i) rfl (by omega) (by rw [Nat.sub_self]; rfl) (by omega) s.heap [] hP hD hS _ (lv_sub hl [0, 1, 2, 3, 4, 5] rfl)
            · refine lv_bipush (v := (-4)) hx hb dX6_put_86 (by decide) ?_
              subst hQ
              exact W.iret (v := (-4)) hx hb hr (fun t ht hW => ⟨⟨(-4), (z, be, sts, sl, sv, pd, len, as, go, nd), rfl, ⟨by show _ = Prod.fst (_ : Int32 × KS); rw [m_put, if_neg (padV_p (by rw [hv, c_665, dok_e (cmp0.mp c_664)]; rfl)), (show dln 8 (uN ch) = i from dln_e (cmp0.mp c_664) hd), if_pos (by omega)], by rw [m_put, if_neg (padV_p (by rw [hv, c_665, dok_e (cmp0.mp c_664)]; rfl)), (show dln 8 (uN ch) = i from dln_e (cmp0.mp c_664) hd), if_pos (by omega)]; rfl⟩, by rw [ht]; exact hP, hD⟩, hS.F ht⟩) hS.2.2 dX6_put_88
          · refine lv_bipush (v := (-2)) hx hb dX6_put_72 (by decide) ?_
            subst hQ
            exact W.iret (v := (-2)) hx hb hr (fun t ht hW => ⟨⟨(-2), (z, be, sts, sl, sv, pd, len, as, go, nd), rfl, ⟨by show _ = Prod.fst (_ : Int32 × KS); rw [m_put, if_pos (padV_n (by rw [hv, bool_n c_665]; simp))], by rw [m_put, if_pos (padV_n (by rw [hv, bool_n c_665]; simp))]; rfl⟩, by rw [ht]; exact hP, hD⟩, hS.F ht⟩) hS.2.2 dX6_put_74
        · refine lv_iload hx hb dX6_put_25 (lv_at hl 0 rfl) ?_
          refine zb_eq (tgt := 51) hx hb dX6_put_27 (by decide) (fun c_672 => ?_) (fun c_672 => ?_)
          · refine lv_iconst (v := 0) hx hb dX6_put_51 (by decide) ?_
            refine lv_istore (lv' := [(6, .int 0), (4, .long r), (3, .int (nI i)), (0, .ref qm), (1, .long ch)]) hx hb dX6_put_52 hl (by decide) rfl (fun ls hl => ?_)
            refine lv_iinc (v := nI (i + 1)) (lv' := [(3, .int (nI (i + 1))), (6, .int 0), (4, .long r), (0, .ref qm), (1, .long ch)]) hx hb dX6_put_54 hl (k := 2) rfl (nI_inc i) (by decide) rfl (fun ls hl => ?_)
            refine lv_lload hx hb dX6_put_57 (lv_at hl 2 rfl) ?_
            refine lv_bipush (v := 8) hx hb dX6_put_59 (by decide) ?_
            refine lv_lushr hx hb dX6_put_61 rfl ?_
            refine lv_lstore (lv' := [(4, .long ((r.toUInt64 >>> ((8 : Int32).toInt64.toUInt64 &&& Int64.toUInt64 63)).toInt64)), (3, .int (nI (i + 1))), (6, .int 0), (0, .ref qm), (1, .long ch)]) hx hb dX6_put_62 hl (by decide) rfl (fun ls hl => ?_)
            refine lv_goto (tgt := 18) hx hb dX6_put_64 (by decide) ?_
            have hnz := fun q => c_664 (cmp0.mpr q)
            have hps := put_st hi hrr hnz
            exact ih1 (i + 1) ((r.toUInt64 >>> ((8 : Int32).toInt64.toUInt64 &&& Int64.toUInt64 63)).toInt64) false (by omega) (by rw [uN_8]; exact hps.2) (by rw [uN_8]; exact dln_s hps.1 hnz hd) (by rw [uN_8]; exact (by rw [hv, bool_n c_672]; rfl)) (by omega) _ (lv_sub hl [2, 0, 1, 3, 4] rfl)
          · refine lv_lload hx hb dX6_put_30 (lv_at hl 1 rfl) ?_
            refine lv_ldc2 hx hb hown (hts _ wd573) dX6_put_32 ?_
            refine lv_land hx hb dX6_put_35 ?_
            refine lv_l2i hx hb dX6_put_36 rfl ?_
            refine lv_bipush (v := 33) hx hb dX6_put_37 (by decide) ?_
            refine lv_bipush (v := 126) hx hb dX6_put_39 (by decide) ?_
            refine vp_callSi (va_Run.run (va_runS (As := [.int ((r &&& 255).toInt32), .int 33, .int 126]) (rest := []) ⟨hx, hb, hml, hown, hts⟩ (c_X6_in l ((r &&& 255).toInt32) 33 126) (cf_RX6_32 hts ⟨Nat.le_of_ble_eq_true rfl, Nat.le_of_ble_eq_true rfl⟩) pre_P rfl rfl hl.1 rfl (lv_room (Nat.le_of_ble_eq_true rfl)) dX6_put_41 ⟨Nat.le_of_ble_eq_true rfl, Nat.le_of_ble_eq_true rfl⟩)) (fun r673 hr673 => ?_)
            subst hr673
            refine zb_eq (tgt := 51) hx hb dX6_put_44 (by decide) (fun c_674 => ?_) (fun c_674 => ?_)
            · refine lv_iconst (v := 0) hx hb dX6_put_51 (by decide) ?_
              refine lv_istore (lv' := [(6, .int 0), (4, .long r), (3, .int (nI i)), (0, .ref qm), (1, .long ch)]) hx hb dX6_put_52 hl (by decide) rfl (fun ls hl => ?_)
              refine lv_iinc (v := nI (i + 1)) (lv' := [(3, .int (nI (i + 1))), (6, .int 0), (4, .long r), (0, .ref qm), (1, .long ch)]) hx hb dX6_put_54 hl (k := 2) rfl (nI_inc i) (by decide) rfl (fun ls hl => ?_)
              refine lv_lload hx hb dX6_put_57 (lv_at hl 2 rfl) ?_
              refine lv_bipush (v := 8) hx hb dX6_put_59 (by decide) ?_
              refine lv_lushr hx hb dX6_put_61 rfl ?_
              refine lv_lstore (lv' := [(4, .long ((r.toUInt64 >>> ((8 : Int32).toInt64.toUInt64 &&& Int64.toUInt64 63)).toInt64)), (3, .int (nI (i + 1))), (6, .int 0), (0, .ref qm), (1, .long ch)]) hx hb dX6_put_62 hl (by decide) rfl (fun ls hl => ?_)
              refine lv_goto (tgt := 18) hx hb dX6_put_64 (by decide) ?_
              have hnz := fun q => c_664 (cmp0.mpr q)
              have hps := put_st hi hrr hnz
              exact ih1 (i + 1) ((r.toUInt64 >>> ((8 : Int32).toInt64.toUInt64 &&& Int64.toUInt64 63)).toInt64) false (by omega) (by rw [uN_8]; exact hps.2) (by rw [uN_8]; exact dln_s hps.1 hnz hd) (by rw [uN_8]; exact (padV_s0 hps.1 hnz (by rw [hv, c_672]) c_674 _)) (by omega) _ (lv_sub hl [2, 0, 1, 3, 4] rfl)
            · refine lv_iconst (v := 1) hx hb dX6_put_47 (by decide) ?_
              refine lv_goto (tgt := 52) hx hb dX6_put_48 (by decide) ?_
              refine lv_istore (lv' := [(6, .int 1), (4, .long r), (3, .int (nI i)), (0, .ref qm), (1, .long ch)]) hx hb dX6_put_52 hl (by decide) rfl (fun ls hl => ?_)
              refine lv_iinc (v := nI (i + 1)) (lv' := [(3, .int (nI (i + 1))), (6, .int 1), (4, .long r), (0, .ref qm), (1, .long ch)]) hx hb dX6_put_54 hl (k := 2) rfl (nI_inc i) (by decide) rfl (fun ls hl => ?_)
              refine lv_lload hx hb dX6_put_57 (lv_at hl 2 rfl) ?_
              refine lv_bipush (v := 8) hx hb dX6_put_59 (by decide) ?_
              refine lv_lushr hx hb dX6_put_61 rfl ?_
              refine lv_lstore (lv' := [(4, .long ((r.toUInt64 >>> ((8 : Int32).toInt64.toUInt64 &&& Int64.toUInt64 63)).toInt64)), (3, .int (nI (i + 1))), (6, .int 1), (0, .ref qm), (1, .long ch)]) hx hb dX6_put_62 hl (by decide) rfl (fun ls hl => ?_)
              refine lv_goto (tgt := 18) hx hb dX6_put_64 (by decide) ?_
              have hnz := fun q => c_664 (cmp0.mpr q)
              have hps := put_st hi hrr hnz
              exact ih1 (i + 1) ((r.toUInt64 >>> ((8 : Int32).toInt64.toUInt64 &&& Int64.toUInt64 63)).toInt64) true (by omega) (by rw [uN_8]; exact hps.2) (by rw [uN_8]; exact dln_s hps.1 hnz hd) (by rw [uN_8]; exact (padV_s1 hps.1 hnz (by rw [hv, c_672]) c_674)) (by omega) _ (lv_sub hl [2, 0, 1, 3, 4] rfl)
    exact L1 9 0 ch false (by decide) (pow8 ch) (by rw [Nat.zero_add]) (by rw [padV, decide_eq_false (fun q => q (cmp0.mp c_662))]) (by decide) _ (lv_sub hl [0, 1, 2, 3, 4] rfl)
  · refine lv_iconst (v := 1) hx hb dX6_put_11 (by decide) ?_
    refine lv_goto (tgt := 16) hx hb dX6_put_12 (by decide) ?_
    refine lv_istore (lv' := [(6, .int 1), (4, .long ch), (3, .int 0), (0, .ref qm), (1, .long ch)]) hx hb dX6_put_16 hl (by decide) rfl (fun ls hl => ?_)
    have L3 : ∀ (n : Nat), ∀ (i : Nat), ∀ (r : Int64), ∀ (b : Bool), ∀ (hi : i ≤ 8), ∀ (hrr : uN r < 256 ^ (8 - i)), ∀ (hd : dln 8 (uN ch) = i + dln (8 - i) (uN r)), ∀ (hv : padV ch = (b && dok (8 - i) (uN r))), ∀ (hn : 9 ≤ i + n), ∀ (ls : Array Slot), lv_has ls 8 [(6, .int (bz (b = true))), (4, .long r), (3, .int (nI i)), (0, .ref qm), (1, .long ch)] → W p l e rm_X6_put s m ag below meth c s.heap [] 0 0 Q (F0 m 18 ls []) := by
      intro n
      induction n with
      | zero =>
        intro i r b hi hrr hd hv hn ls hl
        omega
      | succ n ih3 =>
        intro i r b hi hrr hd hv hn ls hl
        refine lv_lload hx hb dX6_put_18 (lv_at hl 1 rfl) ?_
        refine lv_lconst (v := 0) hx hb dX6_put_20 (by decide) ?_
        refine W.lcmp hx hb dX6_put_21 ?_
        refine lv_if_eq (tgt := 67) hx hb dX6_put_22 (by decide) (fun c_676 => ?_) (fun c_676 => ?_)
        · refine lv_iload hx hb dX6_put_67 (lv_at hl 0 rfl) ?_
          refine zb_ne (tgt := 75) hx hb dX6_put_69 (by decide) (fun c_677 => ?_) (fun c_677 => ?_)
          · refine lv_aload_n hx hb dX6_put_75 rfl (lv_at hl 3 rfl) ?_
            refine va_get (D := G) (ci := 6) (v := .int (nI len)) (C := RX6) (T := TX6) (N := 10) hx hb hts inlX6 hown hK.1 hP 0 rfl rfl 7 (by decide) (hts _ wd402) (fun _ h9 => h9) rfl dX6_put_76 ?_
            refine lv_iload_n hx hb dX6_put_79 rfl (lv_at hl 2 rfl) ?_
            refine zi_add hx hb len i dX6_put_80 rfl rfl ?_
            refine lv_bipush (v := 60) hx hb dX6_put_81 (by decide) ?_
            refine zi_le (tgt := 89) hx hb (len + i) 60 dX6_put_83 (by decide) rfl rfl (by omega) (by decide) (fun c_678 => ?_) (fun c_678 => ?_)
            · refine lv_iload_n hx hb dX6_put_89 rfl (lv_at hl 2 rfl) ?_
              refine lv_iconst (v := 1) hx hb dX6_put_90 (by decide) ?_
              refine lv_isub hx hb dX6_put_91 ?_
              refine lv_istore (lv' := [(7, .int ((nI i) - 1)), (6, .int (bz (b = true))), (4, .long r), (3, .int (nI i)), (0, .ref qm), (1, .long ch)]) hx hb dX6_put_92 hl (by decide) rfl (fun ls hl => ?_)
              have hdi : dln 8 (uN ch) = i := dln_e (cmp0.mp c_676) hd
              have hvp : padV ch = true := by rw [hv, c_677, dok_e (cmp0.mp c_676)]; rfl
              have L4 : ∀ (n : Nat), ∀ (Ac : Nat), ∀ (x : Int32), ∀ (lc : Nat), ∀ (pc0 : IA), ∀ (hAc : Ac ≤ i), ∀ (hx2 : x = nI Ac - 1), ∀ (hlc : lc = len + (i - Ac)), ∀ (hpc : pc0 = apd pd len (uN ch) i (i - Ac)), ∀ (hn2 : Ac + 1 ≤ n), ∀ (H679 : Heap) (locs679 : List Loc), va_P G vwCl [(qm, .inr (6, [.ref qz, .ref qa, .ref qe, .int (nI sts), .ref qs, .ref qv, .ref qp, .int (nI lc), .int go, .ref qn])), (qz, .inl (cI, 46, .inl z)), (qa, .inl (cI, 46, .inl as)), (qe, .inl (cI, 276, .inl be)), (qs, .inl (cI, 92, .inl sl)), (qv, .inl (cZ, 2, .inl sv)), (qp, .inl (cI, 60, .inl pc0)), (qn, .inl (cI, 36, .inl nd))] H679 → va_D A [(qm, .inr (6, [.ref qz, .ref qa, .ref qe, .int (nI sts), .ref qs, .ref qv, .ref qp, .int (nI lc), .int go, .ref qn])), (qz, .inl (cI, 46, .inl z)), (qa, .inl (cI, 46, .inl as)), (qe, .inl (cI, 276, .inl be)), (qs, .inl (cI, 92, .inl sl)), (qv, .inl (cZ, 2, .inl sv)), (qp, .inl (cI, 60, .inl pc0)), (qn, .inl (cI, 36, .inl nd))] → va_S A s.heap H679 locs679 → ∀ (ls : Array Slot), lv_has ls 8 [(7, .int x), (6, .int (bz (b = true))), (4, .long r), (3, .int (nI i)), (0, .ref qm), (1, .long ch)] → W p l e rm_X6_put s m ag below meth c H679 locs679 0 0 Q (F0 m 94 ls []) := by
                intro n
                induction n with
                | zero =>
                  intro Ac x lc pc0 hAc hx2 hlc hpc hn2 H679 locs679 hP hD hS ls hl
                  omega
                | succ n ih4 =>
                  intro Ac x lc pc0 hAc hx2 hlc hpc hn2 H679 locs679 hP hD hS ls hl
                  rcases Ac with _ | b2
                  · obtain rfl : x = -1 := by rw [hx2]; decide
                    refine lv_iload hx hb dX6_put_94 (lv_at hl 0 rfl) ?_
                    refine lv_if_lt (tgt := 136) hx hb dX6_put_96 (by decide) (fun c_680 => ?_) (fun c_680 => ?_)
                    · refine lv_aload_n hx hb dX6_put_136 rfl (lv_at hl 4 rfl) ?_
                      refine va_get (D := G) (ci := 6) (v := .int (nI lc)) (C := RX6) (T := TX6) (N := 10) hx hb hts inlX6 hown hK.1 hP 0 rfl rfl 7 (by decide) (hts _ wd402) (fun _ h9 => h9) rfl dX6_put_137 ?_
                      subst hQ
                      exact W.iret (v := nI lc) hx hb hr (fun t ht hW => ⟨⟨nI lc, (z, be, sts, sl, sv, pc0, lc, as, go, nd), rfl, ⟨by show _ = Prod.fst (_ : Int32 × KS); rw [m_put, if_neg (padV_p hvp), hdi, if_neg (by show ¬ 60 < len + i; omega)]; show nI lc = nI (len + i); rw [show lc = len + i by omega], by rw [m_put, if_neg (padV_p hvp), hdi, if_neg (by show ¬ 60 < len + i; omega)]; exact cor_eq rfl rfl rfl rfl rfl (by rw [hpc]; rfl) (by omega)⟩, by rw [ht]; exact hP, hD⟩, hS.F ht⟩) hS.2.2 dX6_put_140
                    · exact absurd c_680 (by decide)
                  · obtain rfl : x = nI b2 := by rw [hx2]; exact nI_pred b2
                    refine lv_iload hx hb dX6_put_94 (lv_at hl 0 rfl) ?_
                    refine z0_lt (tgt := 136) hx hb b2 dX6_put_96 (by decide) rfl (by omega) ?_
                    refine lv_aload_n hx hb dX6_put_99 rfl (lv_at hl 4 rfl) ?_
                    refine va_get (D := G) (ci := 6) (v := .ref qp) (C := RX6) (T := TX6) (N := 10) hx hb hts inlX6 hown hK.1 hP 0 rfl rfl 6 (by decide) (hts _ wd84) (fun _ h9 => h9) rfl dX6_put_100 ?_
                    refine lv_aload_n hx hb dX6_put_103 rfl (lv_at hl 4 rfl) ?_
                    refine va_get (D := G) (ci := 6) (v := .int (nI lc)) (C := RX6) (T := TX6) (N := 10) hx hb hts inlX6 hown hK.1 hP 0 rfl rfl 7 (by decide) (hts _ wd402) (fun _ h9 => h9) rfl dX6_put_104 ?_
                    refine lv_lload_n hx hb dX6_put_107 rfl (lv_at hl 5 rfl) ?_
                    refine lv_bipush (v := 8) hx hb dX6_put_108 (by decide) ?_
                    refine lv_iload hx hb dX6_put_110 (lv_at hl 0 rfl) ?_
                    refine zi_mul hx hb 8 b2 dX6_put_112 rfl rfl ?_
                    refine lv_lshr hx hb dX6_put_113 rfl ?_
                    refine lv_ldc2 hx hb hown (hts _ wd573) dX6_put_114 ?_
                    refine lv_land hx hb dX6_put_117 ?_
                    refine lv_l2i hx hb dX6_put_118 rfl ?_
                    refine za_st hx hb hK.1 hP hD hS 6 0 rfl rfl lc rfl (by omega) (by decide) dX6_put_119 (fun H682 locs682 hP hD hS => ?_)
                    have hP : va_P G vwCl [(qm, .inr (6, [.ref qz, .ref qa, .ref qe, .int (nI sts), .ref qs, .ref qv, .ref qp, .int (nI lc), .int go, .ref qn])), (qz, .inl (cI, 46, .inl z)), (qa, .inl (cI, 46, .inl as)), (qe, .inl (cI, 276, .inl be)), (qs, .inl (cI, 92, .inl sl)), (qv, .inl (cZ, 2, .inl sv)), (qp, .inl (cI, 60, .inl (upd pc0 lc (((ch >>> ((nI (8 * b2)).toInt64 &&& 63)) &&& 255).toInt32)))), (qn, .inl (cI, 36, .inl nd))] H682 := hP
                    have hD : va_D A [(qm, .inr (6, [.ref qz, .ref qa, .ref qe, .int (nI sts), .ref qs, .ref qv, .ref qp, .int (nI lc), .int go, .ref qn])), (qz, .inl (cI, 46, .inl z)), (qa, .inl (cI, 46, .inl as)), (qe, .inl (cI, 276, .inl be)), (qs, .inl (cI, 92, .inl sl)), (qv, .inl (cZ, 2, .inl sv)), (qp, .inl (cI, 60, .inl (upd pc0 lc (((ch >>> ((nI (8 * b2)).toInt64 &&& 63)) &&& 255).toInt32)))), (qn, .inl (cI, 36, .inl nd))] := hD
                    refine lv_aload_n hx hb dX6_put_120 rfl (lv_at hl 4 rfl) ?_
                    refine lv_dup hx hb dX6_put_121 rfl ?_
                    refine va_get (D := G) (ci := 6) (v := .int (nI lc)) (C := RX6) (T := TX6) (N := 10) hx hb hts inlX6 hown hK.1 hP 0 rfl rfl 7 (by decide) (hts _ wd402) (fun _ h9 => h9) rfl dX6_put_122 ?_
                    refine lv_iconst (v := 1) hx hb dX6_put_125 (by decide) ?_
                    refine zi_add hx hb lc 1 dX6_put_126 rfl rfl ?_
                    refine va_put (D := G) (ci := 6) (v := .int (nI (lc + 1))) (ty := .int) (C := RX6) (T := TX6) (N := 10) hx hb hts inlX6 tyX6 tyX6_ok nmX6 hown hK.1 hP hD hS 0 rfl rfl 7 (by decide) (hts _ wd402) (fun _ h9 => h9) rfl (by decide +kernel) rfl rfl (Nat.le_of_ble_eq_true rfl) dX6_put_127 (fun H683 locs683 hP hD hS => ?_)
                    have hP : va_P G vwCl [(qm, .inr (6, [.ref qz, .ref qa, .ref qe, .int (nI sts), .ref qs, .ref qv, .ref qp, .int (nI (lc + 1)), .int go, .ref qn])), (qz, .inl (cI, 46, .inl z)), (qa, .inl (cI, 46, .inl as)), (qe, .inl (cI, 276, .inl be)), (qs, .inl (cI, 92, .inl sl)), (qv, .inl (cZ, 2, .inl sv)), (qp, .inl (cI, 60, .inl (upd pc0 lc (((ch >>> ((nI (8 * b2)).toInt64 &&& 63)) &&& 255).toInt32)))), (qn, .inl (cI, 36, .inl nd))] H683 := hP
                    have hD : va_D A [(qm, .inr (6, [.ref qz, .ref qa, .ref qe, .int (nI sts), .ref qs, .ref qv, .ref qp, .int (nI (lc + 1)), .int go, .ref qn])), (qz, .inl (cI, 46, .inl z)), (qa, .inl (cI, 46, .inl as)), (qe, .inl (cI, 276, .inl be)), (qs, .inl (cI, 92, .inl sl)), (qv, .inl (cZ, 2, .inl sv)), (qp, .inl (cI, 60, .inl (upd pc0 lc (((ch >>> ((nI (8 * b2)).toInt64 &&& 63)) &&& 255).toInt32)))), (qn, .inl (cI, 36, .inl nd))] := hD
                    refine lv_iinc (v := (nI b2) + Int32.ofInt (-1)) (lv' := [(7, .int ((nI b2) + Int32.ofInt (-1))), (6, .int (bz (b = true))), (4, .long r), (3, .int (nI i)), (0, .ref qm), (1, .long ch)]) hx hb dX6_put_130 hl (k := 0) rfl rfl (by decide) rfl (fun ls hl => ?_)
                    refine lv_goto (tgt := 94) hx hb dX6_put_133 (by decide) ?_
                    exact ih4 b2 ((nI b2) + Int32.ofInt (-1)) (lc + 1) (upd pc0 lc (((ch >>> ((nI (8 * b2)).toInt64 &&& 63)) &&& 255).toInt32)) (by omega) (dec_sub b2) (by omega) (by rw [hlc]; exact apd_s hAc hpc (dg_s ch (by omega))) (by omega) H683 locs683 hP hD hS _ (lv_sub hl [0, 1, 2, 3, 4, 5] rfl)
              exact L4 (i + 1) i ((nI i) - 1) len pd (Nat.le_refl i) rfl (by omega) (by rw [Nat.sub_self]; rfl) (by omega) s.heap [] hP hD hS _ (lv_sub hl [0, 1, 2, 3, 4, 5] rfl)
            · refine lv_bipush (v := (-4)) hx hb dX6_put_86 (by decide) ?_
              subst hQ
              exact W.iret (v := (-4)) hx hb hr (fun t ht hW => ⟨⟨(-4), (z, be, sts, sl, sv, pd, len, as, go, nd), rfl, ⟨by show _ = Prod.fst (_ : Int32 × KS); rw [m_put, if_neg (padV_p (by rw [hv, c_677, dok_e (cmp0.mp c_676)]; rfl)), (show dln 8 (uN ch) = i from dln_e (cmp0.mp c_676) hd), if_pos (by omega)], by rw [m_put, if_neg (padV_p (by rw [hv, c_677, dok_e (cmp0.mp c_676)]; rfl)), (show dln 8 (uN ch) = i from dln_e (cmp0.mp c_676) hd), if_pos (by omega)]; rfl⟩, by rw [ht]; exact hP, hD⟩, hS.F ht⟩) hS.2.2 dX6_put_88
          · refine lv_bipush (v := (-2)) hx hb dX6_put_72 (by decide) ?_
            subst hQ
            exact W.iret (v := (-2)) hx hb hr (fun t ht hW => ⟨⟨(-2), (z, be, sts, sl, sv, pd, len, as, go, nd), rfl, ⟨by show _ = Prod.fst (_ : Int32 × KS); rw [m_put, if_pos (padV_n (by rw [hv, bool_n c_677]; simp))], by rw [m_put, if_pos (padV_n (by rw [hv, bool_n c_677]; simp))]; rfl⟩, by rw [ht]; exact hP, hD⟩, hS.F ht⟩) hS.2.2 dX6_put_74
        · refine lv_iload hx hb dX6_put_25 (lv_at hl 0 rfl) ?_
          refine zb_eq (tgt := 51) hx hb dX6_put_27 (by decide) (fun c_684 => ?_) (fun c_684 => ?_)
          · refine lv_iconst (v := 0) hx hb dX6_put_51 (by decide) ?_
            refine lv_istore (lv' := [(6, .int 0), (4, .long r), (3, .int (nI i)), (0, .ref qm), (1, .long ch)]) hx hb dX6_put_52 hl (by decide) rfl (fun ls hl => ?_)
            refine lv_iinc (v := nI (i + 1)) (lv' := [(3, .int (nI (i + 1))), (6, .int 0), (4, .long r), (0, .ref qm), (1, .long ch)]) hx hb dX6_put_54 hl (k := 2) rfl (nI_inc i) (by decide) rfl (fun ls hl => ?_)
            refine lv_lload hx hb dX6_put_57 (lv_at hl 2 rfl) ?_
            refine lv_bipush (v := 8) hx hb dX6_put_59 (by decide) ?_
            refine lv_lushr hx hb dX6_put_61 rfl ?_
            refine lv_lstore (lv' := [(4, .long ((r.toUInt64 >>> ((8 : Int32).toInt64.toUInt64 &&& Int64.toUInt64 63)).toInt64)), (3, .int (nI (i + 1))), (6, .int 0), (0, .ref qm), (1, .long ch)]) hx hb dX6_put_62 hl (by decide) rfl (fun ls hl => ?_)
            refine lv_goto (tgt := 18) hx hb dX6_put_64 (by decide) ?_
            have hnz := fun q => c_676 (cmp0.mpr q)
            have hps := put_st hi hrr hnz
            exact ih3 (i + 1) ((r.toUInt64 >>> ((8 : Int32).toInt64.toUInt64 &&& Int64.toUInt64 63)).toInt64) false (by omega) (by rw [uN_8]; exact hps.2) (by rw [uN_8]; exact dln_s hps.1 hnz hd) (by rw [uN_8]; exact (by rw [hv, bool_n c_684]; rfl)) (by omega) _ (lv_sub hl [2, 0, 1, 3, 4] rfl)
          · refine lv_lload hx hb dX6_put_30 (lv_at hl 1 rfl) ?_
            refine lv_ldc2 hx hb hown (hts _ wd573) dX6_put_32 ?_
            refine lv_land hx hb dX6_put_35 ?_
            refine lv_l2i hx hb dX6_put_36 rfl ?_
            refine lv_bipush (v := 33) hx hb dX6_put_37 (by decide) ?_
            refine lv_bipush (v := 126) hx hb dX6_put_39 (by decide) ?_
            refine vp_callSi (va_Run.run (va_runS (As := [.int ((r &&& 255).toInt32), .int 33, .int 126]) (rest := []) ⟨hx, hb, hml, hown, hts⟩ (c_X6_in l ((r &&& 255).toInt32) 33 126) (cf_RX6_32 hts ⟨Nat.le_of_ble_eq_true rfl, Nat.le_of_ble_eq_true rfl⟩) pre_P rfl rfl hl.1 rfl (lv_room (Nat.le_of_ble_eq_true rfl)) dX6_put_41 ⟨Nat.le_of_ble_eq_true rfl, Nat.le_of_ble_eq_true rfl⟩)) (fun r685 hr685 => ?_)
            subst hr685
            refine zb_eq (tgt := 51) hx hb dX6_put_44 (by decide) (fun c_686 => ?_) (fun c_686 => ?_)
            · refine lv_iconst (v := 0) hx hb dX6_put_51 (by decide) ?_
              refine lv_istore (lv' := [(6, .int 0), (4, .long r), (3, .int (nI i)), (0, .ref qm), (1, .long ch)]) hx hb dX6_put_52 hl (by decide) rfl (fun ls hl => ?_)
              refine lv_iinc (v := nI (i + 1)) (lv' := [(3, .int (nI (i + 1))), (6, .int 0), (4, .long r), (0, .ref qm), (1, .long ch)]) hx hb dX6_put_54 hl (k := 2) rfl (nI_inc i) (by decide) rfl (fun ls hl => ?_)
              refine lv_lload hx hb dX6_put_57 (lv_at hl 2 rfl) ?_
              refine lv_bipush (v := 8) hx hb dX6_put_59 (by decide) ?_
              refine lv_lushr hx hb dX6_put_61 rfl ?_
              refine lv_lstore (lv' := [(4, .long ((r.toUInt64 >>> ((8 : Int32).toInt64.toUInt64 &&& Int64.toUInt64 63)).toInt64)), (3, .int (nI (i + 1))), (6, .int 0), (0, .ref qm), (1, .long ch)]) hx hb dX6_put_62 hl (by decide) rfl (fun ls hl => ?_)
              refine lv_goto (tgt := 18) hx hb dX6_put_64 (by decide) ?_
              have hnz := fun q => c_676 (cmp0.mpr q)
              have hps := put_st hi hrr hnz
              exact ih3 (i + 1) ((r.toUInt64 >>> ((8 : Int32).toInt64.toUInt64 &&& Int64.toUInt64 63)).toInt64) false (by omega) (by rw [uN_8]; exact hps.2) (by rw [uN_8]; exact dln_s hps.1 hnz hd) (by rw [uN_8]; exact (padV_s0 hps.1 hnz (by rw [hv, c_684]) c_686 _)) (by omega) _ (lv_sub hl [2, 0, 1, 3, 4] rfl)
            · refine lv_iconst (v := 1) hx hb dX6_put_47 (by decide) ?_
              refine lv_goto (tgt := 52) hx hb dX6_put_48 (by decide) ?_
              refine lv_istore (lv' := [(6, .int 1), (4, .long r), (3, .int (nI i)), (0, .ref qm), (1, .long ch)]) hx hb dX6_put_52 hl (by decide) rfl (fun ls hl => ?_)
              refine lv_iinc (v := nI (i + 1)) (lv' := [(3, .int (nI (i + 1))), (6, .int 1), (4, .long r), (0, .ref qm), (1, .long ch)]) hx hb dX6_put_54 hl (k := 2) rfl (nI_inc i) (by decide) rfl (fun ls hl => ?_)
              refine lv_lload hx hb dX6_put_57 (lv_at hl 2 rfl) ?_
              refine lv_bipush (v := 8) hx hb dX6_put_59 (by decide) ?_
              refine lv_lushr hx hb dX6_put_61 rfl ?_
              refine lv_lstore (lv' := [(4, .long ((r.toUInt64 >>> ((8 : Int32).toInt64.toUInt64 &&& Int64.toUInt64 63)).toInt64)), (3, .int (nI (i + 1))), (6, .int 1), (0, .ref qm), (1, .long ch)]) hx hb dX6_put_62 hl (by decide) rfl (fun ls hl => ?_)
              refine lv_goto (tgt := 18) hx hb dX6_put_64 (by decide) ?_
              have hnz := fun q => c_676 (cmp0.mpr q)
              have hps := put_st hi hrr hnz
              exact ih3 (i + 1) ((r.toUInt64 >>> ((8 : Int32).toInt64.toUInt64 &&& Int64.toUInt64 63)).toInt64) true (by omega) (by rw [uN_8]; exact hps.2) (by rw [uN_8]; exact dln_s hps.1 hnz hd) (by rw [uN_8]; exact (padV_s1 hps.1 hnz (by rw [hv, c_684]) c_686)) (by omega) _ (lv_sub hl [2, 0, 1, 3, 4] rfl)
    exact L3 9 0 ch true (by decide) (pow8 ch) (by rw [Nat.zero_add]) (by rw [padV, decide_eq_true (show ¬ uN ch = 0 from fun q => c_662 (cmp0.mpr q))]) (by decide) _ (lv_sub hl [0, 1, 2, 3, 4] rfl)

abbrev rm_X5_lengthOf : Room := { frames := 0, cells := 0, slots := 0, locals := 0 }
set_option maxHeartbeats 1000000 in
set_option maxRecDepth 100000 in
theorem c_X5_lengthOf (l : Launch) (ch : Int64) : Met l yX5_lengthOf (.code yX5_lengthOf cX5_lengthOf 7 (some .int) :: wsL_law) rm_X5_lengthOf (va_Pc [.long ch] (fun _ => True)) (vp_Si (fun r => r = nI (lenL ch))) 0 0 (fun _ => False) := by
  refine met_p rfl (Nat.le_of_ble_eq_true rfl) ?_
  intro p e s m below meth c ls hx hb hr hml hown hts hlocks hl
  have hown : s.vm.findClass RX5 = some m.cls := hown
  have hl : lv_has ls 7 [(0, .long ch)] := hl
  generalize hQ : MQ below (vp_Si (fun r => r = nI (lenL ch))) ([.long ch] : List Value).toArray s 0 0 (fun _ => False) = Q
  generalize hag : ([.long ch] : List Value).toArray = ag at hts hQ ⊢
  refine lv_lload_n hx hb dX5_lengthOf_0 rfl (lv_at hl 0 rfl) ?_
  refine lv_lstore_n (lv' := [(2, .long ch), (0, .long ch)]) hx hb dX5_lengthOf_1 rfl hl (by decide) rfl (fun ls hl => ?_)
  refine lv_iconst (v := 0) hx hb dX5_lengthOf_2 (by decide) ?_
  refine lv_istore (lv' := [(4, .int 0), (2, .long ch), (0, .long ch)]) hx hb dX5_lengthOf_3 hl (by decide) rfl (fun ls hl => ?_)
  have L1 : ∀ (n : Nat), ∀ (i : Nat), ∀ (r : Int64), ∀ (hi : i ≤ 8), ∀ (hrr : uN r < 256 ^ (8 - i)), ∀ (hd : dln 8 (uN ch) = i + dln (8 - i) (uN r)), ∀ (hv : dok 8 (uN ch) = dok (8 - i) (uN r)), ∀ (hn : 9 ≤ i + n), ∀ (ls : Array Slot), lv_has ls 7 [(4, .int (nI i)), (2, .long r), (0, .long ch)] → W p l e rm_X5_lengthOf s m ag below meth c s.heap [] 0 0 Q (F0 m 5 ls []) := by
    intro n
    induction n with
    | zero =>
      intro i r hi hrr hd hv hn ls hl
      omega
    | succ n ih1 =>
      intro i r hi hrr hd hv hn ls hl
      refine lv_iload hx hb dX5_lengthOf_5 (lv_at hl 0 rfl) ?_
      refine lv_bipush (v := 8) hx hb dX5_lengthOf_7 (by decide) ?_
      refine zi_ge (tgt := 60) hx hb i 8 dX5_lengthOf_9 (by decide) rfl rfl (by omega) (by decide) (fun c_688 => ?_) (fun c_688 => ?_)
      · refine lv_lload_n hx hb dX5_lengthOf_60 rfl (lv_at hl 1 rfl) ?_
        refine lv_lconst (v := 0) hx hb dX5_lengthOf_61 (by decide) ?_
        refine W.lcmp hx hb dX5_lengthOf_62 ?_
        refine lv_if_ne (tgt := 71) hx hb dX5_lengthOf_63 (by decide) (fun c_689 => ?_) (fun c_689 => ?_)
        · refine lv_iconst (v := 0) hx hb dX5_lengthOf_71 (by decide) ?_
          subst hQ
          exact W.iret (v := 0) hx hb hr (fun t ht hW => ⟨0, rfl, (absurd (len_8 (by omega) hrr) (fun q => c_689 (cmp0.mpr q))), ht⟩) (fun _ h => absurd h List.not_mem_nil) dX5_lengthOf_72
        · refine lv_iload hx hb dX5_lengthOf_66 (lv_at hl 0 rfl) ?_
          refine lv_goto (tgt := 72) hx hb dX5_lengthOf_68 (by decide) ?_
          subst hQ
          exact W.iret (v := nI i) hx hb hr (fun t ht hW => ⟨nI i, rfl, (len_end (by omega) hrr hd hv (cmp0.mp c_689)), ht⟩) (fun _ h => absurd h List.not_mem_nil) dX5_lengthOf_72
      · refine lv_lload_n hx hb dX5_lengthOf_12 rfl (lv_at hl 1 rfl) ?_
        refine lv_ldc2 hx hb hown (hts _ wd562) dX5_lengthOf_13 ?_
        refine lv_land hx hb dX5_lengthOf_16 ?_
        refine lv_lconst (v := 0) hx hb dX5_lengthOf_17 (by decide) ?_
        refine W.lcmp hx hb dX5_lengthOf_18 ?_
        refine lv_if_eq (tgt := 60) hx hb dX5_lengthOf_19 (by decide) (fun c_690 => ?_) (fun c_690 => ?_)
        · refine lv_lload_n hx hb dX5_lengthOf_60 rfl (lv_at hl 1 rfl) ?_
          refine lv_lconst (v := 0) hx hb dX5_lengthOf_61 (by decide) ?_
          refine W.lcmp hx hb dX5_lengthOf_62 ?_
          refine lv_if_ne (tgt := 71) hx hb dX5_lengthOf_63 (by decide) (fun c_691 => ?_) (fun c_691 => ?_)
          · refine lv_iconst (v := 0) hx hb dX5_lengthOf_71 (by decide) ?_
            subst hQ
            exact W.iret (v := 0) hx hb hr (fun t ht hW => ⟨0, rfl, (len_z (by omega) hrr hv ((cmp255 r).mp c_690) (fun q => c_691 (cmp0.mpr q))), ht⟩) (fun _ h => absurd h List.not_mem_nil) dX5_lengthOf_72
          · refine lv_iload hx hb dX5_lengthOf_66 (lv_at hl 0 rfl) ?_
            refine lv_goto (tgt := 72) hx hb dX5_lengthOf_68 (by decide) ?_
            subst hQ
            exact W.iret (v := nI i) hx hb hr (fun t ht hW => ⟨nI i, rfl, (len_end (by omega) hrr hd hv (cmp0.mp c_691)), ht⟩) (fun _ h => absurd h List.not_mem_nil) dX5_lengthOf_72
        · refine lv_lload_n hx hb dX5_lengthOf_22 rfl (lv_at hl 1 rfl) ?_
          refine lv_ldc2 hx hb hown (hts _ wd562) dX5_lengthOf_23 ?_
          refine lv_land hx hb dX5_lengthOf_26 ?_
          refine lv_lstore (lv' := [(5, .long (r &&& 255)), (4, .int (nI i)), (2, .long r), (0, .long ch)]) hx hb dX5_lengthOf_27 hl (by decide) rfl (fun ls hl => ?_)
          refine lv_lload hx hb dX5_lengthOf_29 (lv_at hl 0 rfl) ?_
          refine lv_ldc2 hx hb hown (hts _ wd563) dX5_lengthOf_31 ?_
          refine W.lcmp hx hb dX5_lengthOf_34 ?_
          refine lv_if_lt (tgt := 47) hx hb dX5_lengthOf_35 (by decide) (fun c_692 => ?_) (fun c_692 => ?_)
          · refine lv_iconst (v := 0) hx hb dX5_lengthOf_47 (by decide) ?_
            subst hQ
            exact W.iret (v := 0) hx hb hr (fun t ht hW => ⟨0, rfl, (len_bad (by omega) hrr hv (cmp_lo c_692) (fun q => c_690 ((cmp255 r).mpr (by rw [q])))), ht⟩) (fun _ h => absurd h List.not_mem_nil) dX5_lengthOf_48
          · refine lv_lload hx hb dX5_lengthOf_38 (lv_at hl 0 rfl) ?_
            refine lv_ldc2 hx hb hown (hts _ wd564) dX5_lengthOf_40 ?_
            refine W.lcmp hx hb dX5_lengthOf_43 ?_
            refine lv_if_le (tgt := 49) hx hb dX5_lengthOf_44 (by decide) (fun c_693 => ?_) (fun c_693 => ?_)
            · refine lv_lload_n hx hb dX5_lengthOf_49 rfl (lv_at hl 2 rfl) ?_
              refine lv_bipush (v := 8) hx hb dX5_lengthOf_50 (by decide) ?_
              refine lv_lushr hx hb dX5_lengthOf_52 rfl ?_
              refine lv_lstore_n (lv' := [(2, .long ((r.toUInt64 >>> ((8 : Int32).toInt64.toUInt64 &&& Int64.toUInt64 63)).toInt64)), (5, .long (r &&& 255)), (4, .int (nI i)), (0, .long ch)]) hx hb dX5_lengthOf_53 rfl hl (by decide) rfl (fun ls hl => ?_)
              refine lv_iinc (v := nI (i + 1)) (lv' := [(4, .int (nI (i + 1))), (2, .long ((r.toUInt64 >>> ((8 : Int32).toInt64.toUInt64 &&& Int64.toUInt64 63)).toInt64)), (5, .long (r &&& 255)), (0, .long ch)]) hx hb dX5_lengthOf_54 hl (k := 2) rfl (nI_inc i) (by decide) rfl (fun ls hl => ?_)
              refine lv_goto (tgt := 5) hx hb dX5_lengthOf_57 (by decide) ?_
              have hnz : ¬ uN r = 0 := fun q => c_690 ((cmp255 r).mpr (by rw [q]))
              have hps := put_st (by omega) hrr hnz
              have hdd : dok 8 (uN ch) = dok (8 - (i + 1)) (uN r / 256) := by rw [hv, dok_s hps.1 hnz, decide_eq_true (cmp_in c_692 c_693), Bool.true_and]
              exact ih1 (i + 1) ((r.toUInt64 >>> ((8 : Int32).toInt64.toUInt64 &&& Int64.toUInt64 63)).toInt64) (by omega) (by rw [uN_8]; exact hps.2) (by rw [uN_8]; exact dln_s hps.1 hnz hd) (by rw [uN_8]; exact hdd) (by omega) _ (lv_sub hl [0, 1, 3] rfl)
            · refine lv_iconst (v := 0) hx hb dX5_lengthOf_47 (by decide) ?_
              subst hQ
              exact W.iret (v := 0) hx hb hr (fun t ht hW => ⟨0, rfl, (len_bad (by omega) hrr hv (cmp_hi c_693) (fun q => c_690 ((cmp255 r).mpr (by rw [q])))), ht⟩) (fun _ h => absurd h List.not_mem_nil) dX5_lengthOf_48
  exact L1 9 0 ch (by decide) (pow8 ch) (by rw [Nat.zero_add]) rfl (by decide) _ (lv_sub hl [0, 1, 2] rfl)

abbrev rm_X3_isCast : Room := { frames := 0, cells := 0, slots := 0, locals := 0 }
set_option maxHeartbeats 1000000 in
set_option maxRecDepth 100000 in
theorem c_X3_isCast (l : Launch) (v : Int32) : Met l yX3_isCast (.code yX3_isCast cX3_isCast 1 (some .boolean) :: wsL_law) rm_X3_isCast (va_Pc [.int v] (fun _ => True)) (vp_Si (fun r => r = bz (inQ v 49 54 = true))) 0 0 (fun _ => False) := by
  refine met_p rfl (Nat.le_of_ble_eq_true rfl) ?_
  intro p e s m below meth c ls hx hb hr hml hown hts hlocks hl
  have hown : s.vm.findClass RX3 = some m.cls := hown
  have hl : lv_has ls 1 [(0, .int v)] := hl
  refine lv_iload_n hx hb dX3_isCast_0 rfl (lv_at hl 0 rfl) ?_
  refine lv_bipush (v := 49) hx hb dX3_isCast_1 (by decide) ?_
  refine lv_icmp_lt (tgt := 16) hx hb dX3_isCast_3 (by decide) (fun c_694 => ?_) (fun c_694 => ?_)
  · refine lv_iconst (v := 0) hx hb dX3_isCast_16 (by decide) ?_
    exact W.zret (v := 0) hx hb hr rfl (fun t ht hW => ⟨0, rfl, bz_f (by simp [inQ, c_694]), ht⟩) (fun _ h => absurd h List.not_mem_nil) dX3_isCast_17
  · refine lv_iload_n hx hb dX3_isCast_6 rfl (lv_at hl 0 rfl) ?_
    refine lv_bipush (v := 54) hx hb dX3_isCast_7 (by decide) ?_
    refine lv_icmp_gt (tgt := 16) hx hb dX3_isCast_9 (by decide) (fun c_695 => ?_) (fun c_695 => ?_)
    · refine lv_iconst (v := 0) hx hb dX3_isCast_16 (by decide) ?_
      exact W.zret (v := 0) hx hb hr rfl (fun t ht hW => ⟨0, rfl, bz_f (by simp [inQ, c_694, c_695]), ht⟩) (fun _ h => absurd h List.not_mem_nil) dX3_isCast_17
    · refine lv_iconst (v := 1) hx hb dX3_isCast_12 (by decide) ?_
      refine lv_goto (tgt := 17) hx hb dX3_isCast_13 (by decide) ?_
      exact W.zret (v := 1) hx hb hr rfl (fun t ht hW => ⟨1, rfl, bz_t (by simp [inQ, c_694, c_695]), ht⟩) (fun _ h => absurd h List.not_mem_nil) dX3_isCast_17

abbrev rm_X3_isPieceOrPass : Room := { frames := 0, cells := 0, slots := 0, locals := 0 }
set_option maxHeartbeats 1000000 in
set_option maxRecDepth 100000 in
theorem c_X3_isPieceOrPass (l : Launch) (v : Int32) : Met l yX3_isPieceOrPass (.code yX3_isPieceOrPass cX3_isPieceOrPass 1 (some .boolean) :: wsL_law) rm_X3_isPieceOrPass (va_Pc [.int v] (fun _ => True)) (vp_Si (fun r => r = bz (inQ v 97 99 = true ∨ v = 45))) 0 0 (fun _ => False) := by
  refine met_p rfl (Nat.le_of_ble_eq_true rfl) ?_
  intro p e s m below meth c ls hx hb hr hml hown hts hlocks hl
  have hown : s.vm.findClass RX3 = some m.cls := hown
  have hl : lv_has ls 1 [(0, .int v)] := hl
  refine lv_iload_n hx hb dX3_isPieceOrPass_0 rfl (lv_at hl 0 rfl) ?_
  refine lv_bipush (v := 97) hx hb dX3_isPieceOrPass_1 (by decide) ?_
  refine lv_icmp_lt (tgt := 12) hx hb dX3_isPieceOrPass_3 (by decide) (fun c_696 => ?_) (fun c_696 => ?_)
  · refine lv_iload_n hx hb dX3_isPieceOrPass_12 rfl (lv_at hl 0 rfl) ?_
    refine lv_bipush (v := 45) hx hb dX3_isPieceOrPass_13 (by decide) ?_
    refine lv_icmp_ne (tgt := 22) hx hb dX3_isPieceOrPass_15 (by decide) (fun c_697 => ?_) (fun c_697 => ?_)
    · refine lv_iconst (v := 0) hx hb dX3_isPieceOrPass_22 (by decide) ?_
      exact W.zret (v := 0) hx hb hr rfl (fun t ht hW => ⟨0, rfl, bz_f (by simp [inQ, c_696, c_697]), ht⟩) (fun _ h => absurd h List.not_mem_nil) dX3_isPieceOrPass_23
    · refine lv_iconst (v := 1) hx hb dX3_isPieceOrPass_18 (by decide) ?_
      refine lv_goto (tgt := 23) hx hb dX3_isPieceOrPass_19 (by decide) ?_
      exact W.zret (v := 1) hx hb hr rfl (fun t ht hW => ⟨1, rfl, bz_t (by simp [inQ, c_696, c_697]), ht⟩) (fun _ h => absurd h List.not_mem_nil) dX3_isPieceOrPass_23
  · refine lv_iload_n hx hb dX3_isPieceOrPass_6 rfl (lv_at hl 0 rfl) ?_
    refine lv_bipush (v := 99) hx hb dX3_isPieceOrPass_7 (by decide) ?_
    refine lv_icmp_le (tgt := 18) hx hb dX3_isPieceOrPass_9 (by decide) (fun c_698 => ?_) (fun c_698 => ?_)
    · refine lv_iconst (v := 1) hx hb dX3_isPieceOrPass_18 (by decide) ?_
      refine lv_goto (tgt := 23) hx hb dX3_isPieceOrPass_19 (by decide) ?_
      exact W.zret (v := 1) hx hb hr rfl (fun t ht hW => ⟨1, rfl, bz_t (by simp [inQ, c_696, c_698]), ht⟩) (fun _ h => absurd h List.not_mem_nil) dX3_isPieceOrPass_23
    · refine lv_iload_n hx hb dX3_isPieceOrPass_12 rfl (lv_at hl 0 rfl) ?_
      refine lv_bipush (v := 45) hx hb dX3_isPieceOrPass_13 (by decide) ?_
      refine lv_icmp_ne (tgt := 22) hx hb dX3_isPieceOrPass_15 (by decide) (fun c_699 => ?_) (fun c_699 => ?_)
      · refine lv_iconst (v := 0) hx hb dX3_isPieceOrPass_22 (by decide) ?_
        exact W.zret (v := 0) hx hb hr rfl (fun t ht hW => ⟨0, rfl, bz_f (by simp [inQ, c_696, c_698, c_699]), ht⟩) (fun _ h => absurd h List.not_mem_nil) dX3_isPieceOrPass_23
      · refine lv_iconst (v := 1) hx hb dX3_isPieceOrPass_18 (by decide) ?_
        refine lv_goto (tgt := 23) hx hb dX3_isPieceOrPass_19 (by decide) ?_
        exact W.zret (v := 1) hx hb hr rfl (fun t ht hW => ⟨1, rfl, bz_t (by simp [inQ, c_696, c_698, c_699]), ht⟩) (fun _ h => absurd h List.not_mem_nil) dX3_isPieceOrPass_23

abbrev rm_X3_moves : Room := { frames := 0, cells := 0, slots := 0, locals := 0 }
set_option maxHeartbeats 1000000 in
set_option maxRecDepth 100000 in
theorem c_X3_moves (l : Launch) (G : va_G) (cI cC cZ cG : ClassId) (sz : Nat) (qd qx : Nat) (tx : IA) (ln : Nat) (hln : ln ≤ 60) : Met l yX3_moves (.code yX3_moves cX3_moves 1 (some .int) :: wsL_law) rm_X3_moves (va_Pc [.ref qd] (bw G cI cC cZ cG false sz [(qd, .inr (3, [.ref qx, .int (nI ln)])), (qx, .inl (cC, 60, .inl tx))])) (vp_Si (fun r => r = nI (ln / 2))) 0 0 (fun _ => False) := by
  refine met_bw rfl (Nat.le_of_ble_eq_true rfl) ?_
  intro p e s m below meth c ls hx hb hr hml hown hts hlocks hin hsz hP hK hD0 hX0 hl
  have hown : s.vm.findClass RX3 = some m.cls := hown
  have hl : lv_has ls 1 [(0, .ref qd)] := hl
  refine lv_aload_n hx hb dX3_moves_0 rfl (lv_at hl 0 rfl) ?_
  refine va_get (D := G) (ci := 3) (v := .int (nI ln)) (C := RX3) (T := TX3) (N := 2) hx hb hts inlX3 hown hK.1 hP 0 rfl rfl 1 (by decide) (hts _ wd66) (fun _ h9 => h9) rfl dX3_moves_1 ?_
  refine lv_iconst (v := 2) hx hb dX3_moves_4 (by decide) ?_
  refine zi_div hx hb ln 2 dX3_moves_5 rfl rfl (by omega) (by decide) (by decide) ?_
  exact W.iret (v := nI (ln / 2)) hx hb hr (fun t ht hW => ⟨nI (ln / 2), rfl, rfl, ht⟩) (fun _ h => absurd h List.not_mem_nil) dX3_moves_6

abbrev rm_X3_castOfMove : Room := { frames := 0, cells := 0, slots := 0, locals := 0 }
set_option maxHeartbeats 1000000 in
set_option maxRecDepth 100000 in
theorem c_X3_castOfMove (l : Launch) (G : va_G) (cI cC cZ cG : ClassId) (sz : Nat) (qd qx : Nat) (tx : IA) (ln : Nat) (k : Nat) (hln : ln ≤ 60) (hk : 2 * k < ln) : Met l yX3_castOfMove (.code yX3_castOfMove cX3_castOfMove 2 (some .int) :: wsL_law) rm_X3_castOfMove (va_Pc [.ref qd, .int (nI k)] (bw G cI cC cZ cG false sz [(qd, .inr (3, [.ref qx, .int (nI ln)])), (qx, .inl (cC, 60, .inl tx))])) (vp_Si (fun r => r = tx (2 * k) - 48)) 0 0 (fun _ => False) := by
  refine met_bw rfl (Nat.le_of_ble_eq_true rfl) ?_
  intro p e s m below meth c ls hx hb hr hml hown hts hlocks hin hsz hP hK hD0 hX0 hl
  have hown : s.vm.findClass RX3 = some m.cls := hown
  have hl : lv_has ls 2 [(0, .ref qd), (1, .int (nI k))] := hl
  refine lv_aload_n hx hb dX3_castOfMove_0 rfl (lv_at hl 0 rfl) ?_
  refine va_get (D := G) (ci := 3) (v := .ref qx) (C := RX3) (T := TX3) (N := 2) hx hb hts inlX3 hown hK.1 hP 0 rfl rfl 0 (by decide) (hts _ wd65) (fun _ h9 => h9) rfl dX3_castOfMove_1 ?_
  refine lv_iconst (v := 2) hx hb dX3_castOfMove_4 (by decide) ?_
  refine lv_iload_n hx hb dX3_castOfMove_5 rfl (lv_at hl 1 rfl) ?_
  refine zi_mul hx hb 2 k dX3_castOfMove_6 rfl rfl ?_
  refine za_ldc hx hb hK.1 hP 1 1 rfl rfl (2 * k) rfl (by omega) (by decide) dX3_castOfMove_7 ?_
  refine lv_bipush (v := 48) hx hb dX3_castOfMove_8 (by decide) ?_
  refine lv_isub hx hb dX3_castOfMove_10 ?_
  exact W.iret (v := (tx (2 * k)) - 48) hx hb hr (fun t ht hW => ⟨(tx (2 * k)) - 48, rfl, rfl, ht⟩) (fun _ h => absurd h List.not_mem_nil) dX3_castOfMove_11

abbrev rm_X3_pieceOfMove : Room := { frames := 0, cells := 0, slots := 0, locals := 0 }
set_option maxHeartbeats 1000000 in
set_option maxRecDepth 100000 in
theorem c_X3_pieceOfMove (l : Launch) (G : va_G) (cI cC cZ cG : ClassId) (sz : Nat) (qd qx : Nat) (tx : IA) (ln : Nat) (k : Nat) (hln : ln ≤ 60) (hk : 2 * k + 1 < ln) : Met l yX3_pieceOfMove (.code yX3_pieceOfMove cX3_pieceOfMove 3 (some .int) :: wsL_law) rm_X3_pieceOfMove (va_Pc [.ref qd, .int (nI k)] (bw G cI cC cZ cG false sz [(qd, .inr (3, [.ref qx, .int (nI ln)])), (qx, .inl (cC, 60, .inl tx))])) (vp_Si (fun r => r = if tx (2 * k + 1) = 45 then -6 else tx (2 * k + 1) - 97)) 0 0 (fun _ => False) := by
  refine met_bw rfl (Nat.le_of_ble_eq_true rfl) ?_
  intro p e s m below meth c ls hx hb hr hml hown hts hlocks hin hsz hP hK hD0 hX0 hl
  have hown : s.vm.findClass RX3 = some m.cls := hown
  have hl : lv_has ls 3 [(0, .ref qd), (1, .int (nI k))] := hl
  refine lv_aload_n hx hb dX3_pieceOfMove_0 rfl (lv_at hl 0 rfl) ?_
  refine va_get (D := G) (ci := 3) (v := .ref qx) (C := RX3) (T := TX3) (N := 2) hx hb hts inlX3 hown hK.1 hP 0 rfl rfl 0 (by decide) (hts _ wd65) (fun _ h9 => h9) rfl dX3_pieceOfMove_1 ?_
  refine lv_iconst (v := 2) hx hb dX3_pieceOfMove_4 (by decide) ?_
  refine lv_iload_n hx hb dX3_pieceOfMove_5 rfl (lv_at hl 1 rfl) ?_
  refine zi_mul hx hb 2 k dX3_pieceOfMove_6 rfl rfl ?_
  refine lv_iconst (v := 1) hx hb dX3_pieceOfMove_7 (by decide) ?_
  refine zi_add hx hb (2 * k) 1 dX3_pieceOfMove_8 rfl rfl ?_
  refine za_ldc hx hb hK.1 hP 1 1 rfl rfl ((2 * k) + 1) rfl (by omega) (by decide) dX3_pieceOfMove_9 ?_
  refine lv_istore_n (lv' := [(2, .int (tx ((2 * k) + 1))), (0, .ref qd), (1, .int (nI k))]) hx hb dX3_pieceOfMove_10 rfl hl (by decide) rfl (fun ls hl => ?_)
  refine lv_iload_n hx hb dX3_pieceOfMove_11 rfl (lv_at hl 0 rfl) ?_
  refine lv_bipush (v := 45) hx hb dX3_pieceOfMove_12 (by decide) ?_
  refine lv_icmp_ne (tgt := 22) hx hb dX3_pieceOfMove_14 (by decide) (fun c_700 => ?_) (fun c_700 => ?_)
  · refine lv_iload_n hx hb dX3_pieceOfMove_22 rfl (lv_at hl 0 rfl) ?_
    refine lv_bipush (v := 97) hx hb dX3_pieceOfMove_23 (by decide) ?_
    refine lv_isub hx hb dX3_pieceOfMove_25 ?_
    exact W.iret (v := (tx ((2 * k) + 1)) - 97) hx hb hr (fun t ht hW => ⟨(tx ((2 * k) + 1)) - 97, rfl, by simp [c_700], ht⟩) (fun _ h => absurd h List.not_mem_nil) dX3_pieceOfMove_26
  · refine lv_bipush (v := (-6)) hx hb dX3_pieceOfMove_17 (by decide) ?_
    refine lv_goto (tgt := 26) hx hb dX3_pieceOfMove_19 (by decide) ?_
    exact W.iret (v := (-6)) hx hb hr (fun t ht hW => ⟨(-6), rfl, by simp [c_700], ht⟩) (fun _ h => absurd h List.not_mem_nil) dX3_pieceOfMove_26

abbrev rm_X3_faultIndex : Room := { frames := 1, cells := 0, slots := 0, locals := 20 }
theorem cf_RX3_25 {R : Room} {s : State} {args : Array Value} (ht : ∀ w ∈ wsL_law, w.before args s = true) (hR : rm_X3_isPieceOrPass.frames + 1 ≤ R.frames ∧ 8 + (1 + 11) + rm_X3_isPieceOrPass.locals ≤ R.locals) : CallB R s args RX3 25 yX3_isPieceOrPass cX3_isPieceOrPass 1 (some .boolean) (.code yX3_isPieceOrPass cX3_isPieceOrPass 1 (some .boolean) :: wsL_law) rm_X3_isPieceOrPass 0 0 1 ∧ (Cond.static yX3_isPieceOrPass).before args s = true := ⟨cw_B 1 ht wd382 wd24 wd384 (by decide +kernel) rfl rfl hR, ht _ wd383⟩
theorem cf_RX3_21 {R : Room} {s : State} {args : Array Value} (ht : ∀ w ∈ wsL_law, w.before args s = true) (hR : rm_X3_isCast.frames + 1 ≤ R.frames ∧ 8 + (1 + 11) + rm_X3_isCast.locals ≤ R.locals) : CallB R s args RX3 21 yX3_isCast cX3_isCast 1 (some .boolean) (.code yX3_isCast cX3_isCast 1 (some .boolean) :: wsL_law) rm_X3_isCast 0 0 1 ∧ (Cond.static yX3_isCast).before args s = true := ⟨cw_B 1 ht wd379 wd24 wd381 (by decide +kernel) rfl rfl hR, ht _ wd380⟩
set_option maxHeartbeats 1000000 in
set_option maxRecDepth 100000 in
theorem c_X3_faultIndex (l : Launch) (G : va_G) (cI cC cZ cG : ClassId) (sz : Nat) (qd qx : Nat) (tx : IA) (ln : Nat) (hln : ln ≤ 60) : Met l yX3_faultIndex (.code yX3_faultIndex cX3_faultIndex 2 (some .int) :: wsL_law) rm_X3_faultIndex (va_Pc [.ref qd] (bw G cI cC cZ cG false sz [(qd, .inr (3, [.ref qx, .int (nI ln)])), (qx, .inl (cC, 60, .inl tx))])) (vp_Si (fun r => r = ffM tx ln)) 0 0 (fun _ => False) := by
  refine met_bw rfl (Nat.le_of_ble_eq_true rfl) ?_
  intro p e s m below meth c ls hx hb hr hml hown hts hlocks hin hsz hP hK hD0 hX0 hl
  have hown : s.vm.findClass RX3 = some m.cls := hown
  have hl : lv_has ls 2 [(0, .ref qd)] := hl
  generalize hQ : MQ below (vp_Si (fun r => r = ffM tx ln)) ([.ref qd] : List Value).toArray s 0 0 (fun _ => False) = Q
  generalize hag : ([.ref qd] : List Value).toArray = ag at hts hQ ⊢
  refine lv_iconst (v := 0) hx hb dX3_faultIndex_0 (by decide) ?_
  refine lv_istore_n (lv' := [(1, .int 0), (0, .ref qd)]) hx hb dX3_faultIndex_1 rfl hl (by decide) rfl (fun ls hl => ?_)
  have L1 : ∀ (n : Nat), ∀ (i : Nat), ∀ (hi : i ≤ ln), ∀ (hf2 : fxs (badM tx) (ffE ln) 0 ln = fxs (badM tx) (ffE ln) i (ln - i)), ∀ (hn : ln + 1 ≤ i + n), ∀ (ls : Array Slot), lv_has ls 2 [(1, .int (nI i)), (0, .ref qd)] → W p l e rm_X3_faultIndex s m ag below meth c s.heap [] 0 0 Q (F0 m 2 ls []) := by
    intro n
    induction n with
    | zero =>
      intro i hi hf2 hn ls hl
      omega
    | succ n ih1 =>
      intro i hi hf2 hn ls hl
      have he : i < ln → ln - i = (ln - (i + 1)) + 1 := fun h => by omega
      refine lv_iload_n hx hb dX3_faultIndex_2 rfl (lv_at hl 0 rfl) ?_
      refine lv_aload_n hx hb dX3_faultIndex_3 rfl (lv_at hl 1 rfl) ?_
      refine va_get (D := G) (ci := 3) (v := .int (nI ln)) (C := RX3) (T := TX3) (N := 2) hx hb hts inlX3 hown hK.1 hP 0 rfl rfl 1 (by decide) (hts _ wd66) (fun _ h9 => h9) rfl dX3_faultIndex_4 ?_
      refine zi_ge (tgt := 51) hx hb i ln dX3_faultIndex_7 (by decide) rfl rfl (by omega) (by omega) (fun c_702 => ?_) (fun c_702 => ?_)
      · refine lv_aload_n hx hb dX3_faultIndex_51 rfl (lv_at hl 1 rfl) ?_
        refine va_get (D := G) (ci := 3) (v := .int (nI ln)) (C := RX3) (T := TX3) (N := 2) hx hb hts inlX3 hown hK.1 hP 0 rfl rfl 1 (by decide) (hts _ wd66) (fun _ h9 => h9) rfl dX3_faultIndex_52 ?_
        refine z0_eq (tgt := 68) hx hb ln dX3_faultIndex_55 (by decide) rfl (by omega) (fun c_703 => ?_) (fun c_703 => ?_)
        · refine lv_aload_n hx hb dX3_faultIndex_68 rfl (lv_at hl 1 rfl) ?_
          refine va_get (D := G) (ci := 3) (v := .int (nI ln)) (C := RX3) (T := TX3) (N := 2) hx hb hts inlX3 hown hK.1 hP 0 rfl rfl 1 (by decide) (hts _ wd66) (fun _ h9 => h9) rfl dX3_faultIndex_69 ?_
          refine lv_goto (tgt := 77) hx hb dX3_faultIndex_72 (by decide) ?_
          subst hQ
          exact W.iret (v := nI ln) hx hb hr (fun t ht hW => ⟨nI ln, rfl, by rw [ffM, hf2, show ln - i = 0 by omega, fxs, ffE]; first | (rw [if_pos (by omega)]) | (rw [if_neg (by omega)]), ht⟩) (fun _ h => absurd h List.not_mem_nil) dX3_faultIndex_77
        · refine lv_aload_n hx hb dX3_faultIndex_58 rfl (lv_at hl 1 rfl) ?_
          refine va_get (D := G) (ci := 3) (v := .int (nI ln)) (C := RX3) (T := TX3) (N := 2) hx hb hts inlX3 hown hK.1 hP 0 rfl rfl 1 (by decide) (hts _ wd66) (fun _ h9 => h9) rfl dX3_faultIndex_59 ?_
          refine lv_iconst (v := 2) hx hb dX3_faultIndex_62 (by decide) ?_
          refine zi_rem hx hb ln 2 dX3_faultIndex_63 rfl rfl (by omega) (by decide) (by decide) ?_
          refine lv_iconst (v := 1) hx hb dX3_faultIndex_64 (by decide) ?_
          refine zi_ne (tgt := 75) hx hb (ln % 2) 1 dX3_faultIndex_65 (by decide) rfl rfl (by omega) (by decide) (fun c_704 => ?_) (fun c_704 => ?_)
          · refine lv_bipush (v := (-6)) hx hb dX3_faultIndex_75 (by decide) ?_
            subst hQ
            exact W.iret (v := (-6)) hx hb hr (fun t ht hW => ⟨(-6), rfl, by rw [ffM, hf2, show ln - i = 0 by omega, fxs, ffE]; first | (rw [if_pos (by omega)]) | (rw [if_neg (by omega)]), ht⟩) (fun _ h => absurd h List.not_mem_nil) dX3_faultIndex_77
          · refine lv_aload_n hx hb dX3_faultIndex_68 rfl (lv_at hl 1 rfl) ?_
            refine va_get (D := G) (ci := 3) (v := .int (nI ln)) (C := RX3) (T := TX3) (N := 2) hx hb hts inlX3 hown hK.1 hP 0 rfl rfl 1 (by decide) (hts _ wd66) (fun _ h9 => h9) rfl dX3_faultIndex_69 ?_
            refine lv_goto (tgt := 77) hx hb dX3_faultIndex_72 (by decide) ?_
            subst hQ
            exact W.iret (v := nI ln) hx hb hr (fun t ht hW => ⟨nI ln, rfl, by rw [ffM, hf2, show ln - i = 0 by omega, fxs, ffE]; first | (rw [if_pos (by omega)]) | (rw [if_neg (by omega)]), ht⟩) (fun _ h => absurd h List.not_mem_nil) dX3_faultIndex_77
      · refine lv_iload_n hx hb dX3_faultIndex_10 rfl (lv_at hl 0 rfl) ?_
        refine lv_iconst (v := 2) hx hb dX3_faultIndex_11 (by decide) ?_
        refine zi_rem hx hb i 2 dX3_faultIndex_12 rfl rfl (by omega) (by decide) (by decide) ?_
        refine z0_ne (tgt := 31) hx hb (i % 2) dX3_faultIndex_13 (by decide) rfl (by omega) (fun c_705 => ?_) (fun c_705 => ?_)
        · refine lv_aload_n hx hb dX3_faultIndex_31 rfl (lv_at hl 1 rfl) ?_
          refine va_get (D := G) (ci := 3) (v := .ref qx) (C := RX3) (T := TX3) (N := 2) hx hb hts inlX3 hown hK.1 hP 0 rfl rfl 0 (by decide) (hts _ wd65) (fun _ h9 => h9) rfl dX3_faultIndex_32 ?_
          refine lv_iload_n hx hb dX3_faultIndex_35 rfl (lv_at hl 0 rfl) ?_
          refine za_ldc hx hb hK.1 hP 1 1 rfl rfl i rfl (by omega) (by decide) dX3_faultIndex_36 ?_
          refine vp_callSi (va_Run.run (va_runS (As := [.int (tx i)]) (rest := []) ⟨hx, hb, hml, hown, hts⟩ (c_X3_isPieceOrPass l (tx i)) (cf_RX3_25 hts ⟨Nat.le_of_ble_eq_true rfl, Nat.le_of_ble_eq_true rfl⟩) pre_P rfl rfl hl.1 rfl (lv_room (Nat.le_of_ble_eq_true rfl)) dX3_faultIndex_37 ⟨Nat.le_of_ble_eq_true rfl, Nat.le_of_ble_eq_true rfl⟩)) (fun r706 hr706 => ?_)
          subst hr706
          refine zb_ne (tgt := 45) hx hb dX3_faultIndex_40 (by decide) (fun c_707 => ?_) (fun c_707 => ?_)
          · refine lv_iinc (v := nI (i + 1)) (lv' := [(1, .int (nI (i + 1))), (0, .ref qd)]) hx hb dX3_faultIndex_45 hl (k := 0) rfl (nI_inc i) (by decide) rfl (fun ls hl => ?_)
            refine lv_goto (tgt := 2) hx hb dX3_faultIndex_48 (by decide) ?_
            exact ih1 (i + 1) (by omega) (by rw [hf2, he c_702]; simp [fxs, badM, c_705, c_707]) (by omega) _ (lv_sub hl [0, 1] rfl)
          · refine lv_iload_n hx hb dX3_faultIndex_43 rfl (lv_at hl 0 rfl) ?_
            subst hQ
            exact W.iret (v := nI i) hx hb hr (fun t ht hW => ⟨nI i, rfl, by rw [ffM, hf2, he c_702]; simp [fxs, badM, c_705, c_707], ht⟩) (fun _ h => absurd h List.not_mem_nil) dX3_faultIndex_44
        · refine lv_aload_n hx hb dX3_faultIndex_16 rfl (lv_at hl 1 rfl) ?_
          refine va_get (D := G) (ci := 3) (v := .ref qx) (C := RX3) (T := TX3) (N := 2) hx hb hts inlX3 hown hK.1 hP 0 rfl rfl 0 (by decide) (hts _ wd65) (fun _ h9 => h9) rfl dX3_faultIndex_17 ?_
          refine lv_iload_n hx hb dX3_faultIndex_20 rfl (lv_at hl 0 rfl) ?_
          refine za_ldc hx hb hK.1 hP 1 1 rfl rfl i rfl (by omega) (by decide) dX3_faultIndex_21 ?_
          refine vp_callSi (va_Run.run (va_runS (As := [.int (tx i)]) (rest := []) ⟨hx, hb, hml, hown, hts⟩ (c_X3_isCast l (tx i)) (cf_RX3_21 hts ⟨Nat.le_of_ble_eq_true rfl, Nat.le_of_ble_eq_true rfl⟩) pre_P rfl rfl hl.1 rfl (lv_room (Nat.le_of_ble_eq_true rfl)) dX3_faultIndex_22 ⟨Nat.le_of_ble_eq_true rfl, Nat.le_of_ble_eq_true rfl⟩)) (fun r708 hr708 => ?_)
          subst hr708
          refine zb_eq (tgt := 43) hx hb dX3_faultIndex_25 (by decide) (fun c_709 => ?_) (fun c_709 => ?_)
          · refine lv_iload_n hx hb dX3_faultIndex_43 rfl (lv_at hl 0 rfl) ?_
            subst hQ
            exact W.iret (v := nI i) hx hb hr (fun t ht hW => ⟨nI i, rfl, by rw [ffM, hf2, he c_702]; simp [fxs, badM, c_705, c_709], ht⟩) (fun _ h => absurd h List.not_mem_nil) dX3_faultIndex_44
          · refine lv_goto (tgt := 45) hx hb dX3_faultIndex_28 (by decide) ?_
            refine lv_iinc (v := nI (i + 1)) (lv' := [(1, .int (nI (i + 1))), (0, .ref qd)]) hx hb dX3_faultIndex_45 hl (k := 0) rfl (nI_inc i) (by decide) rfl (fun ls hl => ?_)
            refine lv_goto (tgt := 2) hx hb dX3_faultIndex_48 (by decide) ?_
            exact ih1 (i + 1) (by omega) (by rw [hf2, he c_702]; simp [fxs, badM, c_705, c_709]) (by omega) _ (lv_sub hl [0, 1] rfl)
  exact L1 (ln + 1) 0 (by omega) (by rw [Nat.sub_zero]) (by omega) _ (lv_sub hl [0, 1] rfl)

abbrev rm_X3_append : Room := { frames := 0, cells := 0, slots := 0, locals := 0 }
set_option maxHeartbeats 1000000 in
set_option maxRecDepth 100000 in
theorem c_X3_append (l : Launch) (G : va_G) (cI cC cZ cG : ClassId) (sz : Nat) (qd qx : Nat) (tx : IA) (ln : Nat) (ch : Int64) (mo : Nat) (hmo : ln + mo ≤ 60) (hm8 : mo ≤ 8) : Met l yX3_append (.code yX3_append cX3_append 5 none :: wsL_law) rm_X3_append (va_Pc [.ref qd, .long ch, .int (nI mo)] (bw G cI cC cZ cG false sz [(qd, .inr (3, [.ref qx, .int (nI ln)])), (qx, .inl (cC, 60, .inl tx))])) (va_Qv (fun (u : IA × Nat) => u = (apd tx ln (uN ch) mo mo, ln + mo)) (fun (u : IA × Nat) t => va_P G vwCl [(qd, .inr (3, [.ref qx, .int (nI u.2)])), (qx, .inl (cC, 60, .inl u.1))] t.heap ∧ va_D (va_A [(qd, .inr (3, [.ref qx, .int (nI ln)])), (qx, .inl (cC, 60, .inl tx))] sz) [(qd, .inr (3, [.ref qx, .int (nI u.2)])), (qx, .inl (cC, 60, .inl u.1))]) (va_A [(qd, .inr (3, [.ref qx, .int (nI ln)])), (qx, .inl (cC, 60, .inl tx))] sz)) 0 0 (va_A [(qd, .inr (3, [.ref qx, .int (nI ln)])), (qx, .inl (cC, 60, .inl tx))] sz) := by
  refine met_bw rfl (Nat.le_of_ble_eq_true rfl) ?_
  intro p e s m below meth c ls hx hb hr hml hown hts hlocks hin hsz hP hK hD0 hX0 hl
  have hown : s.vm.findClass RX3 = some m.cls := hown
  have hl : lv_has ls 5 [(0, .ref qd), (1, .long ch), (3, .int (nI mo))] := hl
  subst hsz
  have hD := hD0.self (sz := s.heap.size)
  generalize hAe : va_A [(qd, .inr (3, [.ref qx, .int (nI ln)])), (qx, .inl (cC, 60, .inl tx))] s.heap.size = A at hD ⊢
  have hA : ∀ q : Nat, s.heap.size ≤ q → A q := fun q h => by rw [← hAe]; exact Or.inr h
  have hS : va_S A s.heap s.heap [] := va_S.rf
  generalize hQ : MQ below (va_Qv (fun (u : IA × Nat) => u = (apd tx ln (uN ch) mo mo, ln + mo)) (fun (u : IA × Nat) t => va_P G vwCl [(qd, .inr (3, [.ref qx, .int (nI u.2)])), (qx, .inl (cC, 60, .inl u.1))] t.heap ∧ va_D A [(qd, .inr (3, [.ref qx, .int (nI u.2)])), (qx, .inl (cC, 60, .inl u.1))]) A) ([.ref qd, .long ch, .int (nI mo)] : List Value).toArray s 0 0 A = Q
  generalize hag : ([.ref qd, .long ch, .int (nI mo)] : List Value).toArray = ag at hts hQ ⊢
  refine lv_iload_n hx hb dX3_append_0 rfl (lv_at hl 2 rfl) ?_
  refine lv_iconst (v := 1) hx hb dX3_append_1 (by decide) ?_
  refine lv_isub hx hb dX3_append_2 ?_
  refine lv_istore (lv' := [(4, .int ((nI mo) - 1)), (0, .ref qd), (1, .long ch), (3, .int (nI mo))]) hx hb dX3_append_3 hl (by decide) rfl (fun ls hl => ?_)
  have L1 : ∀ (n : Nat), ∀ (Ac : Nat), ∀ (x : Int32), ∀ (lc : Nat), ∀ (pc0 : IA), ∀ (hAc : Ac ≤ mo), ∀ (hx2 : x = nI Ac - 1), ∀ (hlc : lc = ln + (mo - Ac)), ∀ (hpc : pc0 = apd tx ln (uN ch) mo (mo - Ac)), ∀ (hn2 : Ac + 1 ≤ n), ∀ (H710 : Heap) (locs710 : List Loc), va_P G vwCl [(qd, .inr (3, [.ref qx, .int (nI lc)])), (qx, .inl (cC, 60, .inl pc0))] H710 → va_D A [(qd, .inr (3, [.ref qx, .int (nI lc)])), (qx, .inl (cC, 60, .inl pc0))] → va_S A s.heap H710 locs710 → ∀ (ls : Array Slot), lv_has ls 5 [(4, .int x), (0, .ref qd), (1, .long ch), (3, .int (nI mo))] → W p l e rm_X3_append s m ag below meth c H710 locs710 0 0 Q (F0 m 5 ls []) := by
    intro n
    induction n with
    | zero =>
      intro Ac x lc pc0 hAc hx2 hlc hpc hn2 H710 locs710 hP hD hS ls hl
      omega
    | succ n ih1 =>
      intro Ac x lc pc0 hAc hx2 hlc hpc hn2 H710 locs710 hP hD hS ls hl
      rcases Ac with _ | b2
      · obtain rfl : x = -1 := by rw [hx2]; decide
        refine lv_iload hx hb dX3_append_5 (lv_at hl 0 rfl) ?_
        refine lv_if_lt (tgt := 57) hx hb dX3_append_7 (by decide) (fun c_711 => ?_) (fun c_711 => ?_)
        · subst hQ
          exact W.vret hx hb hr (fun t ht hW => ⟨⟨(pc0, lc), rfl, by first | (rw [hpc, hlc]; rfl) | (exfalso; omega), by rw [ht]; exact hP, hD⟩, hS.F ht⟩) hS.2.2 dX3_append_57
        · exact absurd c_711 (by decide)
      · obtain rfl : x = nI b2 := by rw [hx2]; exact nI_pred b2
        refine lv_iload hx hb dX3_append_5 (lv_at hl 0 rfl) ?_
        refine z0_lt (tgt := 57) hx hb b2 dX3_append_7 (by decide) rfl (by omega) ?_
        refine lv_aload_n hx hb dX3_append_10 rfl (lv_at hl 1 rfl) ?_
        refine va_get (D := G) (ci := 3) (v := .int (nI lc)) (C := RX3) (T := TX3) (N := 2) hx hb hts inlX3 hown hK.1 hP 0 rfl rfl 1 (by decide) (hts _ wd66) (fun _ h9 => h9) rfl dX3_append_11 ?_
        refine lv_bipush (v := 60) hx hb dX3_append_14 (by decide) ?_
        refine zi_ge (tgt := 57) hx hb lc 60 dX3_append_16 (by decide) rfl rfl (by omega) (by decide) (fun c_713 => ?_) (fun c_713 => ?_)
        · subst hQ
          exact W.vret hx hb hr (fun t ht hW => ⟨⟨(pc0, lc), rfl, by first | (rw [hpc, hlc]; rfl) | (exfalso; omega), by rw [ht]; exact hP, hD⟩, hS.F ht⟩) hS.2.2 dX3_append_57
        · refine lv_aload_n hx hb dX3_append_19 rfl (lv_at hl 1 rfl) ?_
          refine va_get (D := G) (ci := 3) (v := .ref qx) (C := RX3) (T := TX3) (N := 2) hx hb hts inlX3 hown hK.1 hP 0 rfl rfl 0 (by decide) (hts _ wd65) (fun _ h9 => h9) rfl dX3_append_20 ?_
          refine lv_aload_n hx hb dX3_append_23 rfl (lv_at hl 1 rfl) ?_
          refine va_get (D := G) (ci := 3) (v := .int (nI lc)) (C := RX3) (T := TX3) (N := 2) hx hb hts inlX3 hown hK.1 hP 0 rfl rfl 1 (by decide) (hts _ wd66) (fun _ h9 => h9) rfl dX3_append_24 ?_
          refine lv_lload_n hx hb dX3_append_27 rfl (lv_at hl 2 rfl) ?_
          refine lv_bipush (v := 8) hx hb dX3_append_28 (by decide) ?_
          refine lv_iload hx hb dX3_append_30 (lv_at hl 0 rfl) ?_
          refine zi_mul hx hb 8 b2 dX3_append_32 rfl rfl ?_
          refine lv_lushr hx hb dX3_append_33 rfl ?_
          refine lv_ldc2 hx hb hown (hts _ wd568) dX3_append_34 ?_
          refine lv_land hx hb dX3_append_37 ?_
          refine lv_l2i hx hb dX3_append_38 rfl ?_
          refine lv_i2c hx hb dX3_append_39 rfl ?_
          refine za_stc hx hb hK.1 hP hD hS 1 1 rfl rfl lc rfl (by omega) (by decide) dX3_append_40 (fun H714 locs714 hP hD hS => ?_)
          have hP : va_P G vwCl [(qd, .inr (3, [.ref qx, .int (nI lc)])), (qx, .inl (cC, 60, .inl (upd pc0 lc (vp_nar .char ((((((ch.toUInt64 >>> ((nI (8 * b2)).toInt64.toUInt64 &&& Int64.toUInt64 63)).toInt64) &&& 255).toInt32).toUInt32 % 65536).toInt32)))))] H714 := hP
          have hD : va_D A [(qd, .inr (3, [.ref qx, .int (nI lc)])), (qx, .inl (cC, 60, .inl (upd pc0 lc (vp_nar .char ((((((ch.toUInt64 >>> ((nI (8 * b2)).toInt64.toUInt64 &&& Int64.toUInt64 63)).toInt64) &&& 255).toInt32).toUInt32 % 65536).toInt32)))))] := hD
          refine lv_aload_n hx hb dX3_append_41 rfl (lv_at hl 1 rfl) ?_
          refine lv_dup hx hb dX3_append_42 rfl ?_
          refine va_get (D := G) (ci := 3) (v := .int (nI lc)) (C := RX3) (T := TX3) (N := 2) hx hb hts inlX3 hown hK.1 hP 0 rfl rfl 1 (by decide) (hts _ wd66) (fun _ h9 => h9) rfl dX3_append_43 ?_
          refine lv_iconst (v := 1) hx hb dX3_append_46 (by decide) ?_
          refine zi_add hx hb lc 1 dX3_append_47 rfl rfl ?_
          refine va_put (D := G) (ci := 3) (v := .int (nI (lc + 1))) (ty := .int) (C := RX3) (T := TX3) (N := 2) hx hb hts inlX3 tyX3 tyX3_ok nmX3 hown hK.1 hP hD hS 0 rfl rfl 1 (by decide) (hts _ wd66) (fun _ h9 => h9) rfl (by decide +kernel) rfl rfl (Nat.le_of_ble_eq_true rfl) dX3_append_48 (fun H715 locs715 hP hD hS => ?_)
          have hP : va_P G vwCl [(qd, .inr (3, [.ref qx, .int (nI (lc + 1))])), (qx, .inl (cC, 60, .inl (upd pc0 lc (vp_nar .char ((((((ch.toUInt64 >>> ((nI (8 * b2)).toInt64.toUInt64 &&& Int64.toUInt64 63)).toInt64) &&& 255).toInt32).toUInt32 % 65536).toInt32)))))] H715 := hP
          have hD : va_D A [(qd, .inr (3, [.ref qx, .int (nI (lc + 1))])), (qx, .inl (cC, 60, .inl (upd pc0 lc (vp_nar .char ((((((ch.toUInt64 >>> ((nI (8 * b2)).toInt64.toUInt64 &&& Int64.toUInt64 63)).toInt64) &&& 255).toInt32).toUInt32 % 65536).toInt32)))))] := hD
          refine lv_iinc (v := (nI b2) + Int32.ofInt (-1)) (lv' := [(4, .int ((nI b2) + Int32.ofInt (-1))), (0, .ref qd), (1, .long ch), (3, .int (nI mo))]) hx hb dX3_append_51 hl (k := 0) rfl rfl (by decide) rfl (fun ls hl => ?_)
          refine lv_goto (tgt := 5) hx hb dX3_append_54 (by decide) ?_
          exact ih1 b2 ((nI b2) + Int32.ofInt (-1)) (lc + 1) (upd pc0 lc (vp_nar .char ((((((ch.toUInt64 >>> ((nI (8 * b2)).toInt64.toUInt64 &&& Int64.toUInt64 63)).toInt64) &&& 255).toInt32).toUInt32 % 65536).toInt32))) (by omega) (dec_sub b2) (by omega) (by rw [hlc]; exact apd_s hAc hpc (by rw [dg_u ch (by omega)]; exact vc_nI (Nat.mod_lt _ (by decide)))) (by omega) H715 locs715 hP hD hS _ (lv_sub hl [0, 1, 2, 3] rfl)
  exact L1 (mo + 1) mo ((nI mo) - 1) ln tx (Nat.le_refl mo) rfl (by omega) (by rw [Nat.sub_self]; rfl) (by omega) s.heap [] hP hD hS _ (lv_sub hl [0, 1, 2, 3] rfl)
