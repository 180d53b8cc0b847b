abbrev rm_X4_fromHomeOn : Room := { frames := 3, cells := 0, slots := 0, locals := 69 }
theorem cf_RX4_15 {R : Room} {s : State} {args : Array Value} (ht : ∀ w ∈ wsL_law, w.before args s = true) (hN : ∀ w ∈ nestW, va_Nw w s) (hR : rm_X0_target.frames + 1 ≤ R.frames ∧ 8 + (6 + 11) + rm_X0_target.locals ≤ R.locals) : va_CN R s args RX4 15 yX0_target "BridgedPachisi" cX0_target 6 (some .int) (.code yX0_target cX0_target 6 (some .int) :: wsL_law) rm_X0_target 0 0 3 ∧ (Cond.instanceMethod yX0_target).before args s = true ∧ (Cond.selects RX0 yX0_target yX0_target).before args s = true := ⟨cw_N 3 ht hN nw43 wd33 wd165 (by decide +kernel) rfl rfl hR, ht _ wd163, ht _ wd164⟩
set_option maxHeartbeats 1000000 in
set_option maxRecDepth 100000 in
theorem c_X4_fromHomeOn (l : Launch) (G : va_G) (cI cC cZ cG : ClassId) (sz : Nat) (qR qn : Nat) (nd : IA) (qb qp qs qr qf : Nat) (pr sb br fe : IA) (fl : Int32) (pn fn : Nat) (hp : pn < 4) (hf0 : fn ≤ 35) : Met l yX4_fromHomeOn (.code yX4_fromHomeOn cX4_fromHomeOn 8 (some .int) :: wsL_law) rm_X4_fromHomeOn (va_Pc [.ref qR, .ref qb, .int (nI pn), .int (nI fn)] (bw G cI cC cZ cG false sz [(qR, .inr (4, [.ref qn])), (qn, .inl (cI, 36, .inl nd)), (qb, .inr (0, [.ref qp, .ref qs, .ref qr, .ref qf, .int fl])), (qp, .inl (cI, 12, .inl pr)), (qs, .inl (cI, 12, .inl sb)), (qr, .inl (cI, 4, .inl br)), (qf, .inl (cI, 4, .inl fe))])) (va_Qi (fun (r : Int32) (u : IA) => r = tnW nd br pn fn ∧ True) (fun (u : IA) t => va_P G vwCl [(qR, .inr (4, [.ref qn])), (qn, .inl (cI, 36, .inl u)), (qb, .inr (0, [.ref qp, .ref qs, .ref qr, .ref qf, .int fl])), (qp, .inl (cI, 12, .inl pr)), (qs, .inl (cI, 12, .inl sb)), (qr, .inl (cI, 4, .inl br)), (qf, .inl (cI, 4, .inl fe))] t.heap ∧ va_D (va_A [(qR, .inr (4, [.ref qn])), (qn, .inl (cI, 36, .inl nd)), (qb, .inr (0, [.ref qp, .ref qs, .ref qr, .ref qf, .int fl])), (qp, .inl (cI, 12, .inl pr)), (qs, .inl (cI, 12, .inl sb)), (qr, .inl (cI, 4, .inl br)), (qf, .inl (cI, 4, .inl fe))] sz) [(qR, .inr (4, [.ref qn])), (qn, .inl (cI, 36, .inl u)), (qb, .inr (0, [.ref qp, .ref qs, .ref qr, .ref qf, .int fl])), (qp, .inl (cI, 12, .inl pr)), (qs, .inl (cI, 12, .inl sb)), (qr, .inl (cI, 4, .inl br)), (qf, .inl (cI, 4, .inl fe))]) (va_A [(qR, .inr (4, [.ref qn])), (qn, .inl (cI, 36, .inl nd)), (qb, .inr (0, [.ref qp, .ref qs, .ref qr, .ref qf, .int fl])), (qp, .inl (cI, 12, .inl pr)), (qs, .inl (cI, 12, .inl sb)), (qr, .inl (cI, 4, .inl br)), (qf, .inl (cI, 4, .inl fe))] sz)) 0 0 (va_A [(qR, .inr (4, [.ref qn])), (qn, .inl (cI, 36, .inl nd)), (qb, .inr (0, [.ref qp, .ref qs, .ref qr, .ref qf, .int fl])), (qp, .inl (cI, 12, .inl pr)), (qs, .inl (cI, 12, .inl sb)), (qr, .inl (cI, 4, .inl br)), (qf, .inl (cI, 4, .inl fe))] sz) := by
  refine met_bw rfl (Nat.le_of_ble_eq_true rfl) ?_
  intro p e s m below meth c ls hx hb hr hml hown hts hlocks hin hsz hP hK hD0 hX0 hl
  have hown : s.vm.findClass RX4 = some m.cls := hown
  have hl : lv_has ls 8 [(0, .ref qR), (1, .ref qb), (2, .int (nI pn)), (3, .int (nI fn))] := hl
  subst hsz
  have hD := hD0.self (sz := s.heap.size)
  generalize hAe : va_A [(qR, .inr (4, [.ref qn])), (qn, .inl (cI, 36, .inl nd)), (qb, .inr (0, [.ref qp, .ref qs, .ref qr, .ref qf, .int fl])), (qp, .inl (cI, 12, .inl pr)), (qs, .inl (cI, 12, .inl sb)), (qr, .inl (cI, 4, .inl br)), (qf, .inl (cI, 4, .inl fe))] s.heap.size = A at hD ⊢
  have hA : ∀ q : Nat, s.heap.size ≤ q → A q := fun q h => by rw [← hAe]; exact Or.inr h
  have hS : va_S A s.heap s.heap [] := va_S.rf
  generalize hQ : MQ below (va_Qi (fun (r : Int32) (u : IA) => r = tnW nd br pn fn ∧ True) (fun (u : IA) t => va_P G vwCl [(qR, .inr (4, [.ref qn])), (qn, .inl (cI, 36, .inl u)), (qb, .inr (0, [.ref qp, .ref qs, .ref qr, .ref qf, .int fl])), (qp, .inl (cI, 12, .inl pr)), (qs, .inl (cI, 12, .inl sb)), (qr, .inl (cI, 4, .inl br)), (qf, .inl (cI, 4, .inl fe))] t.heap ∧ va_D A [(qR, .inr (4, [.ref qn])), (qn, .inl (cI, 36, .inl u)), (qb, .inr (0, [.ref qp, .ref qs, .ref qr, .ref qf, .int fl])), (qp, .inl (cI, 12, .inl pr)), (qs, .inl (cI, 12, .inl sb)), (qr, .inl (cI, 4, .inl br)), (qf, .inl (cI, 4, .inl fe))]) A) ([.ref qR, .ref qb, .int (nI pn), .int (nI fn)] : List Value).toArray s 0 0 A = Q
  generalize hag : ([.ref qR, .ref qb, .int (nI pn), .int (nI fn)] : List Value).toArray = ag at hts hQ ⊢
  refine lv_aload_n hx hb dX4_fromHomeOn_0 rfl (lv_at hl 0 rfl) ?_
  refine va_get (D := G) (ci := 4) (v := .ref qn) (C := RX4) (T := TX4) (N := 1) hx hb hts inlX4 hown hK.1 hP 0 rfl rfl 0 (by decide) (hts _ wd56) (fun _ h9 => h9) rfl dX4_fromHomeOn_1 ?_
  refine lv_bipush (v := 35) hx hb dX4_fromHomeOn_4 (by decide) ?_
  refine lv_iconst (v := 0) hx hb dX4_fromHomeOn_6 (by decide) ?_
  refine za_st hx hb hK.1 hP hD hS 1 0 rfl rfl 35 rfl (by decide) (by decide) dX4_fromHomeOn_7 (fun H233 locs233 hP hD hS => ?_)
  have hP : va_P G vwCl [(qR, .inr (4, [.ref qn])), (qn, .inl (cI, 36, .inl (upd nd 35 0))), (qb, .inr (0, [.ref qp, .ref qs, .ref qr, .ref qf, .int fl])), (qp, .inl (cI, 12, .inl pr)), (qs, .inl (cI, 12, .inl sb)), (qr, .inl (cI, 4, .inl br)), (qf, .inl (cI, 4, .inl fe))] H233 := hP
  have hD : va_D A [(qR, .inr (4, [.ref qn])), (qn, .inl (cI, 36, .inl (upd nd 35 0))), (qb, .inr (0, [.ref qp, .ref qs, .ref qr, .ref qf, .int fl])), (qp, .inl (cI, 12, .inl pr)), (qs, .inl (cI, 12, .inl sb)), (qr, .inl (cI, 4, .inl br)), (qf, .inl (cI, 4, .inl fe))] := hD
  refine lv_bipush (v := 34) hx hb dX4_fromHomeOn_8 (by decide) ?_
  refine lv_istore (lv' := [(4, .int 34), (0, .ref qR), (1, .ref qb), (2, .int (nI pn)), (3, .int (nI fn))]) hx hb dX4_fromHomeOn_10 hl (by decide) rfl (fun ls hl => ?_)
  have L1 : ∀ (n : Nat), ∀ (Ac : Nat), ∀ (x : Int32), ∀ (nc : IA), ∀ (hAc : Ac ≤ 35), ∀ (hAf : fn ≤ Ac), ∀ (hx2 : x = nI Ac - 1), ∀ (hnc : nc = tnC nd br pn (35 - Ac)), ∀ (hn2 : Ac + 1 ≤ n), ∀ (H234 : Heap) (locs234 : List Loc), va_P G vwCl [(qR, .inr (4, [.ref qn])), (qn, .inl (cI, 36, .inl nc)), (qb, .inr (0, [.ref qp, .ref qs, .ref qr, .ref qf, .int fl])), (qp, .inl (cI, 12, .inl pr)), (qs, .inl (cI, 12, .inl sb)), (qr, .inl (cI, 4, .inl br)), (qf, .inl (cI, 4, .inl fe))] H234 → va_D A [(qR, .inr (4, [.ref qn])), (qn, .inl (cI, 36, .inl nc)), (qb, .inr (0, [.ref qp, .ref qs, .ref qr, .ref qf, .int fl])), (qp, .inl (cI, 12, .inl pr)), (qs, .inl (cI, 12, .inl sb)), (qr, .inl (cI, 4, .inl br)), (qf, .inl (cI, 4, .inl fe))] → va_S A s.heap H234 locs234 → ∀ (ls : Array Slot), lv_has ls 8 [(4, .int x), (0, .ref qR), (1, .ref qb), (2, .int (nI pn)), (3, .int (nI fn))] → W p l e rm_X4_fromHomeOn s m ag below meth c H234 locs234 0 0 Q (F0 m 12 ls []) := by
    intro n
    induction n with
    | zero =>
      intro Ac x nc hAc hAf hx2 hnc hn2 H234 locs234 hP hD hS ls hl
      omega
    | succ n ih1 =>
      intro Ac x nc hAc hAf hx2 hnc hn2 H234 locs234 hP hD hS ls hl
      rcases Ac with _ | b2
      · obtain rfl : x = -1 := by rw [hx2]; decide
        refine lv_iload hx hb dX4_fromHomeOn_12 (lv_at hl 0 rfl) ?_
        refine lv_iload_n hx hb dX4_fromHomeOn_14 rfl (lv_at hl 4 rfl) ?_
        refine lv_icmp_lt (tgt := 87) hx hb dX4_fromHomeOn_15 (by decide) (fun c_235 => ?_) (fun c_235 => ?_)
        · refine lv_aload_n hx hb dX4_fromHomeOn_87 rfl (lv_at hl 1 rfl) ?_
          refine va_get (D := G) (ci := 4) (v := .ref qn) (C := RX4) (T := TX4) (N := 1) hx hb hts inlX4 hown hK.1 hP 0 rfl rfl 0 (by decide) (hts _ wd56) (fun _ h9 => h9) rfl dX4_fromHomeOn_88 ?_
          refine lv_iload_n hx hb dX4_fromHomeOn_91 rfl (lv_at hl 4 rfl) ?_
          refine za_ld hx hb hK.1 hP 1 0 rfl rfl fn rfl (by omega) (by decide) dX4_fromHomeOn_92 ?_
          subst hQ
          exact W.iret (v := nc fn) hx hb hr (fun t ht hW => ⟨⟨nc fn, nc, rfl, ⟨(by rw [tnW_eq, hnc]; first | (rw [show 35 - fn = 35 - 0 by omega]) | (rw [show 35 - fn = 35 - (b2 + 1) by omega])), trivial⟩, by rw [ht]; exact hP, hD⟩, hS.F ht⟩) hS.2.2 dX4_fromHomeOn_93
        · exact absurd (m1_lt (by omega)) c_235
      · obtain rfl : x = nI b2 := by rw [hx2]; exact nI_pred b2
        refine lv_iload hx hb dX4_fromHomeOn_12 (lv_at hl 0 rfl) ?_
        refine lv_iload_n hx hb dX4_fromHomeOn_14 rfl (lv_at hl 4 rfl) ?_
        refine zi_lt (tgt := 87) hx hb b2 fn dX4_fromHomeOn_15 (by decide) rfl rfl (by omega) (by omega) (fun c_236 => ?_) (fun c_236 => ?_)
        · refine lv_aload_n hx hb dX4_fromHomeOn_87 rfl (lv_at hl 1 rfl) ?_
          refine va_get (D := G) (ci := 4) (v := .ref qn) (C := RX4) (T := TX4) (N := 1) hx hb hts inlX4 hown hK.1 hP 0 rfl rfl 0 (by decide) (hts _ wd56) (fun _ h9 => h9) rfl dX4_fromHomeOn_88 ?_
          refine lv_iload_n hx hb dX4_fromHomeOn_91 rfl (lv_at hl 4 rfl) ?_
          refine za_ld hx hb hK.1 hP 1 0 rfl rfl fn rfl (by omega) (by decide) dX4_fromHomeOn_92 ?_
          subst hQ
          exact W.iret (v := nc fn) hx hb hr (fun t ht hW => ⟨⟨nc fn, nc, rfl, ⟨(by rw [tnW_eq, hnc]; first | (rw [show 35 - fn = 35 - 0 by omega]) | (rw [show 35 - fn = 35 - (b2 + 1) by omega])), trivial⟩, by rw [ht]; exact hP, hD⟩, hS.F ht⟩) hS.2.2 dX4_fromHomeOn_93
        · refine lv_bipush (v := 36) hx hb dX4_fromHomeOn_18 (by decide) ?_
          refine lv_istore (lv' := [(5, .int 36), (4, .int (nI b2)), (0, .ref qR), (1, .ref qb), (2, .int (nI pn)), (3, .int (nI fn))]) hx hb dX4_fromHomeOn_20 hl (by decide) rfl (fun ls hl => ?_)
          refine lv_iconst (v := 1) hx hb dX4_fromHomeOn_22 (by decide) ?_
          refine lv_istore (lv' := [(6, .int 1), (5, .int 36), (4, .int (nI b2)), (0, .ref qR), (1, .ref qb), (2, .int (nI pn)), (3, .int (nI fn))]) hx hb dX4_fromHomeOn_23 hl (by decide) rfl (fun ls hl => ?_)
          have L2 : ∀ (n : Nat), ∀ (i : Nat), ∀ (f0 : Int32), ∀ (hi1 : 1 ≤ i), ∀ (hi : i ≤ 7), ∀ (hf3 : f0 = tvC nc br pn b2 (i - 1)), ∀ (hn : 8 ≤ i + n), ∀ (ls : Array Slot), lv_has ls 8 [(6, .int (nI i)), (5, .int f0), (4, .int (nI b2)), (0, .ref qR), (1, .ref qb), (2, .int (nI pn)), (3, .int (nI fn))] → W p l e rm_X4_fromHomeOn s m ag below meth c H234 locs234 0 0 Q (F0 m 25 ls []) := by
            intro n
            induction n with
            | zero =>
              intro i f0 hi1 hi hf3 hn ls hl
              omega
            | succ n ih2 =>
              intro i f0 hi1 hi hf3 hn ls hl
              refine lv_iload hx hb dX4_fromHomeOn_25 (lv_at hl 0 rfl) ?_
              refine lv_bipush (v := 6) hx hb dX4_fromHomeOn_27 (by decide) ?_
              refine zi_gt (tgt := 72) hx hb i 6 dX4_fromHomeOn_29 (by decide) rfl rfl (by omega) (by decide) (fun c_238 => ?_) (fun c_238 => ?_)
              · refine lv_aload_n hx hb dX4_fromHomeOn_72 rfl (lv_at hl 3 rfl) ?_
                refine va_get (D := G) (ci := 4) (v := .ref qn) (C := RX4) (T := TX4) (N := 1) hx hb hts inlX4 hown hK.1 hP 0 rfl rfl 0 (by decide) (hts _ wd56) (fun _ h9 => h9) rfl dX4_fromHomeOn_73 ?_
                refine lv_iload hx hb dX4_fromHomeOn_76 (lv_at hl 2 rfl) ?_
                refine lv_iload hx hb dX4_fromHomeOn_78 (lv_at hl 1 rfl) ?_
                refine za_st hx hb hK.1 hP hD hS 1 0 rfl rfl b2 rfl (by omega) (by decide) dX4_fromHomeOn_80 (fun H239 locs239 hP hD hS => ?_)
                have hP : va_P G vwCl [(qR, .inr (4, [.ref qn])), (qn, .inl (cI, 36, .inl (upd nc b2 f0))), (qb, .inr (0, [.ref qp, .ref qs, .ref qr, .ref qf, .int fl])), (qp, .inl (cI, 12, .inl pr)), (qs, .inl (cI, 12, .inl sb)), (qr, .inl (cI, 4, .inl br)), (qf, .inl (cI, 4, .inl fe))] H239 := hP
                have hD : va_D A [(qR, .inr (4, [.ref qn])), (qn, .inl (cI, 36, .inl (upd nc b2 f0))), (qb, .inr (0, [.ref qp, .ref qs, .ref qr, .ref qf, .int fl])), (qp, .inl (cI, 12, .inl pr)), (qs, .inl (cI, 12, .inl sb)), (qr, .inl (cI, 4, .inl br)), (qf, .inl (cI, 4, .inl fe))] := hD
                refine lv_iinc (v := (nI b2) + Int32.ofInt (-1)) (lv' := [(4, .int ((nI b2) + Int32.ofInt (-1))), (6, .int (nI i)), (5, .int f0), (0, .ref qR), (1, .ref qb), (2, .int (nI pn)), (3, .int (nI fn))]) hx hb dX4_fromHomeOn_81 hl (k := 2) rfl rfl (by decide) rfl (fun ls hl => ?_)
                refine lv_goto (tgt := 12) hx hb dX4_fromHomeOn_84 (by decide) ?_
                exact ih1 b2 ((nI b2) + Int32.ofInt (-1)) (upd nc b2 f0) (by omega) (by omega) (dec_sub b2) (by rw [show 35 - b2 = (35 - (b2 + 1)) + 1 by omega, tnC, ← hnc, show 34 - (35 - (b2 + 1)) = b2 by omega, hf3, show i - 1 = 6 by omega]) (by omega) H239 locs239 hP hD hS _ (lv_sub hl [0, 3, 4, 5, 6] rfl)
              · refine lv_aload_n hx hb dX4_fromHomeOn_32 rfl (lv_at hl 4 rfl) ?_
                refine lv_iload_n hx hb dX4_fromHomeOn_33 rfl (lv_at hl 5 rfl) ?_
                refine lv_iload hx hb dX4_fromHomeOn_34 (lv_at hl 2 rfl) ?_
                refine lv_iload hx hb dX4_fromHomeOn_36 (lv_at hl 0 rfl) ?_
                have hPc := hP.sub (ws' := [(qb, .inr (0, [.ref qp, .ref qs, .ref qr, .ref qf, .int fl])), (qp, .inl (cI, 12, .inl pr)), (qs, .inl (cI, 12, .inl sb)), (qr, .inl (cI, 4, .inl br)), (qf, .inl (cI, 4, .inl fe))]) [2, 3, 4, 5, 6] rfl
                have hDc := (hD.sub (ws' := [(qb, .inr (0, [.ref qp, .ref qs, .ref qr, .ref qf, .int fl])), (qp, .inl (cI, 12, .inl pr)), (qs, .inl (cI, 12, .inl sb)), (qr, .inl (cI, 4, .inl br)), (qf, .inl (cI, 4, .inl fe))]) [2, 3, 4, 5, 6] (by decide) rfl).tt
                refine vp_callSi (va_Run.run (va_runVN (As := [.int (nI pn), .int (nI b2), .int (nI i)]) (rest := []) ⟨hx, hb, hml, hown, hts⟩ (c_X0_target l G cI cC cZ cG H234.size qb qp qs qr qf pr sb br fe fl pn (nI b2) i (by omega) (Or.inr ⟨b2, by omega, rfl⟩) (by omega)) (cf_RX4_15 hts hK.2 ⟨Nat.le_of_ble_eq_true rfl, Nat.le_of_ble_eq_true rfl⟩) (pre_V hK hPc hDc (ci := 0) (q0 := 0) rfl rfl) rfl rfl hl.1 rfl (lv_room (Nat.le_of_ble_eq_true rfl)) dX4_fromHomeOn_38 ⟨Nat.le_of_ble_eq_true rfl, Nat.le_of_ble_eq_true rfl⟩)) (fun r240 hr240 => ?_)
                subst hr240
                refine lv_istore (lv' := [(7, .int (tgt br pn (nI b2) i)), (6, .int (nI i)), (5, .int f0), (4, .int (nI b2)), (0, .ref qR), (1, .ref qb), (2, .int (nI pn)), (3, .int (nI fn))]) hx hb dX4_fromHomeOn_41 hl (by decide) rfl (fun ls hl => ?_)
                refine lv_iload hx hb dX4_fromHomeOn_43 (lv_at hl 0 rfl) ?_
                refine lv_bipush (v := (-6)) hx hb dX4_fromHomeOn_45 (by decide) ?_
                refine lv_icmp_eq (tgt := 66) hx hb dX4_fromHomeOn_47 (by decide) (fun c_241 => ?_) (fun c_241 => ?_)
                · refine lv_iinc (v := nI (i + 1)) (lv' := [(6, .int (nI (i + 1))), (7, .int (tgt br pn (nI b2) i)), (5, .int f0), (4, .int (nI b2)), (0, .ref qR), (1, .ref qb), (2, .int (nI pn)), (3, .int (nI fn))]) hx hb dX4_fromHomeOn_66 hl (k := 1) rfl (nI_inc i) (by decide) rfl (fun ls hl => ?_)
                  refine lv_goto (tgt := 25) hx hb dX4_fromHomeOn_69 (by decide) ?_
                  exact ih2 (i + 1) f0 (by omega) (by omega) (by rw [show i + 1 - 1 = (i - 1) + 1 by omega, tvC, show (i - 1) + 1 = i by omega, if_pos c_241, hf3]) (by omega) _ (lv_sub hl [0, 2, 3, 4, 5, 6, 7] rfl)
                · obtain ⟨tn, htn, etn⟩ := (tgt_ok (br := br) (p := pn) (c := i) (v := nI b2)).resolve_left c_241
                  rw [etn] at hl
                  refine lv_iload hx hb dX4_fromHomeOn_50 (lv_at hl 2 rfl) ?_
                  refine lv_aload_n hx hb dX4_fromHomeOn_52 rfl (lv_at hl 4 rfl) ?_
                  refine va_get (D := G) (ci := 4) (v := .ref qn) (C := RX4) (T := TX4) (N := 1) hx hb hts inlX4 hown hK.1 hP 0 rfl rfl 0 (by decide) (hts _ wd56) (fun _ h9 => h9) rfl dX4_fromHomeOn_53 ?_
                  refine lv_iload hx hb dX4_fromHomeOn_56 (lv_at hl 0 rfl) ?_
                  refine za_ld hx hb hK.1 hP 1 0 rfl rfl tn rfl (by omega) (by decide) dX4_fromHomeOn_58 ?_
                  refine lv_iconst (v := 1) hx hb dX4_fromHomeOn_59 (by decide) ?_
                  refine lv_iadd hx hb dX4_fromHomeOn_60 ?_
                  refine va_mmin hx hb (by rw [hml]; exact hl.1.symm) hown (hts _ wd214) (hts _ wd215) (hts _ wd124) (hts _ wd216) (Nat.le_of_ble_eq_true rfl) (Nat.le_of_ble_eq_true rfl) (Nat.le_of_ble_eq_true rfl) (Nat.le_of_ble_eq_true rfl) dX4_fromHomeOn_61 ?_
                  refine lv_istore (lv' := [(5, .int (if ((nc tn) + 1 : Int32) < f0 then (nc tn) + 1 else f0)), (7, .int (nI tn)), (6, .int (nI i)), (4, .int (nI b2)), (0, .ref qR), (1, .ref qb), (2, .int (nI pn)), (3, .int (nI fn))]) hx hb dX4_fromHomeOn_64 hl (by decide) rfl (fun ls hl => ?_)
                  refine lv_iinc (v := nI (i + 1)) (lv' := [(6, .int (nI (i + 1))), (5, .int (if ((nc tn) + 1 : Int32) < f0 then (nc tn) + 1 else f0)), (7, .int (nI tn)), (4, .int (nI b2)), (0, .ref qR), (1, .ref qb), (2, .int (nI pn)), (3, .int (nI fn))]) hx hb dX4_fromHomeOn_66 hl (k := 2) rfl (nI_inc i) (by decide) rfl (fun ls hl => ?_)
                  refine lv_goto (tgt := 25) hx hb dX4_fromHomeOn_69 (by decide) ?_
                  exact ih2 (i + 1) (if ((nc tn) + 1 : Int32) < f0 then (nc tn) + 1 else f0) (by omega) (by omega) (by rw [show i + 1 - 1 = (i - 1) + 1 by omega, tvC, show (i - 1) + 1 = i by omega, if_neg c_241, etn, nI_clamp (show tn < 2 ^ 31 by omega), ← hf3]) (by omega) _ (lv_sub hl [0, 1, 3, 4, 5, 6, 7] rfl)
          exact L2 8 1 36 (by decide) (by decide) rfl (by decide) _ (lv_sub hl [0, 1, 2, 3, 4, 5, 6] rfl)
  exact L1 36 35 34 (upd nd 35 0) (by decide) (by omega) rfl rfl (by decide) H233 locs233 hP hD hS _ (lv_sub hl [0, 1, 2, 3, 4] rfl)

abbrev rm_X4_widen : Room := { frames := 3, cells := 0, slots := 0, locals := 69 }
set_option maxHeartbeats 1000000 in
set_option maxRecDepth 100000 in
theorem c_X4_widen (l : Launch) (G : va_G) (cI cC cZ cG : ClassId) (sz : Nat) (qR qn : Nat) (nd : IA) (qb qp qs qr qf : Nat) (pr sb br fe : IA) (fl : Int32) (pn rn : Nat) (hp : pn < 4) (hr0 : rn ≤ 35) : Met l yX4_widen (.code yX4_widen cX4_widen 7 none :: wsL_law) rm_X4_widen (va_Pc [.ref qR, .ref qb, .int (nI pn), .int (nI rn)] (bw G cI cC cZ cG false sz [(qR, .inr (4, [.ref qn])), (qn, .inl (cI, 36, .inl nd)), (qb, .inr (0, [.ref qp, .ref qs, .ref qr, .ref qf, .int fl])), (qp, .inl (cI, 12, .inl pr)), (qs, .inl (cI, 12, .inl sb)), (qr, .inl (cI, 4, .inl br)), (qf, .inl (cI, 4, .inl fe))])) (va_Qv (fun (u : IA) => u = wdA br pn rn nd 35) (fun (u : IA) t => va_P G vwCl [(qR, .inr (4, [.ref qn])), (qn, .inl (cI, 36, .inl u)), (qb, .inr (0, [.ref qp, .ref qs, .ref qr, .ref qf, .int fl])), (qp, .inl (cI, 12, .inl pr)), (qs, .inl (cI, 12, .inl sb)), (qr, .inl (cI, 4, .inl br)), (qf, .inl (cI, 4, .inl fe))] t.heap ∧ va_D (va_A [(qR, .inr (4, [.ref qn])), (qn, .inl (cI, 36, .inl nd)), (qb, .inr (0, [.ref qp, .ref qs, .ref qr, .ref qf, .int fl])), (qp, .inl (cI, 12, .inl pr)), (qs, .inl (cI, 12, .inl sb)), (qr, .inl (cI, 4, .inl br)), (qf, .inl (cI, 4, .inl fe))] sz) [(qR, .inr (4, [.ref qn])), (qn, .inl (cI, 36, .inl u)), (qb, .inr (0, [.ref qp, .ref qs, .ref qr, .ref qf, .int fl])), (qp, .inl (cI, 12, .inl pr)), (qs, .inl (cI, 12, .inl sb)), (qr, .inl (cI, 4, .inl br)), (qf, .inl (cI, 4, .inl fe))]) (va_A [(qR, .inr (4, [.ref qn])), (qn, .inl (cI, 36, .inl nd)), (qb, .inr (0, [.ref qp, .ref qs, .ref qr, .ref qf, .int fl])), (qp, .inl (cI, 12, .inl pr)), (qs, .inl (cI, 12, .inl sb)), (qr, .inl (cI, 4, .inl br)), (qf, .inl (cI, 4, .inl fe))] sz)) 0 0 (va_A [(qR, .inr (4, [.ref qn])), (qn, .inl (cI, 36, .inl nd)), (qb, .inr (0, [.ref qp, .ref qs, .ref qr, .ref qf, .int fl])), (qp, .inl (cI, 12, .inl pr)), (qs, .inl (cI, 12, .inl sb)), (qr, .inl (cI, 4, .inl br)), (qf, .inl (cI, 4, .inl fe))] sz) := by
  refine met_bw rfl (Nat.le_of_ble_eq_true rfl) ?_
  intro p e s m below meth c ls hx hb hr hml hown hts hlocks hin hsz hP hK hD0 hX0 hl
  have hown : s.vm.findClass RX4 = some m.cls := hown
  have hl : lv_has ls 7 [(0, .ref qR), (1, .ref qb), (2, .int (nI pn)), (3, .int (nI rn))] := hl
  subst hsz
  have hD := hD0.self (sz := s.heap.size)
  generalize hAe : va_A [(qR, .inr (4, [.ref qn])), (qn, .inl (cI, 36, .inl nd)), (qb, .inr (0, [.ref qp, .ref qs, .ref qr, .ref qf, .int fl])), (qp, .inl (cI, 12, .inl pr)), (qs, .inl (cI, 12, .inl sb)), (qr, .inl (cI, 4, .inl br)), (qf, .inl (cI, 4, .inl fe))] s.heap.size = A at hD ⊢
  have hA : ∀ q : Nat, s.heap.size ≤ q → A q := fun q h => by rw [← hAe]; exact Or.inr h
  have hS : va_S A s.heap s.heap [] := va_S.rf
  generalize hQ : MQ below (va_Qv (fun (u : IA) => u = wdA br pn rn nd 35) (fun (u : IA) t => va_P G vwCl [(qR, .inr (4, [.ref qn])), (qn, .inl (cI, 36, .inl u)), (qb, .inr (0, [.ref qp, .ref qs, .ref qr, .ref qf, .int fl])), (qp, .inl (cI, 12, .inl pr)), (qs, .inl (cI, 12, .inl sb)), (qr, .inl (cI, 4, .inl br)), (qf, .inl (cI, 4, .inl fe))] t.heap ∧ va_D A [(qR, .inr (4, [.ref qn])), (qn, .inl (cI, 36, .inl u)), (qb, .inr (0, [.ref qp, .ref qs, .ref qr, .ref qf, .int fl])), (qp, .inl (cI, 12, .inl pr)), (qs, .inl (cI, 12, .inl sb)), (qr, .inl (cI, 4, .inl br)), (qf, .inl (cI, 4, .inl fe))]) A) ([.ref qR, .ref qb, .int (nI pn), .int (nI rn)] : List Value).toArray s 0 0 A = Q
  generalize hag : ([.ref qR, .ref qb, .int (nI pn), .int (nI rn)] : List Value).toArray = ag at hts hQ ⊢
  refine lv_iconst (v := 0) hx hb dX4_widen_0 (by decide) ?_
  refine lv_istore (lv' := [(4, .int 0), (0, .ref qR), (1, .ref qb), (2, .int (nI pn)), (3, .int (nI rn))]) hx hb dX4_widen_1 hl (by decide) rfl (fun ls hl => ?_)
  have L1 : ∀ (n : Nat), ∀ (a : Nat), ∀ (nc : IA), ∀ (ha : a ≤ 35), ∀ (hf2 : nc = wdA br pn rn nd a), ∀ (hn : 36 ≤ a + n), ∀ (H242 : Heap) (locs242 : List Loc), va_P G vwCl [(qR, .inr (4, [.ref qn])), (qn, .inl (cI, 36, .inl nc)), (qb, .inr (0, [.ref qp, .ref qs, .ref qr, .ref qf, .int fl])), (qp, .inl (cI, 12, .inl pr)), (qs, .inl (cI, 12, .inl sb)), (qr, .inl (cI, 4, .inl br)), (qf, .inl (cI, 4, .inl fe))] H242 → va_D A [(qR, .inr (4, [.ref qn])), (qn, .inl (cI, 36, .inl nc)), (qb, .inr (0, [.ref qp, .ref qs, .ref qr, .ref qf, .int fl])), (qp, .inl (cI, 12, .inl pr)), (qs, .inl (cI, 12, .inl sb)), (qr, .inl (cI, 4, .inl br)), (qf, .inl (cI, 4, .inl fe))] → va_S A s.heap H242 locs242 → ∀ (ls : Array Slot), lv_has ls 7 [(4, .int (nI a)), (0, .ref qR), (1, .ref qb), (2, .int (nI pn)), (3, .int (nI rn))] → W p l e rm_X4_widen s m ag below meth c H242 locs242 0 0 Q (F0 m 3 ls []) := by
    intro n
    induction n with
    | zero =>
      intro a nc ha hf2 hn H242 locs242 hP hD hS ls hl
      omega
    | succ n ih1 =>
      intro a nc ha hf2 hn H242 locs242 hP hD hS ls hl
      refine lv_iload hx hb dX4_widen_3 (lv_at hl 0 rfl) ?_
      refine lv_bipush (v := 35) hx hb dX4_widen_5 (by decide) ?_
      refine zi_ge (tgt := 83) hx hb a 35 dX4_widen_7 (by decide) rfl rfl (by omega) (by decide) (fun c_243 => ?_) (fun c_243 => ?_)
      · subst hQ
        exact W.vret hx hb hr (fun t ht hW => ⟨⟨nc, rfl, (by rw [hf2, show a = 35 by omega]), by rw [ht]; exact hP, hD⟩, hS.F ht⟩) hS.2.2 dX4_widen_83
      · refine lv_iconst (v := 1) hx hb dX4_widen_10 (by decide) ?_
        refine lv_istore (lv' := [(5, .int 1), (4, .int (nI a)), (0, .ref qR), (1, .ref qb), (2, .int (nI pn)), (3, .int (nI rn))]) hx hb dX4_widen_11 hl (by decide) rfl (fun ls hl => ?_)
        have L2 : ∀ (n : Nat), ∀ (i : Nat), ∀ (ne : IA), ∀ (hi1 : 1 ≤ i), ∀ (hi : i ≤ 7), ∀ (hf3 : ne = wdC br pn rn a nc (i - 1)), ∀ (hn2 : 8 ≤ i + n), ∀ (H244 : Heap) (locs244 : List Loc), va_P G vwCl [(qR, .inr (4, [.ref qn])), (qn, .inl (cI, 36, .inl ne)), (qb, .inr (0, [.ref qp, .ref qs, .ref qr, .ref qf, .int fl])), (qp, .inl (cI, 12, .inl pr)), (qs, .inl (cI, 12, .inl sb)), (qr, .inl (cI, 4, .inl br)), (qf, .inl (cI, 4, .inl fe))] H244 → va_D A [(qR, .inr (4, [.ref qn])), (qn, .inl (cI, 36, .inl ne)), (qb, .inr (0, [.ref qp, .ref qs, .ref qr, .ref qf, .int fl])), (qp, .inl (cI, 12, .inl pr)), (qs, .inl (cI, 12, .inl sb)), (qr, .inl (cI, 4, .inl br)), (qf, .inl (cI, 4, .inl fe))] → va_S A s.heap H244 locs244 → ∀ (ls : Array Slot), lv_has ls 7 [(5, .int (nI i)), (4, .int (nI a)), (0, .ref qR), (1, .ref qb), (2, .int (nI pn)), (3, .int (nI rn))] → W p l e rm_X4_widen s m ag below meth c H244 locs244 0 0 Q (F0 m 13 ls []) := by
          intro n
          induction n with
          | zero =>
            intro i ne hi1 hi hf3 hn2 H244 locs244 hP hD hS ls hl
            omega
          | succ n ih2 =>
            intro i ne hi1 hi hf3 hn2 H244 locs244 hP hD hS ls hl
            refine lv_iload hx hb dX4_widen_13 (lv_at hl 0 rfl) ?_
            refine lv_bipush (v := 6) hx hb dX4_widen_15 (by decide) ?_
            refine zi_gt (tgt := 77) hx hb i 6 dX4_widen_17 (by decide) rfl rfl (by omega) (by decide) (fun c_245 => ?_) (fun c_245 => ?_)
            · refine lv_iinc (v := nI (a + 1)) (lv' := [(4, .int (nI (a + 1))), (5, .int (nI i)), (0, .ref qR), (1, .ref qb), (2, .int (nI pn)), (3, .int (nI rn))]) hx hb dX4_widen_77 hl (k := 1) rfl (nI_inc a) (by decide) rfl (fun ls hl => ?_)
              refine lv_goto (tgt := 3) hx hb dX4_widen_80 (by decide) ?_
              exact ih1 (a + 1) ne (by omega) (by rw [wdA, ← hf2, hf3, show i - 1 = 6 by omega]) (by omega) H244 locs244 hP hD hS _ (lv_sub hl [0, 2, 3, 4, 5] rfl)
            · refine lv_aload_n hx hb dX4_widen_20 rfl (lv_at hl 2 rfl) ?_
              refine va_get (D := G) (ci := 4) (v := .ref qn) (C := RX4) (T := TX4) (N := 1) hx hb hts inlX4 hown hK.1 hP 0 rfl rfl 0 (by decide) (hts _ wd56) (fun _ h9 => h9) rfl dX4_widen_21 ?_
              refine lv_iload hx hb dX4_widen_24 (lv_at hl 1 rfl) ?_
              refine za_ld hx hb hK.1 hP 1 0 rfl rfl a rfl (by omega) (by decide) dX4_widen_26 ?_
              refine lv_iload_n hx hb dX4_widen_27 rfl (lv_at hl 5 rfl) ?_
              refine lv_icmp_ne (tgt := 77) hx hb dX4_widen_28 (by decide) (fun c_246 => ?_) (fun c_246 => ?_)
              · refine lv_iinc (v := nI (a + 1)) (lv' := [(4, .int (nI (a + 1))), (5, .int (nI i)), (0, .ref qR), (1, .ref qb), (2, .int (nI pn)), (3, .int (nI rn))]) hx hb dX4_widen_77 hl (k := 1) rfl (nI_inc a) (by decide) rfl (fun ls hl => ?_)
                refine lv_goto (tgt := 3) hx hb dX4_widen_80 (by decide) ?_
                exact ih1 (a + 1) ne (by omega) (by rw [wdA, ← hf2, hf3]; rw [hf3] at c_246; rw [show 6 = (i - 1) + (7 - i) by omega, wdC_stop c_246]) (by omega) H244 locs244 hP hD hS _ (lv_sub hl [0, 2, 3, 4, 5] rfl)
              · refine lv_aload_n hx hb dX4_widen_31 rfl (lv_at hl 3 rfl) ?_
                refine lv_iload_n hx hb dX4_widen_32 rfl (lv_at hl 4 rfl) ?_
                refine lv_iload hx hb dX4_widen_33 (lv_at hl 1 rfl) ?_
                refine lv_iload hx hb dX4_widen_35 (lv_at hl 0 rfl) ?_
                have hPc := hP.sub (ws' := [(qb, .inr (0, [.ref qp, .ref qs, .ref qr, .ref qf, .int fl])), (qp, .inl (cI, 12, .inl pr)), (qs, .inl (cI, 12, .inl sb)), (qr, .inl (cI, 4, .inl br)), (qf, .inl (cI, 4, .inl fe))]) [2, 3, 4, 5, 6] rfl
                have hDc := (hD.sub (ws' := [(qb, .inr (0, [.ref qp, .ref qs, .ref qr, .ref qf, .int fl])), (qp, .inl (cI, 12, .inl pr)), (qs, .inl (cI, 12, .inl sb)), (qr, .inl (cI, 4, .inl br)), (qf, .inl (cI, 4, .inl fe))]) [2, 3, 4, 5, 6] (by decide) rfl).tt
                refine vp_callSi (va_Run.run (va_runVN (As := [.int (nI pn), .int (nI a), .int (nI i)]) (rest := []) ⟨hx, hb, hml, hown, hts⟩ (c_X0_target l G cI cC cZ cG H244.size qb qp qs qr qf pr sb br fe fl pn (nI a) i (by omega) (Or.inr ⟨a, by omega, rfl⟩) (by omega)) (cf_RX4_15 hts hK.2 ⟨Nat.le_of_ble_eq_true rfl, Nat.le_of_ble_eq_true rfl⟩) (pre_V hK hPc hDc (ci := 0) (q0 := 0) rfl rfl) rfl rfl hl.1 rfl (lv_room (Nat.le_of_ble_eq_true rfl)) dX4_widen_37 ⟨Nat.le_of_ble_eq_true rfl, Nat.le_of_ble_eq_true rfl⟩)) (fun r247 hr247 => ?_)
                subst hr247
                refine lv_istore (lv' := [(6, .int (tgt br pn (nI a) i)), (5, .int (nI i)), (4, .int (nI a)), (0, .ref qR), (1, .ref qb), (2, .int (nI pn)), (3, .int (nI rn))]) hx hb dX4_widen_40 hl (by decide) rfl (fun ls hl => ?_)
                refine lv_iload hx hb dX4_widen_42 (lv_at hl 0 rfl) ?_
                refine lv_bipush (v := (-6)) hx hb dX4_widen_44 (by decide) ?_
                refine lv_icmp_eq (tgt := 71) hx hb dX4_widen_46 (by decide) (fun c_248 => ?_) (fun c_248 => ?_)
                · refine lv_iinc (v := nI (i + 1)) (lv' := [(5, .int (nI (i + 1))), (6, .int (tgt br pn (nI a) i)), (4, .int (nI a)), (0, .ref qR), (1, .ref qb), (2, .int (nI pn)), (3, .int (nI rn))]) hx hb dX4_widen_71 hl (k := 1) rfl (nI_inc i) (by decide) rfl (fun ls hl => ?_)
                  refine lv_goto (tgt := 13) hx hb dX4_widen_74 (by decide) ?_
                  exact ih2 (i + 1) ne (by omega) (by omega) (by rw [show i + 1 - 1 = (i - 1) + 1 by omega, wdC, show (i - 1) + 1 = i by omega, ← hf3, if_neg (fun q => q.2.1 c_248)]) (by omega) H244 locs244 hP hD hS _ (lv_sub hl [0, 2, 3, 4, 5, 6] rfl)
                · obtain ⟨tn, htn, etn⟩ := (tgt_ok (br := br) (p := pn) (c := i) (v := nI a)).resolve_left c_248
                  rw [etn] at hl
                  refine lv_aload_n hx hb dX4_widen_49 rfl (lv_at hl 3 rfl) ?_
                  refine va_get (D := G) (ci := 4) (v := .ref qn) (C := RX4) (T := TX4) (N := 1) hx hb hts inlX4 hown hK.1 hP 0 rfl rfl 0 (by decide) (hts _ wd56) (fun _ h9 => h9) rfl dX4_widen_50 ?_
                  refine lv_iload hx hb dX4_widen_53 (lv_at hl 0 rfl) ?_
                  refine za_ld hx hb hK.1 hP 1 0 rfl rfl tn rfl (by omega) (by decide) dX4_widen_55 ?_
                  refine lv_bipush (v := (-6)) hx hb dX4_widen_56 (by decide) ?_
                  refine lv_icmp_ne (tgt := 71) hx hb dX4_widen_58 (by decide) (fun c_249 => ?_) (fun c_249 => ?_)
                  · refine lv_iinc (v := nI (i + 1)) (lv' := [(5, .int (nI (i + 1))), (6, .int (nI tn)), (4, .int (nI a)), (0, .ref qR), (1, .ref qb), (2, .int (nI pn)), (3, .int (nI rn))]) hx hb dX4_widen_71 hl (k := 1) rfl (nI_inc i) (by decide) rfl (fun ls hl => ?_)
                    refine lv_goto (tgt := 13) hx hb dX4_widen_74 (by decide) ?_
                    exact ih2 (i + 1) ne (by omega) (by omega) (by rw [show i + 1 - 1 = (i - 1) + 1 by omega, wdC, show (i - 1) + 1 = i by omega, ← hf3, etn, nI_clamp (show tn < 2 ^ 31 by omega), if_neg (fun q => c_249 q.2.2)]) (by omega) H244 locs244 hP hD hS _ (lv_sub hl [0, 2, 3, 4, 5, 6] rfl)
                  · refine lv_aload_n hx hb dX4_widen_61 rfl (lv_at hl 3 rfl) ?_
                    refine va_get (D := G) (ci := 4) (v := .ref qn) (C := RX4) (T := TX4) (N := 1) hx hb hts inlX4 hown hK.1 hP 0 rfl rfl 0 (by decide) (hts _ wd56) (fun _ h9 => h9) rfl dX4_widen_62 ?_
                    refine lv_iload hx hb dX4_widen_65 (lv_at hl 0 rfl) ?_
                    refine lv_iload_n hx hb dX4_widen_67 rfl (lv_at hl 6 rfl) ?_
                    refine lv_iconst (v := 1) hx hb dX4_widen_68 (by decide) ?_
                    refine zi_add hx hb rn 1 dX4_widen_69 rfl rfl ?_
                    refine za_st hx hb hK.1 hP hD hS 1 0 rfl rfl tn rfl (by omega) (by decide) dX4_widen_70 (fun H250 locs250 hP hD hS => ?_)
                    have hP : va_P G vwCl [(qR, .inr (4, [.ref qn])), (qn, .inl (cI, 36, .inl (upd ne tn (nI (rn + 1))))), (qb, .inr (0, [.ref qp, .ref qs, .ref qr, .ref qf, .int fl])), (qp, .inl (cI, 12, .inl pr)), (qs, .inl (cI, 12, .inl sb)), (qr, .inl (cI, 4, .inl br)), (qf, .inl (cI, 4, .inl fe))] H250 := hP
                    have hD : va_D A [(qR, .inr (4, [.ref qn])), (qn, .inl (cI, 36, .inl (upd ne tn (nI (rn + 1))))), (qb, .inr (0, [.ref qp, .ref qs, .ref qr, .ref qf, .int fl])), (qp, .inl (cI, 12, .inl pr)), (qs, .inl (cI, 12, .inl sb)), (qr, .inl (cI, 4, .inl br)), (qf, .inl (cI, 4, .inl fe))] := hD
                    refine lv_iinc (v := nI (i + 1)) (lv' := [(5, .int (nI (i + 1))), (6, .int (nI tn)), (4, .int (nI a)), (0, .ref qR), (1, .ref qb), (2, .int (nI pn)), (3, .int (nI rn))]) hx hb dX4_widen_71 hl (k := 1) rfl (nI_inc i) (by decide) rfl (fun ls hl => ?_)
                    refine lv_goto (tgt := 13) hx hb dX4_widen_74 (by decide) ?_
                    exact ih2 (i + 1) (upd ne tn (nI (rn + 1))) (by omega) (by omega) (by rw [show i + 1 - 1 = (i - 1) + 1 by omega, wdC, show (i - 1) + 1 = i by omega, ← hf3, etn, nI_clamp (show tn < 2 ^ 31 by omega), if_pos ⟨c_246, nI_neg (by omega) (by decide), c_249⟩]) (by omega) H250 locs250 hP hD hS _ (lv_sub hl [0, 2, 3, 4, 5, 6] rfl)
        exact L2 8 1 nc (by decide) (by decide) rfl (by decide) H242 locs242 hP hD hS _ (lv_sub hl [0, 1, 2, 3, 4, 5] rfl)
  exact L1 36 0 nd (by decide) rfl (by decide) s.heap [] hP hD hS _ (lv_sub hl [0, 1, 2, 3, 4] rfl)

abbrev rm_X4_goingWide : Room := { frames := 4, cells := 0, slots := 0, locals := 95 }
theorem cf_RX4_27 {R : Room} {s : State} {args : Array Value} (ht : ∀ w ∈ wsL_law, w.before args s = true) (hR : rm_X4_widen.frames + 1 ≤ R.frames ∧ 8 + (7 + 11) + rm_X4_widen.locals ≤ R.locals) : CallW R s args RX4 RX4 27 yX4_widen cX4_widen 7 none (.code yX4_widen cX4_widen 7 none :: wsL_law) rm_X4_widen 0 0 3 := ⟨cw_B 3 ht wd220 wd17 wd223 (by decide +kernel) rfl rfl hR, ht _ wd221, ht _ wd222⟩
set_option maxHeartbeats 1000000 in
set_option maxRecDepth 100000 in
theorem c_X4_goingWide (l : Launch) (G : va_G) (cI cC cZ cG : ClassId) (sz : Nat) (qR qn : Nat) (nd : IA) (qb qp qs qr qf : Nat) (pr sb br fe : IA) (fl : Int32) (pn fn : Nat) (hp : pn < 4) (hf0 : fn ≤ 35) : Met l yX4_goingWide (.code yX4_goingWide cX4_goingWide 5 (some .int) :: wsL_law) rm_X4_goingWide (va_Pc [.ref qR, .ref qb, .int (nI pn), .int (nI fn)] (bw G cI cC cZ cG false sz [(qR, .inr (4, [.ref qn])), (qn, .inl (cI, 36, .inl nd)), (qb, .inr (0, [.ref qp, .ref qs, .ref qr, .ref qf, .int fl])), (qp, .inl (cI, 12, .inl pr)), (qs, .inl (cI, 12, .inl sb)), (qr, .inl (cI, 4, .inl br)), (qf, .inl (cI, 4, .inl fe))])) (va_Qi (fun (r : Int32) (u : IA) => r = ndW nd br pn fn 35 ∧ True) (fun (u : IA) t => va_P G vwCl [(qR, .inr (4, [.ref qn])), (qn, .inl (cI, 36, .inl u)), (qb, .inr (0, [.ref qp, .ref qs, .ref qr, .ref qf, .int fl])), (qp, .inl (cI, 12, .inl pr)), (qs, .inl (cI, 12, .inl sb)), (qr, .inl (cI, 4, .inl br)), (qf, .inl (cI, 4, .inl fe))] t.heap ∧ va_D (va_A [(qR, .inr (4, [.ref qn])), (qn, .inl (cI, 36, .inl nd)), (qb, .inr (0, [.ref qp, .ref qs, .ref qr, .ref qf, .int fl])), (qp, .inl (cI, 12, .inl pr)), (qs, .inl (cI, 12, .inl sb)), (qr, .inl (cI, 4, .inl br)), (qf, .inl (cI, 4, .inl fe))] sz) [(qR, .inr (4, [.ref qn])), (qn, .inl (cI, 36, .inl u)), (qb, .inr (0, [.ref qp, .ref qs, .ref qr, .ref qf, .int fl])), (qp, .inl (cI, 12, .inl pr)), (qs, .inl (cI, 12, .inl sb)), (qr, .inl (cI, 4, .inl br)), (qf, .inl (cI, 4, .inl fe))]) (va_A [(qR, .inr (4, [.ref qn])), (qn, .inl (cI, 36, .inl nd)), (qb, .inr (0, [.ref qp, .ref qs, .ref qr, .ref qf, .int fl])), (qp, .inl (cI, 12, .inl pr)), (qs, .inl (cI, 12, .inl sb)), (qr, .inl (cI, 4, .inl br)), (qf, .inl (cI, 4, .inl fe))] sz)) 0 0 (va_A [(qR, .inr (4, [.ref qn])), (qn, .inl (cI, 36, .inl nd)), (qb, .inr (0, [.ref qp, .ref qs, .ref qr, .ref qf, .int fl])), (qp, .inl (cI, 12, .inl pr)), (qs, .inl (cI, 12, .inl sb)), (qr, .inl (cI, 4, .inl br)), (qf, .inl (cI, 4, .inl fe))] sz) := by
  refine met_bw rfl (Nat.le_of_ble_eq_true rfl) ?_
  intro p e s m below meth c ls hx hb hr hml hown hts hlocks hin hsz hP hK hD0 hX0 hl
  have hown : s.vm.findClass RX4 = some m.cls := hown
  have hl : lv_has ls 5 [(0, .ref qR), (1, .ref qb), (2, .int (nI pn)), (3, .int (nI fn))] := hl
  subst hsz
  have hD := hD0.self (sz := s.heap.size)
  generalize hAe : va_A [(qR, .inr (4, [.ref qn])), (qn, .inl (cI, 36, .inl nd)), (qb, .inr (0, [.ref qp, .ref qs, .ref qr, .ref qf, .int fl])), (qp, .inl (cI, 12, .inl pr)), (qs, .inl (cI, 12, .inl sb)), (qr, .inl (cI, 4, .inl br)), (qf, .inl (cI, 4, .inl fe))] s.heap.size = A at hD ⊢
  have hA : ∀ q : Nat, s.heap.size ≤ q → A q := fun q h => by rw [← hAe]; exact Or.inr h
  have hS : va_S A s.heap s.heap [] := va_S.rf
  generalize hQ : MQ below (va_Qi (fun (r : Int32) (u : IA) => r = ndW nd br pn fn 35 ∧ True) (fun (u : IA) t => va_P G vwCl [(qR, .inr (4, [.ref qn])), (qn, .inl (cI, 36, .inl u)), (qb, .inr (0, [.ref qp, .ref qs, .ref qr, .ref qf, .int fl])), (qp, .inl (cI, 12, .inl pr)), (qs, .inl (cI, 12, .inl sb)), (qr, .inl (cI, 4, .inl br)), (qf, .inl (cI, 4, .inl fe))] t.heap ∧ va_D A [(qR, .inr (4, [.ref qn])), (qn, .inl (cI, 36, .inl u)), (qb, .inr (0, [.ref qp, .ref qs, .ref qr, .ref qf, .int fl])), (qp, .inl (cI, 12, .inl pr)), (qs, .inl (cI, 12, .inl sb)), (qr, .inl (cI, 4, .inl br)), (qf, .inl (cI, 4, .inl fe))]) A) ([.ref qR, .ref qb, .int (nI pn), .int (nI fn)] : List Value).toArray s 0 0 A = Q
  generalize hag : ([.ref qR, .ref qb, .int (nI pn), .int (nI fn)] : List Value).toArray = ag at hts hQ ⊢
  refine lv_iconst (v := 0) hx hb dX4_goingWide_0 (by decide) ?_
  refine lv_istore (lv' := [(4, .int 0), (0, .ref qR), (1, .ref qb), (2, .int (nI pn)), (3, .int (nI fn))]) hx hb dX4_goingWide_1 hl (by decide) rfl (fun ls hl => ?_)
  have L1 : ∀ (n : Nat), ∀ (i : Nat), ∀ (nc : IA), ∀ (hi : i ≤ 36), ∀ (hf2 : nc = fil nd i), ∀ (hn : 37 ≤ i + n), ∀ (H251 : Heap) (locs251 : List Loc), va_P G vwCl [(qR, .inr (4, [.ref qn])), (qn, .inl (cI, 36, .inl nc)), (qb, .inr (0, [.ref qp, .ref qs, .ref qr, .ref qf, .int fl])), (qp, .inl (cI, 12, .inl pr)), (qs, .inl (cI, 12, .inl sb)), (qr, .inl (cI, 4, .inl br)), (qf, .inl (cI, 4, .inl fe))] H251 → va_D A [(qR, .inr (4, [.ref qn])), (qn, .inl (cI, 36, .inl nc)), (qb, .inr (0, [.ref qp, .ref qs, .ref qr, .ref qf, .int fl])), (qp, .inl (cI, 12, .inl pr)), (qs, .inl (cI, 12, .inl sb)), (qr, .inl (cI, 4, .inl br)), (qf, .inl (cI, 4, .inl fe))] → va_S A s.heap H251 locs251 → ∀ (ls : Array Slot), lv_has ls 5 [(4, .int (nI i)), (0, .ref qR), (1, .ref qb), (2, .int (nI pn)), (3, .int (nI fn))] → W p l e rm_X4_goingWide s m ag below meth c H251 locs251 0 0 Q (F0 m 3 ls []) := by
    intro n
    induction n with
    | zero =>
      intro i nc hi hf2 hn H251 locs251 hP hD hS ls hl
      omega
    | succ n ih1 =>
      intro i nc hi hf2 hn H251 locs251 hP hD hS ls hl
      refine lv_iload hx hb dX4_goingWide_3 (lv_at hl 0 rfl) ?_
      refine lv_bipush (v := 35) hx hb dX4_goingWide_5 (by decide) ?_
      refine zi_gt (tgt := 25) hx hb i 35 dX4_goingWide_7 (by decide) rfl rfl (by omega) (by decide) (fun c_252 => ?_) (fun c_252 => ?_)
      · refine lv_aload_n hx hb dX4_goingWide_25 rfl (lv_at hl 1 rfl) ?_
        refine va_get (D := G) (ci := 4) (v := .ref qn) (C := RX4) (T := TX4) (N := 1) hx hb hts inlX4 hown hK.1 hP 0 rfl rfl 0 (by decide) (hts _ wd56) (fun _ h9 => h9) rfl dX4_goingWide_26 ?_
        refine lv_iload_n hx hb dX4_goingWide_29 rfl (lv_at hl 4 rfl) ?_
        refine lv_iconst (v := 0) hx hb dX4_goingWide_30 (by decide) ?_
        refine za_st hx hb hK.1 hP hD hS 1 0 rfl rfl fn rfl (by omega) (by decide) dX4_goingWide_31 (fun H253 locs253 hP hD hS => ?_)
        have hP : va_P G vwCl [(qR, .inr (4, [.ref qn])), (qn, .inl (cI, 36, .inl (upd nc fn 0))), (qb, .inr (0, [.ref qp, .ref qs, .ref qr, .ref qf, .int fl])), (qp, .inl (cI, 12, .inl pr)), (qs, .inl (cI, 12, .inl sb)), (qr, .inl (cI, 4, .inl br)), (qf, .inl (cI, 4, .inl fe))] H253 := hP
        have hD : va_D A [(qR, .inr (4, [.ref qn])), (qn, .inl (cI, 36, .inl (upd nc fn 0))), (qb, .inr (0, [.ref qp, .ref qs, .ref qr, .ref qf, .int fl])), (qp, .inl (cI, 12, .inl pr)), (qs, .inl (cI, 12, .inl sb)), (qr, .inl (cI, 4, .inl br)), (qf, .inl (cI, 4, .inl fe))] := hD
        refine lv_iconst (v := 0) hx hb dX4_goingWide_32 (by decide) ?_
        refine lv_istore (lv' := [(4, .int 0), (0, .ref qR), (1, .ref qb), (2, .int (nI pn)), (3, .int (nI fn))]) hx hb dX4_goingWide_33 hl (by decide) rfl (fun ls hl => ?_)
        have L2 : ∀ (n : Nat), ∀ (r0 : Nat), ∀ (ne : IA), ∀ (hi2 : r0 ≤ 36), ∀ (hf3 : ne = wdR br pn (upd (fil nd 36) fn 0) r0), ∀ (hn2 : 37 ≤ r0 + n), ∀ (H254 : Heap) (locs254 : List Loc), va_P G vwCl [(qR, .inr (4, [.ref qn])), (qn, .inl (cI, 36, .inl ne)), (qb, .inr (0, [.ref qp, .ref qs, .ref qr, .ref qf, .int fl])), (qp, .inl (cI, 12, .inl pr)), (qs, .inl (cI, 12, .inl sb)), (qr, .inl (cI, 4, .inl br)), (qf, .inl (cI, 4, .inl fe))] H254 → va_D A [(qR, .inr (4, [.ref qn])), (qn, .inl (cI, 36, .inl ne)), (qb, .inr (0, [.ref qp, .ref qs, .ref qr, .ref qf, .int fl])), (qp, .inl (cI, 12, .inl pr)), (qs, .inl (cI, 12, .inl sb)), (qr, .inl (cI, 4, .inl br)), (qf, .inl (cI, 4, .inl fe))] → va_S A s.heap H254 locs254 → ∀ (ls : Array Slot), lv_has ls 5 [(4, .int (nI r0)), (0, .ref qR), (1, .ref qb), (2, .int (nI pn)), (3, .int (nI fn))] → W p l e rm_X4_goingWide s m ag below meth c H254 locs254 0 0 Q (F0 m 35 ls []) := by
          intro n
          induction n with
          | zero =>
            intro r0 ne hi2 hf3 hn2 H254 locs254 hP hD hS ls hl
            omega
          | succ n ih2 =>
            intro r0 ne hi2 hf3 hn2 H254 locs254 hP hD hS ls hl
            refine lv_iload hx hb dX4_goingWide_35 (lv_at hl 0 rfl) ?_
            refine lv_bipush (v := 35) hx hb dX4_goingWide_37 (by decide) ?_
            refine zi_gt (tgt := 68) hx hb r0 35 dX4_goingWide_39 (by decide) rfl rfl (by omega) (by decide) (fun c_255 => ?_) (fun c_255 => ?_)
            · refine lv_aload_n hx hb dX4_goingWide_68 rfl (lv_at hl 1 rfl) ?_
              refine va_get (D := G) (ci := 4) (v := .ref qn) (C := RX4) (T := TX4) (N := 1) hx hb hts inlX4 hown hK.1 hP 0 rfl rfl 0 (by decide) (hts _ wd56) (fun _ h9 => h9) rfl dX4_goingWide_69 ?_
              refine lv_bipush (v := 35) hx hb dX4_goingWide_72 (by decide) ?_
              refine za_ld hx hb hK.1 hP 1 0 rfl rfl 35 rfl (by decide) (by decide) dX4_goingWide_74 ?_
              subst hQ
              exact W.iret (v := ne 35) hx hb hr (fun t ht hW => ⟨⟨ne 35, ne, rfl, ⟨(by rw [hf3, ndW_eq, show r0 = 36 by omega]), trivial⟩, by rw [ht]; exact hP, hD⟩, hS.F ht⟩) hS.2.2 dX4_goingWide_75
            · refine lv_aload_n hx hb dX4_goingWide_42 rfl (lv_at hl 1 rfl) ?_
              refine va_get (D := G) (ci := 4) (v := .ref qn) (C := RX4) (T := TX4) (N := 1) hx hb hts inlX4 hown hK.1 hP 0 rfl rfl 0 (by decide) (hts _ wd56) (fun _ h9 => h9) rfl dX4_goingWide_43 ?_
              refine lv_bipush (v := 35) hx hb dX4_goingWide_46 (by decide) ?_
              refine za_ld hx hb hK.1 hP 1 0 rfl rfl 35 rfl (by decide) (by decide) dX4_goingWide_48 ?_
              refine lv_bipush (v := (-6)) hx hb dX4_goingWide_49 (by decide) ?_
              refine lv_icmp_ne (tgt := 68) hx hb dX4_goingWide_51 (by decide) (fun c_256 => ?_) (fun c_256 => ?_)
              · refine lv_aload_n hx hb dX4_goingWide_68 rfl (lv_at hl 1 rfl) ?_
                refine va_get (D := G) (ci := 4) (v := .ref qn) (C := RX4) (T := TX4) (N := 1) hx hb hts inlX4 hown hK.1 hP 0 rfl rfl 0 (by decide) (hts _ wd56) (fun _ h9 => h9) rfl dX4_goingWide_69 ?_
                refine lv_bipush (v := 35) hx hb dX4_goingWide_72 (by decide) ?_
                refine za_ld hx hb hK.1 hP 1 0 rfl rfl 35 rfl (by decide) (by decide) dX4_goingWide_74 ?_
                subst hQ
                exact W.iret (v := ne 35) hx hb hr (fun t ht hW => ⟨⟨ne 35, ne, rfl, ⟨(by rw [hf3] at c_256; have e := wdR_stop c_256 (36 - r0); rw [show r0 + (36 - r0) = 36 by omega] at e; rw [hf3, ndW_eq, e]), trivial⟩, by rw [ht]; exact hP, hD⟩, hS.F ht⟩) hS.2.2 dX4_goingWide_75
              · refine lv_aload_n hx hb dX4_goingWide_54 rfl (lv_at hl 1 rfl) ?_
                refine lv_aload_n hx hb dX4_goingWide_55 rfl (lv_at hl 2 rfl) ?_
                refine lv_iload_n hx hb dX4_goingWide_56 rfl (lv_at hl 3 rfl) ?_
                refine lv_iload hx hb dX4_goingWide_57 (lv_at hl 0 rfl) ?_
                have hPc : va_P G vwCl [(qR, .inr (4, [.ref qn])), (qn, .inl (cI, 36, .inl ne)), (qb, .inr (0, [.ref qp, .ref qs, .ref qr, .ref qf, .int fl])), (qp, .inl (cI, 12, .inl pr)), (qs, .inl (cI, 12, .inl sb)), (qr, .inl (cI, 4, .inl br)), (qf, .inl (cI, 4, .inl fe))] H254 := hP
                have hDc := hD.tt
                have hFc := va_free (wc := [(qR, .inr (4, [.ref qn])), (qn, .inl (cI, 36, .inl ne)), (qb, .inr (0, [.ref qp, .ref qs, .ref qr, .ref qf, .int fl])), (qp, .inl (cI, 12, .inl pr)), (qs, .inl (cI, 12, .inl sb)), (qr, .inl (cI, 4, .inl br)), (qf, .inl (cI, 4, .inl fe))]) hD hS hA [0, 1, 2, 3, 4, 5, 6] rfl
                refine va_callv (va_runV (As := [.ref qb, .int (nI pn), .int (nI r0)]) (rest := []) ⟨hx, hb, hml, hown, hts⟩ (c_X4_widen l G cI cC cZ cG H254.size qR qn ne qb qp qs qr qf pr sb br fe fl pn r0 hp (by omega)) (cf_RX4_27 hts ⟨Nat.le_of_ble_eq_true rfl, Nat.le_of_ble_eq_true rfl⟩) (pre_V hK hPc hDc (ci := 4) (q0 := 0) rfl rfl) rfl rfl hl.1 rfl (lv_room (Nat.le_of_ble_eq_true rfl)) dX4_goingWide_59 ⟨Nat.le_of_ble_eq_true rfl, Nat.le_of_ble_eq_true rfl⟩) hS (fun q _ h => hFc q h) hFc (fun u257 t257 H257 locs257 ht257 hvm257 hw257 hB257 hz257 hk257 hS => ?_)
                obtain ⟨nd257, rfl⟩ : ∃ z, z = u257 := ⟨_, rfl⟩
                obtain ⟨hP1, hD1⟩ := hB257
                rw [ht257] at hP1
                try dsimp only at hw257
                obtain ⟨hP, hD⟩ := va_join (wr := []) (w1 := [(qR, .inr (4, [.ref qn])), (qn, .inl (cI, 36, .inl nd257)), (qb, .inr (0, [.ref qp, .ref qs, .ref qr, .ref qf, .int fl])), (qp, .inl (cI, 12, .inl pr)), (qs, .inl (cI, 12, .inl sb)), (qr, .inl (cI, 4, .inl br)), (qf, .inl (cI, 4, .inl fe))]) hP hD [0, 1, 2, 3, 4, 5, 6] [] rfl rfl (by decide) (by decide) hk257 hFc hP1 hD1
                have hP : va_P G vwCl [(qR, .inr (4, [.ref qn])), (qn, .inl (cI, 36, .inl nd257)), (qb, .inr (0, [.ref qp, .ref qs, .ref qr, .ref qf, .int fl])), (qp, .inl (cI, 12, .inl pr)), (qs, .inl (cI, 12, .inl sb)), (qr, .inl (cI, 4, .inl br)), (qf, .inl (cI, 4, .inl fe))] H257 := hP
                have hD : va_D A [(qR, .inr (4, [.ref qn])), (qn, .inl (cI, 36, .inl nd257)), (qb, .inr (0, [.ref qp, .ref qs, .ref qr, .ref qf, .int fl])), (qp, .inl (cI, 12, .inl pr)), (qs, .inl (cI, 12, .inl sb)), (qr, .inl (cI, 4, .inl br)), (qf, .inl (cI, 4, .inl fe))] := hD
                refine lv_iinc (v := nI (r0 + 1)) (lv' := [(4, .int (nI (r0 + 1))), (0, .ref qR), (1, .ref qb), (2, .int (nI pn)), (3, .int (nI fn))]) hx hb dX4_goingWide_62 hl (k := 0) rfl (nI_inc r0) (by decide) rfl (fun ls hl => ?_)
                refine lv_goto (tgt := 35) hx hb dX4_goingWide_65 (by decide) ?_
                exact ih2 (r0 + 1) nd257 (by omega) (by rw [wdR, ← hf3, if_pos c_256]; exact hw257) (by omega) H257 locs257 hP hD hS _ (lv_sub hl [0, 1, 2, 3, 4] rfl)
        exact L2 37 0 (upd nc fn 0) (by decide) (by rw [hf2, show i = 36 by omega]; rfl) (by decide) H253 locs253 hP hD hS _ (lv_sub hl [0, 1, 2, 3, 4] rfl)
      · refine lv_aload_n hx hb dX4_goingWide_10 rfl (lv_at hl 1 rfl) ?_
        refine va_get (D := G) (ci := 4) (v := .ref qn) (C := RX4) (T := TX4) (N := 1) hx hb hts inlX4 hown hK.1 hP 0 rfl rfl 0 (by decide) (hts _ wd56) (fun _ h9 => h9) rfl dX4_goingWide_11 ?_
        refine lv_iload hx hb dX4_goingWide_14 (lv_at hl 0 rfl) ?_
        refine lv_bipush (v := (-6)) hx hb dX4_goingWide_16 (by decide) ?_
        refine za_st hx hb hK.1 hP hD hS 1 0 rfl rfl i rfl (by omega) (by decide) dX4_goingWide_18 (fun H258 locs258 hP hD hS => ?_)
        have hP : va_P G vwCl [(qR, .inr (4, [.ref qn])), (qn, .inl (cI, 36, .inl (upd nc i (-6)))), (qb, .inr (0, [.ref qp, .ref qs, .ref qr, .ref qf, .int fl])), (qp, .inl (cI, 12, .inl pr)), (qs, .inl (cI, 12, .inl sb)), (qr, .inl (cI, 4, .inl br)), (qf, .inl (cI, 4, .inl fe))] H258 := hP
        have hD : va_D A [(qR, .inr (4, [.ref qn])), (qn, .inl (cI, 36, .inl (upd nc i (-6)))), (qb, .inr (0, [.ref qp, .ref qs, .ref qr, .ref qf, .int fl])), (qp, .inl (cI, 12, .inl pr)), (qs, .inl (cI, 12, .inl sb)), (qr, .inl (cI, 4, .inl br)), (qf, .inl (cI, 4, .inl fe))] := hD
        refine lv_iinc (v := nI (i + 1)) (lv' := [(4, .int (nI (i + 1))), (0, .ref qR), (1, .ref qb), (2, .int (nI pn)), (3, .int (nI fn))]) hx hb dX4_goingWide_19 hl (k := 0) rfl (nI_inc i) (by decide) rfl (fun ls hl => ?_)
        refine lv_goto (tgt := 3) hx hb dX4_goingWide_22 (by decide) ?_
        exact ih1 (i + 1) (upd nc i (-6)) (by omega) (by rw [fil, ← hf2]) (by omega) H258 locs258 hP hD hS _ (lv_sub hl [0, 1, 2, 3, 4] rfl)
  exact L1 37 0 nd (by decide) rfl (by decide) s.heap [] hP hD hS _ (lv_sub hl [0, 1, 2, 3, 4] rfl)
