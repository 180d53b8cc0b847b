abbrev rm_X4_fromHomeOn : Room := { frames := 3, cells := 0, slots := 0, locals := 69 }
theorem cf_RX4_15 {R : Room} {s : State} {args : Array Value} (ht : ∀ w ∈ wsL_law, w.before args s = true) (hN : ∀ w ∈ nestW, va_Nw w s) (hR : rm_X0_target.frames + 1 ≤ R.frames ∧ 8 + (6 + 11) + rm_X0_target.locals ≤ R.locals) : va_CN R s args RX4 15 yX0_target "BridgedPachisi" cX0_target 6 (some .int) (.code yX0_target cX0_target 6 (some .int) :: wsL_law) rm_X0_target 0 0 3 ∧ (Cond.instanceMethod yX0_target).before args s = true ∧ (Cond.selects RX0 yX0_target yX0_target).before args s = true := ⟨cw_N 3 ht hN nw70 wd36 wd205 (by decide +kernel) rfl rfl hR, ht _ wd203, ht _ wd204⟩
set_option maxHeartbeats 1000000 in
set_option maxRecDepth 100000 in
theorem c_X4_fromHomeOn (l : Launch) (G : va_G) (cI cC cZ cG : ClassId) (sz : Nat) (qR qn : Nat) (nd : IA) (qb qp qs qr qf : Nat) (pr sb br fe : IA) (fl : Int32) (pn fn : Nat) (hp : pn < 4) (hf0 : fn ≤ 35) : Met l yX4_fromHomeOn (.code yX4_fromHomeOn cX4_fromHomeOn 8 (some .int) :: wsL_law) rm_X4_fromHomeOn (va_Pc [.ref qR, .ref qb, .int (nI pn), .int (nI fn)] (bw G cI cC cZ cG false sz [(qR, .inr (4, [.ref qn])), (qn, .inl (cI, 36, .inl nd)), (qb, .inr (0, [.ref qp, .ref qs, .ref qr, .ref qf, .int fl])), (qp, .inl (cI, 12, .inl pr)), (qs, .inl (cI, 12, .inl sb)), (qr, .inl (cI, 4, .inl br)), (qf, .inl (cI, 4, .inl fe))])) (va_Qi (fun (r : Int32) (u : IA) => r = tnW nd br pn fn ∧ True) (fun (u : IA) t => va_P G vwCl [(qR, .inr (4, [.ref qn])), (qn, .inl (cI, 36, .inl u)), (qb, .inr (0, [.ref qp, .ref qs, .ref qr, .ref qf, .int fl])), (qp, .inl (cI, 12, .inl pr)), (qs, .inl (cI, 12, .inl sb)), (qr, .inl (cI, 4, .inl br)), (qf, .inl (cI, 4, .inl fe))] t.heap ∧ va_D (va_A [(qR, .inr (4, [.ref qn])), (qn, .inl (cI, 36, .inl nd)), (qb, .inr (0, [.ref qp, .ref qs, .ref qr, .ref qf, .int fl])), (qp, .inl (cI, 12, .inl pr)), (qs, .inl (cI, 12, .inl sb)), (qr, .inl (cI, 4, .inl br)), (qf, .inl (cI, 4, .inl fe))] sz) [(qR, .inr (4, [.ref qn])), (qn, .inl (cI, 36, .inl u)), (qb, .inr (0, [.ref qp, .ref qs, .ref qr, .ref qf, .int fl])), (qp, .inl (cI, 12, .inl pr)), (qs, .inl (cI, 12, .inl sb)), (qr, .inl (cI, 4, .inl br)), (qf, .inl (cI, 4, .inl fe))]) (va_A [(qR, .inr (4, [.ref qn])), (qn, .inl (cI, 36, .inl nd)), (qb, .inr (0, [.ref qp, .ref qs, .ref qr, .ref qf, .int fl])), (qp, .inl (cI, 12, .inl pr)), (qs, .inl (cI, 12, .inl sb)), (qr, .inl (cI, 4, .inl br)), (qf, .inl (cI, 4, .inl fe))] sz)) 0 0 (va_A [(qR, .inr (4, [.ref qn])), (qn, .inl (cI, 36, .inl nd)), (qb, .inr (0, [.ref qp, .ref qs, .ref qr, .ref qf, .int fl])), (qp, .inl (cI, 12, .inl pr)), (qs, .inl (cI, 12, .inl sb)), (qr, .inl (cI, 4, .inl br)), (qf, .inl (cI, 4, .inl fe))] sz) := by
  refine met_bw rfl (Nat.le_of_ble_eq_true rfl) ?_
  intro p e s m below meth c ls hx hb hr hml hown hts hlocks hin hsz hP hK hD0 hX0 hl
  have hown : s.vm.findClass RX4 = some m.cls := hown
  have hl : lv_has ls 8 [(0, .ref qR), (1, .ref qb), (2, .int (nI pn)), (3, .int (nI fn))] := hl
  subst hsz
  have hD := hD0.self (sz := s.heap.size)
  generalize hAe : va_A [(qR, .inr (4, [.ref qn])), (qn, .inl (cI, 36, .inl nd)), (qb, .inr (0, [.ref qp, .ref qs, .ref qr, .ref qf, .int fl])), (qp, .inl (cI, 12, .inl pr)), (qs, .inl (cI, 12, .inl sb)), (qr, .inl (cI, 4, .inl br)), (qf, .inl (cI, 4, .inl fe))] s.heap.size = A at hD ⊢
  have hA : ∀ q : Nat, s.heap.size ≤ q → A q := fun q h => by rw [← hAe]; exact Or.inr h
  have hS : va_S A s.heap s.heap [] := va_S.rf
  generalize hQ : MQ below (va_Qi (fun (r : Int32) (u : IA) => r = tnW nd br pn fn ∧ True) (fun (u : IA) t => va_P G vwCl [(qR, .inr (4, [.ref qn])), (qn, .inl (cI, 36, .inl u)), (qb, .inr (0, [.ref qp, .ref qs, .ref qr, .ref qf, .int fl])), (qp, .inl (cI, 12, .inl pr)), (qs, .inl (cI, 12, .inl sb)), (qr, .inl (cI, 4, .inl br)), (qf, .inl (cI, 4, .inl fe))] t.heap ∧ va_D A [(qR, .inr (4, [.ref qn])), (qn, .inl (cI, 36, .inl u)), (qb, .inr (0, [.ref qp, .ref qs, .ref qr, .ref qf, .int fl])), (qp, .inl (cI, 12, .inl pr)), (qs, .inl (cI, 12, .inl sb)), (qr, .inl (cI, 4, .inl br)), (qf, .inl (cI, 4, .inl fe))]) A) ([.ref qR, .ref qb, .int (nI pn), .int (nI fn)] : List Value).toArray s 0 0 A = Q
  generalize hag : ([.ref qR, .ref qb, .int (nI pn), .int (nI fn)] : List Value).toArray = ag at hts hQ ⊢
  refine lv_aload_n hx hb dX4_fromHomeOn_0 rfl (lv_at hl 0 rfl) ?_
  refine va_get (D := G) (ci := 4) (v := .ref qn) (C := RX4) (T := TX4) (N := 1) hx hb hts inlX4 hown hK.1 hP 0 rfl rfl 0 (by decide) (hts _ wd60) (fun _ h9 => h9) rfl dX4_fromHomeOn_1 ?_
  refine lv_bipush (v := 35) hx hb dX4_fromHomeOn_4 (by decide) ?_
  refine lv_iconst (v := 0) hx hb dX4_fromHomeOn_6 (by decide) ?_
  refine za_st hx hb hK.1 hP hD hS 1 0 rfl rfl 35 rfl (by decide) (by decide) dX4_fromHomeOn_7 (fun H716 locs716 hP hD hS => ?_)
  have hP : va_P G vwCl [(qR, .inr (4, [.ref qn])), (qn, .inl (cI, 36, .inl (upd nd 35 0))), (qb, .inr (0, [.ref qp, .ref qs, .ref qr, .ref qf, .int fl])), (qp, .inl (cI, 12, .inl pr)), (qs, .inl (cI, 12, .inl sb)), (qr, .inl (cI, 4, .inl br)), (qf, .inl (cI, 4, .inl fe))] H716 := hP
  have hD : va_D A [(qR, .inr (4, [.ref qn])), (qn, .inl (cI, 36, .inl (upd nd 35 0))), (qb, .inr (0, [.ref qp, .ref qs, .ref qr, .ref qf, .int fl])), (qp, .inl (cI, 12, .inl pr)), (qs, .inl (cI, 12, .inl sb)), (qr, .inl (cI, 4, .inl br)), (qf, .inl (cI, 4, .inl fe))] := hD
  refine lv_bipush (v := 34) hx hb dX4_fromHomeOn_8 (by decide) ?_
  refine lv_istore (lv' := [(4, .int 34), (0, .ref qR), (1, .ref qb), (2, .int (nI pn)), (3, .int (nI fn))]) hx hb dX4_fromHomeOn_10 hl (by decide) rfl (fun ls hl => ?_)
  have L1 : ∀ (n : Nat), ∀ (Ac : Nat), ∀ (x : Int32), ∀ (nc : IA), ∀ (hAc : Ac ≤ 35), ∀ (hAf : fn ≤ Ac), ∀ (hx2 : x = nI Ac - 1), ∀ (hnc : nc = tnC nd br pn (35 - Ac)), ∀ (hn2 : Ac + 1 ≤ n), ∀ (H717 : Heap) (locs717 : List Loc), va_P G vwCl [(qR, .inr (4, [.ref qn])), (qn, .inl (cI, 36, .inl nc)), (qb, .inr (0, [.ref qp, .ref qs, .ref qr, .ref qf, .int fl])), (qp, .inl (cI, 12, .inl pr)), (qs, .inl (cI, 12, .inl sb)), (qr, .inl (cI, 4, .inl br)), (qf, .inl (cI, 4, .inl fe))] H717 → va_D A [(qR, .inr (4, [.ref qn])), (qn, .inl (cI, 36, .inl nc)), (qb, .inr (0, [.ref qp, .ref qs, .ref qr, .ref qf, .int fl])), (qp, .inl (cI, 12, .inl pr)), (qs, .inl (cI, 12, .inl sb)), (qr, .inl (cI, 4, .inl br)), (qf, .inl (cI, 4, .inl fe))] → va_S A s.heap H717 locs717 → ∀ (ls : Array Slot), lv_has ls 8 [(4, .int x), (0, .ref qR), (1, .ref qb), (2, .int (nI pn)), (3, .int (nI fn))] → W p l e rm_X4_fromHomeOn s m ag below meth c H717 locs717 0 0 Q (F0 m 12 ls []) := by
    intro n
    induction n with
    | zero =>
      intro Ac x nc hAc hAf hx2 hnc hn2 H717 locs717 hP hD hS ls hl
      omega
    | succ n ih1 =>
      intro Ac x nc hAc hAf hx2 hnc hn2 H717 locs717 hP hD hS ls hl
      rcases Ac with _ | b2
      · obtain rfl : x = -1 := by rw [hx2]; decide
        refine lv_iload hx hb dX4_fromHomeOn_12 (lv_at hl 0 rfl) ?_
        refine lv_iload_n hx hb dX4_fromHomeOn_14 rfl (lv_at hl 4 rfl) ?_
        refine lv_icmp_lt (tgt := 87) hx hb dX4_fromHomeOn_15 (by decide) (fun c_718 => ?_) (fun c_718 => ?_)
        · refine lv_aload_n hx hb dX4_fromHomeOn_87 rfl (lv_at hl 1 rfl) ?_
          refine va_get (D := G) (ci := 4) (v := .ref qn) (C := RX4) (T := TX4) (N := 1) hx hb hts inlX4 hown hK.1 hP 0 rfl rfl 0 (by decide) (hts _ wd60) (fun _ h9 => h9) rfl dX4_fromHomeOn_88 ?_
          refine lv_iload_n hx hb dX4_fromHomeOn_91 rfl (lv_at hl 4 rfl) ?_
          refine za_ld hx hb hK.1 hP 1 0 rfl rfl fn rfl (by omega) (by decide) dX4_fromHomeOn_92 ?_
          subst hQ
          exact W.iret (v := nc fn) hx hb hr (fun t ht hW => ⟨⟨nc fn, nc, rfl, ⟨(by rw [tnW_eq, hnc]; first | (rw [show 35 - fn = 35 - 0 by omega]) | (rw [show 35 - fn = 35 - (b2 + 1) by omega])), trivial⟩, by rw [ht]; exact hP, hD⟩, hS.F ht⟩) hS.2.2 dX4_fromHomeOn_93
        · exact absurd (m1_lt (by omega)) c_718
      · obtain rfl : x = nI b2 := by rw [hx2]; exact nI_pred b2
        refine lv_iload hx hb dX4_fromHomeOn_12 (lv_at hl 0 rfl) ?_
        refine lv_iload_n hx hb dX4_fromHomeOn_14 rfl (lv_at hl 4 rfl) ?_
        refine zi_lt (tgt := 87) hx hb b2 fn dX4_fromHomeOn_15 (by decide) rfl rfl (by omega) (by omega) (fun c_719 => ?_) (fun c_719 => ?_)
        · refine lv_aload_n hx hb dX4_fromHomeOn_87 rfl (lv_at hl 1 rfl) ?_
          refine va_get (D := G) (ci := 4) (v := .ref qn) (C := RX4) (T := TX4) (N := 1) hx hb hts inlX4 hown hK.1 hP 0 rfl rfl 0 (by decide) (hts _ wd60) (fun _ h9 => h9) rfl dX4_fromHomeOn_88 ?_
          refine lv_iload_n hx hb dX4_fromHomeOn_91 rfl (lv_at hl 4 rfl) ?_
          refine za_ld hx hb hK.1 hP 1 0 rfl rfl fn rfl (by omega) (by decide) dX4_fromHomeOn_92 ?_
          subst hQ
          exact W.iret (v := nc fn) hx hb hr (fun t ht hW => ⟨⟨nc fn, nc, rfl, ⟨(by rw [tnW_eq, hnc]; first | (rw [show 35 - fn = 35 - 0 by omega]) | (rw [show 35 - fn = 35 - (b2 + 1) by omega])), trivial⟩, by rw [ht]; exact hP, hD⟩, hS.F ht⟩) hS.2.2 dX4_fromHomeOn_93
        · refine lv_bipush (v := 36) hx hb dX4_fromHomeOn_18 (by decide) ?_
          refine lv_istore (lv' := [(5, .int 36), (4, .int (nI b2)), (0, .ref qR), (1, .ref qb), (2, .int (nI pn)), (3, .int (nI fn))]) hx hb dX4_fromHomeOn_20 hl (by decide) rfl (fun ls hl => ?_)
          refine lv_iconst (v := 1) hx hb dX4_fromHomeOn_22 (by decide) ?_
          refine lv_istore (lv' := [(6, .int 1), (5, .int 36), (4, .int (nI b2)), (0, .ref qR), (1, .ref qb), (2, .int (nI pn)), (3, .int (nI fn))]) hx hb dX4_fromHomeOn_23 hl (by decide) rfl (fun ls hl => ?_)
          have L2 : ∀ (n : Nat), ∀ (i : Nat), ∀ (f0 : Int32), ∀ (hi1 : 1 ≤ i), ∀ (hi : i ≤ 7), ∀ (hf3 : f0 = tvC nc br pn b2 (i - 1)), ∀ (hn : 8 ≤ i + n), ∀ (ls : Array Slot), lv_has ls 8 [(6, .int (nI i)), (5, .int f0), (4, .int (nI b2)), (0, .ref qR), (1, .ref qb), (2, .int (nI pn)), (3, .int (nI fn))] → W p l e rm_X4_fromHomeOn s m ag below meth c H717 locs717 0 0 Q (F0 m 25 ls []) := by
            intro n
            induction n with
            | zero =>
              intro i f0 hi1 hi hf3 hn ls hl
              omega
            | succ n ih2 =>
              intro i f0 hi1 hi hf3 hn ls hl
              refine lv_iload hx hb dX4_fromHomeOn_25 (lv_at hl 0 rfl) ?_
              refine lv_bipush (v := 6) hx hb dX4_fromHomeOn_27 (by decide) ?_
              refine zi_gt (tgt := 72) hx hb i 6 dX4_fromHomeOn_29 (by decide) rfl rfl (by omega) (by decide) (fun c_721 => ?_) (fun c_721 => ?_)
              · refine lv_aload_n hx hb dX4_fromHomeOn_72 rfl (lv_at hl 3 rfl) ?_
                refine va_get (D := G) (ci := 4) (v := .ref qn) (C := RX4) (T := TX4) (N := 1) hx hb hts inlX4 hown hK.1 hP 0 rfl rfl 0 (by decide) (hts _ wd60) (fun _ h9 => h9) rfl dX4_fromHomeOn_73 ?_
                refine lv_iload hx hb dX4_fromHomeOn_76 (lv_at hl 2 rfl) ?_
                refine lv_iload hx hb dX4_fromHomeOn_78 (lv_at hl 1 rfl) ?_
                refine za_st hx hb hK.1 hP hD hS 1 0 rfl rfl b2 rfl (by omega) (by decide) dX4_fromHomeOn_80 (fun H722 locs722 hP hD hS => ?_)
                have hP : va_P G vwCl [(qR, .inr (4, [.ref qn])), (qn, .inl (cI, 36, .inl (upd nc b2 f0))), (qb, .inr (0, [.ref qp, .ref qs, .ref qr, .ref qf, .int fl])), (qp, .inl (cI, 12, .inl pr)), (qs, .inl (cI, 12, .inl sb)), (qr, .inl (cI, 4, .inl br)), (qf, .inl (cI, 4, .inl fe))] H722 := hP
                have hD : va_D A [(qR, .inr (4, [.ref qn])), (qn, .inl (cI, 36, .inl (upd nc b2 f0))), (qb, .inr (0, [.ref qp, .ref qs, .ref qr, .ref qf, .int fl])), (qp, .inl (cI, 12, .inl pr)), (qs, .inl (cI, 12, .inl sb)), (qr, .inl (cI, 4, .inl br)), (qf, .inl (cI, 4, .inl fe))] := hD
                refine lv_iinc (v := (nI b2) + Int32.ofInt (-1)) (lv' := [(4, .int ((nI b2) + Int32.ofInt (-1))), (6, .int (nI i)), (5, .int f0), (0, .ref qR), (1, .ref qb), (2, .int (nI pn)), (3, .int (nI fn))]) hx hb dX4_fromHomeOn_81 hl (k := 2) rfl rfl (by decide) rfl (fun ls hl => ?_)
                refine lv_goto (tgt := 12) hx hb dX4_fromHomeOn_84 (by decide) ?_
                exact ih1 b2 ((nI b2) + Int32.ofInt (-1)) (upd nc b2 f0) (by omega) (by omega) (dec_sub b2) (by rw [show 35 - b2 = (35 - (b2 + 1)) + 1 by omega, tnC, ← hnc, show 34 - (35 - (b2 + 1)) = b2 by omega, hf3, show i - 1 = 6 by omega]) (by omega) H722 locs722 hP hD hS _ (lv_sub hl [0, 3, 4, 5, 6] rfl)
              · refine lv_aload_n hx hb dX4_fromHomeOn_32 rfl (lv_at hl 4 rfl) ?_
                refine lv_iload_n hx hb dX4_fromHomeOn_33 rfl (lv_at hl 5 rfl) ?_
                refine lv_iload hx hb dX4_fromHomeOn_34 (lv_at hl 2 rfl) ?_
                refine lv_iload hx hb dX4_fromHomeOn_36 (lv_at hl 0 rfl) ?_
                have hPc := hP.sub (ws' := [(qb, .inr (0, [.ref qp, .ref qs, .ref qr, .ref qf, .int fl])), (qp, .inl (cI, 12, .inl pr)), (qs, .inl (cI, 12, .inl sb)), (qr, .inl (cI, 4, .inl br)), (qf, .inl (cI, 4, .inl fe))]) [2, 3, 4, 5, 6] rfl
                have hDc := (hD.sub (ws' := [(qb, .inr (0, [.ref qp, .ref qs, .ref qr, .ref qf, .int fl])), (qp, .inl (cI, 12, .inl pr)), (qs, .inl (cI, 12, .inl sb)), (qr, .inl (cI, 4, .inl br)), (qf, .inl (cI, 4, .inl fe))]) [2, 3, 4, 5, 6] (by decide) rfl).tt
                refine vp_callSi (va_Run.run (va_runVN (As := [.int (nI pn), .int (nI b2), .int (nI i)]) (rest := []) ⟨hx, hb, hml, hown, hts⟩ (c_X0_target l G cI cC cZ cG H717.size qb qp qs qr qf pr sb br fe fl pn (nI b2) i (by omega) (Or.inr ⟨b2, by omega, rfl⟩) (by omega)) (cf_RX4_15 hts hK.2 ⟨Nat.le_of_ble_eq_true rfl, Nat.le_of_ble_eq_true rfl⟩) (pre_V hK hPc hDc (ci := 0) (q0 := 0) rfl rfl) rfl rfl hl.1 rfl (lv_room (Nat.le_of_ble_eq_true rfl)) dX4_fromHomeOn_38 ⟨Nat.le_of_ble_eq_true rfl, Nat.le_of_ble_eq_true rfl⟩)) (fun r723 hr723 => ?_)
                subst hr723
                refine lv_istore (lv' := [(7, .int (tgt br pn (nI b2) i)), (6, .int (nI i)), (5, .int f0), (4, .int (nI b2)), (0, .ref qR), (1, .ref qb), (2, .int (nI pn)), (3, .int (nI fn))]) hx hb dX4_fromHomeOn_41 hl (by decide) rfl (fun ls hl => ?_)
                refine lv_iload hx hb dX4_fromHomeOn_43 (lv_at hl 0 rfl) ?_
                refine lv_bipush (v := (-6)) hx hb dX4_fromHomeOn_45 (by decide) ?_
                refine lv_icmp_eq (tgt := 66) hx hb dX4_fromHomeOn_47 (by decide) (fun c_724 => ?_) (fun c_724 => ?_)
                · refine lv_iinc (v := nI (i + 1)) (lv' := [(6, .int (nI (i + 1))), (7, .int (tgt br pn (nI b2) i)), (5, .int f0), (4, .int (nI b2)), (0, .ref qR), (1, .ref qb), (2, .int (nI pn)), (3, .int (nI fn))]) hx hb dX4_fromHomeOn_66 hl (k := 1) rfl (nI_inc i) (by decide) rfl (fun ls hl => ?_)
                  refine lv_goto (tgt := 25) hx hb dX4_fromHomeOn_69 (by decide) ?_
                  exact ih2 (i + 1) f0 (by omega) (by omega) (by rw [show i + 1 - 1 = (i - 1) + 1 by omega, tvC, show (i - 1) + 1 = i by omega, if_pos c_724, hf3]) (by omega) _ (lv_sub hl [0, 2, 3, 4, 5, 6, 7] rfl)
                · obtain ⟨tn, htn, etn⟩ := (tgt_ok (br := br) (p := pn) (c := i) (v := nI b2)).resolve_left c_724
                  rw [etn] at hl
                  refine lv_iload hx hb dX4_fromHomeOn_50 (lv_at hl 2 rfl) ?_
                  refine lv_aload_n hx hb dX4_fromHomeOn_52 rfl (lv_at hl 4 rfl) ?_
                  refine va_get (D := G) (ci := 4) (v := .ref qn) (C := RX4) (T := TX4) (N := 1) hx hb hts inlX4 hown hK.1 hP 0 rfl rfl 0 (by decide) (hts _ wd60) (fun _ h9 => h9) rfl dX4_fromHomeOn_53 ?_
                  refine lv_iload hx hb dX4_fromHomeOn_56 (lv_at hl 0 rfl) ?_
                  refine za_ld hx hb hK.1 hP 1 0 rfl rfl tn rfl (by omega) (by decide) dX4_fromHomeOn_58 ?_
                  refine lv_iconst (v := 1) hx hb dX4_fromHomeOn_59 (by decide) ?_
                  refine lv_iadd hx hb dX4_fromHomeOn_60 ?_
                  refine va_mmin hx hb (by rw [hml]; exact hl.1.symm) hown (hts _ wd513) (hts _ wd96) (hts _ wd97) (hts _ wd98) (Nat.le_of_ble_eq_true rfl) (Nat.le_of_ble_eq_true rfl) (Nat.le_of_ble_eq_true rfl) (Nat.le_of_ble_eq_true rfl) dX4_fromHomeOn_61 ?_
                  refine lv_istore (lv' := [(5, .int (if ((nc tn) + 1 : Int32) < f0 then (nc tn) + 1 else f0)), (7, .int (nI tn)), (6, .int (nI i)), (4, .int (nI b2)), (0, .ref qR), (1, .ref qb), (2, .int (nI pn)), (3, .int (nI fn))]) hx hb dX4_fromHomeOn_64 hl (by decide) rfl (fun ls hl => ?_)
                  refine lv_iinc (v := nI (i + 1)) (lv' := [(6, .int (nI (i + 1))), (5, .int (if ((nc tn) + 1 : Int32) < f0 then (nc tn) + 1 else f0)), (7, .int (nI tn)), (4, .int (nI b2)), (0, .ref qR), (1, .ref qb), (2, .int (nI pn)), (3, .int (nI fn))]) hx hb dX4_fromHomeOn_66 hl (k := 2) rfl (nI_inc i) (by decide) rfl (fun ls hl => ?_)
                  refine lv_goto (tgt := 25) hx hb dX4_fromHomeOn_69 (by decide) ?_
                  exact ih2 (i + 1) (if ((nc tn) + 1 : Int32) < f0 then (nc tn) + 1 else f0) (by omega) (by omega) (by rw [show i + 1 - 1 = (i - 1) + 1 by omega, tvC, show (i - 1) + 1 = i by omega, if_neg c_724, etn, nI_clamp (show tn < 2 ^ 31 by omega), ← hf3]) (by omega) _ (lv_sub hl [0, 1, 3, 4, 5, 6, 7] rfl)
          exact L2 8 1 36 (by decide) (by decide) rfl (by decide) _ (lv_sub hl [0, 1, 2, 3, 4, 5, 6] rfl)
  exact L1 36 35 34 (upd nd 35 0) (by decide) (by omega) rfl rfl (by decide) H716 locs716 hP hD hS _ (lv_sub hl [0, 1, 2, 3, 4] rfl)

abbrev rm_X4_widen : Room := { frames := 3, cells := 0, slots := 0, locals := 69 }
set_option maxHeartbeats 1000000 in
set_option maxRecDepth 100000 in
theorem c_X4_widen (l : Launch) (G : va_G) (cI cC cZ cG : ClassId) (sz : Nat) (qR qn : Nat) (nd : IA) (qb qp qs qr qf : Nat) (pr sb br fe : IA) (fl : Int32) (pn rn : Nat) (hp : pn < 4) (hr0 : rn ≤ 35) : Met l yX4_widen (.code yX4_widen cX4_widen 7 none :: wsL_law) rm_X4_widen (va_Pc [.ref qR, .ref qb, .int (nI pn), .int (nI rn)] (bw G cI cC cZ cG false sz [(qR, .inr (4, [.ref qn])), (qn, .inl (cI, 36, .inl nd)), (qb, .inr (0, [.ref qp, .ref qs, .ref qr, .ref qf, .int fl])), (qp, .inl (cI, 12, .inl pr)), (qs, .inl (cI, 12, .inl sb)), (qr, .inl (cI, 4, .inl br)), (qf, .inl (cI, 4, .inl fe))])) (va_Qv (fun (u : IA) => u = wdA br pn rn nd 35) (fun (u : IA) t => va_P G vwCl [(qR, .inr (4, [.ref qn])), (qn, .inl (cI, 36, .inl u)), (qb, .inr (0, [.ref qp, .ref qs, .ref qr, .ref qf, .int fl])), (qp, .inl (cI, 12, .inl pr)), (qs, .inl (cI, 12, .inl sb)), (qr, .inl (cI, 4, .inl br)), (qf, .inl (cI, 4, .inl fe))] t.heap ∧ va_D (va_A [(qR, .inr (4, [.ref qn])), (qn, .inl (cI, 36, .inl nd)), (qb, .inr (0, [.ref qp, .ref qs, .ref qr, .ref qf, .int fl])), (qp, .inl (cI, 12, .inl pr)), (qs, .inl (cI, 12, .inl sb)), (qr, .inl (cI, 4, .inl br)), (qf, .inl (cI, 4, .inl fe))] sz) [(qR, .inr (4, [.ref qn])), (qn, .inl (cI, 36, .inl u)), (qb, .inr (0, [.ref qp, .ref qs, .ref qr, .ref qf, .int fl])), (qp, .inl (cI, 12, .inl pr)), (qs, .inl (cI, 12, .inl sb)), (qr, .inl (cI, 4, .inl br)), (qf, .inl (cI, 4, .inl fe))]) (va_A [(qR, .inr (4, [.ref qn])), (qn, .inl (cI, 36, .inl nd)), (qb, .inr (0, [.ref qp, .ref qs, .ref qr, .ref qf, .int fl])), (qp, .inl (cI, 12, .inl pr)), (qs, .inl (cI, 12, .inl sb)), (qr, .inl (cI, 4, .inl br)), (qf, .inl (cI, 4, .inl fe))] sz)) 0 0 (va_A [(qR, .inr (4, [.ref qn])), (qn, .inl (cI, 36, .inl nd)), (qb, .inr (0, [.ref qp, .ref qs, .ref qr, .ref qf, .int fl])), (qp, .inl (cI, 12, .inl pr)), (qs, .inl (cI, 12, .inl sb)), (qr, .inl (cI, 4, .inl br)), (qf, .inl (cI, 4, .inl fe))] sz) := by
  refine met_bw rfl (Nat.le_of_ble_eq_true rfl) ?_
  intro p e s m below meth c ls hx hb hr hml hown hts hlocks hin hsz hP hK hD0 hX0 hl
  have hown : s.vm.findClass RX4 = some m.cls := hown
  have hl : lv_has ls 7 [(0, .ref qR), (1, .ref qb), (2, .int (nI pn)), (3, .int (nI rn))] := hl
  subst hsz
  have hD := hD0.self (sz := s.heap.size)
  generalize hAe : va_A [(qR, .inr (4, [.ref qn])), (qn, .inl (cI, 36, .inl nd)), (qb, .inr (0, [.ref qp, .ref qs, .ref qr, .ref qf, .int fl])), (qp, .inl (cI, 12, .inl pr)), (qs, .inl (cI, 12, .inl sb)), (qr, .inl (cI, 4, .inl br)), (qf, .inl (cI, 4, .inl fe))] s.heap.size = A at hD ⊢
  have hA : ∀ q : Nat, s.heap.size ≤ q → A q := fun q h => by rw [← hAe]; exact Or.inr h
  have hS : va_S A s.heap s.heap [] := va_S.rf
  generalize hQ : MQ below (va_Qv (fun (u : IA) => u = wdA br pn rn nd 35) (fun (u : IA) t => va_P G vwCl [(qR, .inr (4, [.ref qn])), (qn, .inl (cI, 36, .inl u)), (qb, .inr (0, [.ref qp, .ref qs, .ref qr, .ref qf, .int fl])), (qp, .inl (cI, 12, .inl pr)), (qs, .inl (cI, 12, .inl sb)), (qr, .inl (cI, 4, .inl br)), (qf, .inl (cI, 4, .inl fe))] t.heap ∧ va_D A [(qR, .inr (4, [.ref qn])), (qn, .inl (cI, 36, .inl u)), (qb, .inr (0, [.ref qp, .ref qs, .ref qr, .ref qf, .int fl])), (qp, .inl (cI, 12, .inl pr)), (qs, .inl (cI, 12, .inl sb)), (qr, .inl (cI, 4, .inl br)), (qf, .inl (cI, 4, .inl fe))]) A) ([.ref qR, .ref qb, .int (nI pn), .int (nI rn)] : List Value).toArray s 0 0 A = Q
  generalize hag : ([.ref qR, .ref qb, .int (nI pn), .int (nI rn)] : List Value).toArray = ag at hts hQ ⊢
  refine lv_iconst (v := 0) hx hb dX4_widen_0 (by decide) ?_
  refine lv_istore (lv' := [(4, .int 0), (0, .ref qR), (1, .ref qb), (2, .int (nI pn)), (3, .int (nI rn))]) hx hb dX4_widen_1 hl (by decide) rfl (fun ls hl => ?_)
  have L1 : ∀ (n : Nat), ∀ (a : Nat), ∀ (nc : IA), ∀ (ha : a ≤ 35), ∀ (hf2 : nc = wdA br pn rn nd a), ∀ (hn : 36 ≤ a + n), ∀ (H725 : Heap) (locs725 : List Loc), va_P G vwCl [(qR, .inr (4, [.ref qn])), (qn, .inl (cI, 36, .inl nc)), (qb, .inr (0, [.ref qp, .ref qs, .ref qr, .ref qf, .int fl])), (qp, .inl (cI, 12, .inl pr)), (qs, .inl (cI, 12, .inl sb)), (qr, .inl (cI, 4, .inl br)), (qf, .inl (cI, 4, .inl fe))] H725 → va_D A [(qR, .inr (4, [.ref qn])), (qn, .inl (cI, 36, .inl nc)), (qb, .inr (0, [.ref qp, .ref qs, .ref qr, .ref qf, .int fl])), (qp, .inl (cI, 12, .inl pr)), (qs, .inl (cI, 12, .inl sb)), (qr, .inl (cI, 4, .inl br)), (qf, .inl (cI, 4, .inl fe))] → va_S A s.heap H725 locs725 → ∀ (ls : Array Slot), lv_has ls 7 [(4, .int (nI a)), (0, .ref qR), (1, .ref qb), (2, .int (nI pn)), (3, .int (nI rn))] → W p l e rm_X4_widen s m ag below meth c H725 locs725 0 0 Q (F0 m 3 ls []) := by
    intro n
    induction n with
    | zero =>
      intro a nc ha hf2 hn H725 locs725 hP hD hS ls hl
      omega
    | succ n ih1 =>
      intro a nc ha hf2 hn H725 locs725 hP hD hS ls hl
      refine lv_iload hx hb dX4_widen_3 (lv_at hl 0 rfl) ?_
      refine lv_bipush (v := 35) hx hb dX4_widen_5 (by decide) ?_
      refine zi_ge (tgt := 83) hx hb a 35 dX4_widen_7 (by decide) rfl rfl (by omega) (by decide) (fun c_726 => ?_) (fun c_726 => ?_)
      · subst hQ
        exact W.vret hx hb hr (fun t ht hW => ⟨⟨nc, rfl, (by rw [hf2, show a = 35 by omega]), by rw [ht]; exact hP, hD⟩, hS.F ht⟩) hS.2.2 dX4_widen_83
      · refine lv_iconst (v := 1) hx hb dX4_widen_10 (by decide) ?_
        refine lv_istore (lv' := [(5, .int 1), (4, .int (nI a)), (0, .ref qR), (1, .ref qb), (2, .int (nI pn)), (3, .int (nI rn))]) hx hb dX4_widen_11 hl (by decide) rfl (fun ls hl => ?_)
        have L2 : ∀ (n : Nat), ∀ (i : Nat), ∀ (ne : IA), ∀ (hi1 : 1 ≤ i), ∀ (hi : i ≤ 7), ∀ (hf3 : ne = wdC br pn rn a nc (i - 1)), ∀ (hn2 : 8 ≤ i + n), ∀ (H727 : Heap) (locs727 : List Loc), va_P G vwCl [(qR, .inr (4, [.ref qn])), (qn, .inl (cI, 36, .inl ne)), (qb, .inr (0, [.ref qp, .ref qs, .ref qr, .ref qf, .int fl])), (qp, .inl (cI, 12, .inl pr)), (qs, .inl (cI, 12, .inl sb)), (qr, .inl (cI, 4, .inl br)), (qf, .inl (cI, 4, .inl fe))] H727 → va_D A [(qR, .inr (4, [.ref qn])), (qn, .inl (cI, 36, .inl ne)), (qb, .inr (0, [.ref qp, .ref qs, .ref qr, .ref qf, .int fl])), (qp, .inl (cI, 12, .inl pr)), (qs, .inl (cI, 12, .inl sb)), (qr, .inl (cI, 4, .inl br)), (qf, .inl (cI, 4, .inl fe))] → va_S A s.heap H727 locs727 → ∀ (ls : Array Slot), lv_has ls 7 [(5, .int (nI i)), (4, .int (nI a)), (0, .ref qR), (1, .ref qb), (2, .int (nI pn)), (3, .int (nI rn))] → W p l e rm_X4_widen s m ag below meth c H727 locs727 0 0 Q (F0 m 13 ls []) := by
          intro n
          induction n with
          | zero =>
            intro i ne hi1 hi hf3 hn2 H727 locs727 hP hD hS ls hl
            omega
          | succ n ih2 =>
            intro i ne hi1 hi hf3 hn2 H727 locs727 hP hD hS ls hl
            refine lv_iload hx hb dX4_widen_13 (lv_at hl 0 rfl) ?_
            refine lv_bipush (v := 6) hx hb dX4_widen_15 (by decide) ?_
            refine zi_gt (tgt := 77) hx hb i 6 dX4_widen_17 (by decide) rfl rfl (by omega) (by decide) (fun c_728 => ?_) (fun c_728 => ?_)
            · refine lv_iinc (v := nI (a + 1)) (lv' := [(4, .int (nI (a + 1))), (5, .int (nI i)), (0, .ref qR), (1, .ref qb), (2, .int (nI pn)), (3, .int (nI rn))]) hx hb dX4_widen_77 hl (k := 1) rfl (nI_inc a) (by decide) rfl (fun ls hl => ?_)
              refine lv_goto (tgt := 3) hx hb dX4_widen_80 (by decide) ?_
              exact ih1 (a + 1) ne (by omega) (by rw [wdA, ← hf2, hf3, show i - 1 = 6 by omega]) (by omega) H727 locs727 hP hD hS _ (lv_sub hl [0, 2, 3, 4, 5] rfl)
            · refine lv_aload_n hx hb dX4_widen_20 rfl (lv_at hl 2 rfl) ?_
              refine va_get (D := G) (ci := 4) (v := .ref qn) (C := RX4) (T := TX4) (N := 1) hx hb hts inlX4 hown hK.1 hP 0 rfl rfl 0 (by decide) (hts _ wd60) (fun _ h9 => h9) rfl dX4_widen_21 ?_
              refine lv_iload hx hb dX4_widen_24 (lv_at hl 1 rfl) ?_
              refine za_ld hx hb hK.1 hP 1 0 rfl rfl a rfl (by omega) (by decide) dX4_widen_26 ?_
              refine lv_iload_n hx hb dX4_widen_27 rfl (lv_at hl 5 rfl) ?_
              refine lv_icmp_ne (tgt := 77) hx hb dX4_widen_28 (by decide) (fun c_729 => ?_) (fun c_729 => ?_)
              · refine lv_iinc (v := nI (a + 1)) (lv' := [(4, .int (nI (a + 1))), (5, .int (nI i)), (0, .ref qR), (1, .ref qb), (2, .int (nI pn)), (3, .int (nI rn))]) hx hb dX4_widen_77 hl (k := 1) rfl (nI_inc a) (by decide) rfl (fun ls hl => ?_)
                refine lv_goto (tgt := 3) hx hb dX4_widen_80 (by decide) ?_
                exact ih1 (a + 1) ne (by omega) (by rw [wdA, ← hf2, hf3]; rw [hf3] at c_729; rw [show 6 = (i - 1) + (7 - i) by omega, wdC_stop c_729]) (by omega) H727 locs727 hP hD hS _ (lv_sub hl [0, 2, 3, 4, 5] rfl)
              · refine lv_aload_n hx hb dX4_widen_31 rfl (lv_at hl 3 rfl) ?_
                refine lv_iload_n hx hb dX4_widen_32 rfl (lv_at hl 4 rfl) ?_
                refine lv_iload hx hb dX4_widen_33 (lv_at hl 1 rfl) ?_
                refine lv_iload hx hb dX4_widen_35 (lv_at hl 0 rfl) ?_
                have hPc := hP.sub (ws' := [(qb, .inr (0, [.ref qp, .ref qs, .ref qr, .ref qf, .int fl])), (qp, .inl (cI, 12, .inl pr)), (qs, .inl (cI, 12, .inl sb)), (qr, .inl (cI, 4, .inl br)), (qf, .inl (cI, 4, .inl fe))]) [2, 3, 4, 5, 6] rfl
                have hDc := (hD.sub (ws' := [(qb, .inr (0, [.ref qp, .ref qs, .ref qr, .ref qf, .int fl])), (qp, .inl (cI, 12, .inl pr)), (qs, .inl (cI, 12, .inl sb)), (qr, .inl (cI, 4, .inl br)), (qf, .inl (cI, 4, .inl fe))]) [2, 3, 4, 5, 6] (by decide) rfl).tt
                refine vp_callSi (va_Run.run (va_runVN (As := [.int (nI pn), .int (nI a), .int (nI i)]) (rest := []) ⟨hx, hb, hml, hown, hts⟩ (c_X0_target l G cI cC cZ cG H727.size qb qp qs qr qf pr sb br fe fl pn (nI a) i (by omega) (Or.inr ⟨a, by omega, rfl⟩) (by omega)) (cf_RX4_15 hts hK.2 ⟨Nat.le_of_ble_eq_true rfl, Nat.le_of_ble_eq_true rfl⟩) (pre_V hK hPc hDc (ci := 0) (q0 := 0) rfl rfl) rfl rfl hl.1 rfl (lv_room (Nat.le_of_ble_eq_true rfl)) dX4_widen_37 ⟨Nat.le_of_ble_eq_true rfl, Nat.le_of_ble_eq_true rfl⟩)) (fun r730 hr730 => ?_)
                subst hr730
                refine lv_istore (lv' := [(6, .int (tgt br pn (nI a) i)), (5, .int (nI i)), (4, .int (nI a)), (0, .ref qR), (1, .ref qb), (2, .int (nI pn)), (3, .int (nI rn))]) hx hb dX4_widen_40 hl (by decide) rfl (fun ls hl => ?_)
                refine lv_iload hx hb dX4_widen_42 (lv_at hl 0 rfl) ?_
                refine lv_bipush (v := (-6)) hx hb dX4_widen_44 (by decide) ?_
                refine lv_icmp_eq (tgt := 71) hx hb dX4_widen_46 (by decide) (fun c_731 => ?_) (fun c_731 => ?_)
                · refine lv_iinc (v := nI (i + 1)) (lv' := [(5, .int (nI (i + 1))), (6, .int (tgt br pn (nI a) i)), (4, .int (nI a)), (0, .ref qR), (1, .ref qb), (2, .int (nI pn)), (3, .int (nI rn))]) hx hb dX4_widen_71 hl (k := 1) rfl (nI_inc i) (by decide) rfl (fun ls hl => ?_)
                  refine lv_goto (tgt := 13) hx hb dX4_widen_74 (by decide) ?_
                  exact ih2 (i + 1) ne (by omega) (by omega) (by rw [show i + 1 - 1 = (i - 1) + 1 by omega, wdC, show (i - 1) + 1 = i by omega, ← hf3, if_neg (fun q => q.2.1 c_731)]) (by omega) H727 locs727 hP hD hS _ (lv_sub hl [0, 2, 3, 4, 5, 6] rfl)
                · obtain ⟨tn, htn, etn⟩ := (tgt_ok (br := br) (p := pn) (c := i) (v := nI a)).resolve_left c_731
                  rw [etn] at hl
                  refine lv_aload_n hx hb dX4_widen_49 rfl (lv_at hl 3 rfl) ?_
                  refine va_get (D := G) (ci := 4) (v := .ref qn) (C := RX4) (T := TX4) (N := 1) hx hb hts inlX4 hown hK.1 hP 0 rfl rfl 0 (by decide) (hts _ wd60) (fun _ h9 => h9) rfl dX4_widen_50 ?_
                  refine lv_iload hx hb dX4_widen_53 (lv_at hl 0 rfl) ?_
                  refine za_ld hx hb hK.1 hP 1 0 rfl rfl tn rfl (by omega) (by decide) dX4_widen_55 ?_
                  refine lv_bipush (v := (-6)) hx hb dX4_widen_56 (by decide) ?_
                  refine lv_icmp_ne (tgt := 71) hx hb dX4_widen_58 (by decide) (fun c_732 => ?_) (fun c_732 => ?_)
                  · refine lv_iinc (v := nI (i + 1)) (lv' := [(5, .int (nI (i + 1))), (6, .int (nI tn)), (4, .int (nI a)), (0, .ref qR), (1, .ref qb), (2, .int (nI pn)), (3, .int (nI rn))]) hx hb dX4_widen_71 hl (k := 1) rfl (nI_inc i) (by decide) rfl (fun ls hl => ?_)
                    refine lv_goto (tgt := 13) hx hb dX4_widen_74 (by decide) ?_
                    exact ih2 (i + 1) ne (by omega) (by omega) (by rw [show i + 1 - 1 = (i - 1) + 1 by omega, wdC, show (i - 1) + 1 = i by omega, ← hf3, etn, nI_clamp (show tn < 2 ^ 31 by omega), if_neg (fun q => c_732 q.2.2)]) (by omega) H727 locs727 hP hD hS _ (lv_sub hl [0, 2, 3, 4, 5, 6] rfl)
                  · refine lv_aload_n hx hb dX4_widen_61 rfl (lv_at hl 3 rfl) ?_
                    refine va_get (D := G) (ci := 4) (v := .ref qn) (C := RX4) (T := TX4) (N := 1) hx hb hts inlX4 hown hK.1 hP 0 rfl rfl 0 (by decide) (hts _ wd60) (fun _ h9 => h9) rfl dX4_widen_62 ?_
                    refine lv_iload hx hb dX4_widen_65 (lv_at hl 0 rfl) ?_
                    refine lv_iload_n hx hb dX4_widen_67 rfl (lv_at hl 6 rfl) ?_
                    refine lv_iconst (v := 1) hx hb dX4_widen_68 (by decide) ?_
                    refine zi_add hx hb rn 1 dX4_widen_69 rfl rfl ?_
                    refine za_st hx hb hK.1 hP hD hS 1 0 rfl rfl tn rfl (by omega) (by decide) dX4_widen_70 (fun H733 locs733 hP hD hS => ?_)
                    have hP : va_P G vwCl [(qR, .inr (4, [.ref qn])), (qn, .inl (cI, 36, .inl (upd ne tn (nI (rn + 1))))), (qb, .inr (0, [.ref qp, .ref qs, .ref qr, .ref qf, .int fl])), (qp, .inl (cI, 12, .inl pr)), (qs, .inl (cI, 12, .inl sb)), (qr, .inl (cI, 4, .inl br)), (qf, .inl (cI, 4, .inl fe))] H733 := hP
                    have hD : va_D A [(qR, .inr (4, [.ref qn])), (qn, .inl (cI, 36, .inl (upd ne tn (nI (rn + 1))))), (qb, .inr (0, [.ref qp, .ref qs, .ref qr, .ref qf, .int fl])), (qp, .inl (cI, 12, .inl pr)), (qs, .inl (cI, 12, .inl sb)), (qr, .inl (cI, 4, .inl br)), (qf, .inl (cI, 4, .inl fe))] := hD
                    refine lv_iinc (v := nI (i + 1)) (lv' := [(5, .int (nI (i + 1))), (6, .int (nI tn)), (4, .int (nI a)), (0, .ref qR), (1, .ref qb), (2, .int (nI pn)), (3, .int (nI rn))]) hx hb dX4_widen_71 hl (k := 1) rfl (nI_inc i) (by decide) rfl (fun ls hl => ?_)
                    refine lv_goto (tgt := 13) hx hb dX4_widen_74 (by decide) ?_
                    exact ih2 (i + 1) (upd ne tn (nI (rn + 1))) (by omega) (by omega) (by rw [show i + 1 - 1 = (i - 1) + 1 by omega, wdC, show (i - 1) + 1 = i by omega, ← hf3, etn, nI_clamp (show tn < 2 ^ 31 by omega), if_pos ⟨c_729, nI_neg (by omega) (by decide), c_732⟩]) (by omega) H733 locs733 hP hD hS _ (lv_sub hl [0, 2, 3, 4, 5, 6] rfl)
        exact L2 8 1 nc (by decide) (by decide) rfl (by decide) H725 locs725 hP hD hS _ (lv_sub hl [0, 1, 2, 3, 4, 5] rfl)
  exact L1 36 0 nd (by decide) rfl (by decide) s.heap [] hP hD hS _ (lv_sub hl [0, 1, 2, 3, 4] rfl)

abbrev rm_X4_goingWide : Room := { frames := 4, cells := 0, slots := 0, locals := 95 }
theorem cf_RX4_27 {R : Room} {s : State} {args : Array Value} (ht : ∀ w ∈ wsL_law, w.before args s = true) (hR : rm_X4_widen.frames + 1 ≤ R.frames ∧ 8 + (7 + 11) + rm_X4_widen.locals ≤ R.locals) : CallW R s args RX4 RX4 27 yX4_widen cX4_widen 7 none (.code yX4_widen cX4_widen 7 none :: wsL_law) rm_X4_widen 0 0 3 := ⟨cw_B 3 ht wd517 wd20 wd520 (by decide +kernel) rfl rfl hR, ht _ wd518, ht _ wd519⟩
set_option maxHeartbeats 1000000 in
set_option maxRecDepth 100000 in
theorem c_X4_goingWide (l : Launch) (G : va_G) (cI cC cZ cG : ClassId) (sz : Nat) (qR qn : Nat) (nd : IA) (qb qp qs qr qf : Nat) (pr sb br fe : IA) (fl : Int32) (pn fn : Nat) (hp : pn < 4) (hf0 : fn ≤ 35) : Met l yX4_goingWide (.code yX4_goingWide cX4_goingWide 5 (some .int) :: wsL_law) rm_X4_goingWide (va_Pc [.ref qR, .ref qb, .int (nI pn), .int (nI fn)] (bw G cI cC cZ cG false sz [(qR, .inr (4, [.ref qn])), (qn, .inl (cI, 36, .inl nd)), (qb, .inr (0, [.ref qp, .ref qs, .ref qr, .ref qf, .int fl])), (qp, .inl (cI, 12, .inl pr)), (qs, .inl (cI, 12, .inl sb)), (qr, .inl (cI, 4, .inl br)), (qf, .inl (cI, 4, .inl fe))])) (va_Qi (fun (r : Int32) (u : IA) => r = ndW nd br pn fn 35 ∧ True) (fun (u : IA) t => va_P G vwCl [(qR, .inr (4, [.ref qn])), (qn, .inl (cI, 36, .inl u)), (qb, .inr (0, [.ref qp, .ref qs, .ref qr, .ref qf, .int fl])), (qp, .inl (cI, 12, .inl pr)), (qs, .inl (cI, 12, .inl sb)), (qr, .inl (cI, 4, .inl br)), (qf, .inl (cI, 4, .inl fe))] t.heap ∧ va_D (va_A [(qR, .inr (4, [.ref qn])), (qn, .inl (cI, 36, .inl nd)), (qb, .inr (0, [.ref qp, .ref qs, .ref qr, .ref qf, .int fl])), (qp, .inl (cI, 12, .inl pr)), (qs, .inl (cI, 12, .inl sb)), (qr, .inl (cI, 4, .inl br)), (qf, .inl (cI, 4, .inl fe))] sz) [(qR, .inr (4, [.ref qn])), (qn, .inl (cI, 36, .inl u)), (qb, .inr (0, [.ref qp, .ref qs, .ref qr, .ref qf, .int fl])), (qp, .inl (cI, 12, .inl pr)), (qs, .inl (cI, 12, .inl sb)), (qr, .inl (cI, 4, .inl br)), (qf, .inl (cI, 4, .inl fe))]) (va_A [(qR, .inr (4, [.ref qn])), (qn, .inl (cI, 36, .inl nd)), (qb, .inr (0, [.ref qp, .ref qs, .ref qr, .ref qf, .int fl])), (qp, .inl (cI, 12, .inl pr)), (qs, .inl (cI, 12, .inl sb)), (qr, .inl (cI, 4, .inl br)), (qf, .inl (cI, 4, .inl fe))] sz)) 0 0 (va_A [(qR, .inr (4, [.ref qn])), (qn, .inl (cI, 36, .inl nd)), (qb, .inr (0, [.ref qp, .ref qs, .ref qr, .ref qf, .int fl])), (qp, .inl (cI, 12, .inl pr)), (qs, .inl (cI, 12, .inl sb)), (qr, .inl (cI, 4, .inl br)), (qf, .inl (cI, 4, .inl fe))] sz) := by
  refine met_bw rfl (Nat.le_of_ble_eq_true rfl) ?_
  intro p e s m below meth c ls hx hb hr hml hown hts hlocks hin hsz hP hK hD0 hX0 hl
  have hown : s.vm.findClass RX4 = some m.cls := hown
  have hl : lv_has ls 5 [(0, .ref qR), (1, .ref qb), (2, .int (nI pn)), (3, .int (nI fn))] := hl
  subst hsz
  have hD := hD0.self (sz := s.heap.size)
  generalize hAe : va_A [(qR, .inr (4, [.ref qn])), (qn, .inl (cI, 36, .inl nd)), (qb, .inr (0, [.ref qp, .ref qs, .ref qr, .ref qf, .int fl])), (qp, .inl (cI, 12, .inl pr)), (qs, .inl (cI, 12, .inl sb)), (qr, .inl (cI, 4, .inl br)), (qf, .inl (cI, 4, .inl fe))] s.heap.size = A at hD ⊢
  have hA : ∀ q : Nat, s.heap.size ≤ q → A q := fun q h => by rw [← hAe]; exact Or.inr h
  have hS : va_S A s.heap s.heap [] := va_S.rf
  generalize hQ : MQ below (va_Qi (fun (r : Int32) (u : IA) => r = ndW nd br pn fn 35 ∧ True) (fun (u : IA) t => va_P G vwCl [(qR, .inr (4, [.ref qn])), (qn, .inl (cI, 36, .inl u)), (qb, .inr (0, [.ref qp, .ref qs, .ref qr, .ref qf, .int fl])), (qp, .inl (cI, 12, .inl pr)), (qs, .inl (cI, 12, .inl sb)), (qr, .inl (cI, 4, .inl br)), (qf, .inl (cI, 4, .inl fe))] t.heap ∧ va_D A [(qR, .inr (4, [.ref qn])), (qn, .inl (cI, 36, .inl u)), (qb, .inr (0, [.ref qp, .ref qs, .ref qr, .ref qf, .int fl])), (qp, .inl (cI, 12, .inl pr)), (qs, .inl (cI, 12, .inl sb)), (qr, .inl (cI, 4, .inl br)), (qf, .inl (cI, 4, .inl fe))]) A) ([.ref qR, .ref qb, .int (nI pn), .int (nI fn)] : List Value).toArray s 0 0 A = Q
  generalize hag : ([.ref qR, .ref qb, .int (nI pn), .int (nI fn)] : List Value).toArray = ag at hts hQ ⊢
  refine lv_iconst (v := 0) hx hb dX4_goingWide_0 (by decide) ?_
  refine lv_istore (lv' := [(4, .int 0), (0, .ref qR), (1, .ref qb), (2, .int (nI pn)), (3, .int (nI fn))]) hx hb dX4_goingWide_1 hl (by decide) rfl (fun ls hl => ?_)
  have L1 : ∀ (n : Nat), ∀ (i : Nat), ∀ (nc : IA), ∀ (hi : i ≤ 36), ∀ (hf2 : nc = fil nd i), ∀ (hn : 37 ≤ i + n), ∀ (H734 : Heap) (locs734 : List Loc), va_P G vwCl [(qR, .inr (4, [.ref qn])), (qn, .inl (cI, 36, .inl nc)), (qb, .inr (0, [.ref qp, .ref qs, .ref qr, .ref qf, .int fl])), (qp, .inl (cI, 12, .inl pr)), (qs, .inl (cI, 12, .inl sb)), (qr, .inl (cI, 4, .inl br)), (qf, .inl (cI, 4, .inl fe))] H734 → va_D A [(qR, .inr (4, [.ref qn])), (qn, .inl (cI, 36, .inl nc)), (qb, .inr (0, [.ref qp, .ref qs, .ref qr, .ref qf, .int fl])), (qp, .inl (cI, 12, .inl pr)), (qs, .inl (cI, 12, .inl sb)), (qr, .inl (cI, 4, .inl br)), (qf, .inl (cI, 4, .inl fe))] → va_S A s.heap H734 locs734 → ∀ (ls : Array Slot), lv_has ls 5 [(4, .int (nI i)), (0, .ref qR), (1, .ref qb), (2, .int (nI pn)), (3, .int (nI fn))] → W p l e rm_X4_goingWide s m ag below meth c H734 locs734 0 0 Q (F0 m 3 ls []) := by
    intro n
    induction n with
    | zero =>
      intro i nc hi hf2 hn H734 locs734 hP hD hS ls hl
      omega
    | succ n ih1 =>
      intro i nc hi hf2 hn H734 locs734 hP hD hS ls hl
      refine lv_iload hx hb dX4_goingWide_3 (lv_at hl 0 rfl) ?_
      refine lv_bipush (v := 35) hx hb dX4_goingWide_5 (by decide) ?_
      refine zi_gt (tgt := 25) hx hb i 35 dX4_goingWide_7 (by decide) rfl rfl (by omega) (by decide) (fun c_735 => ?_) (fun c_735 => ?_)
      · refine lv_aload_n hx hb dX4_goingWide_25 rfl (lv_at hl 1 rfl) ?_
        refine va_get (D := G) (ci := 4) (v := .ref qn) (C := RX4) (T := TX4) (N := 1) hx hb hts inlX4 hown hK.1 hP 0 rfl rfl 0 (by decide) (hts _ wd60) (fun _ h9 => h9) rfl dX4_goingWide_26 ?_
        refine lv_iload_n hx hb dX4_goingWide_29 rfl (lv_at hl 4 rfl) ?_
        refine lv_iconst (v := 0) hx hb dX4_goingWide_30 (by decide) ?_
        refine za_st hx hb hK.1 hP hD hS 1 0 rfl rfl fn rfl (by omega) (by decide) dX4_goingWide_31 (fun H736 locs736 hP hD hS => ?_)
        have hP : va_P G vwCl [(qR, .inr (4, [.ref qn])), (qn, .inl (cI, 36, .inl (upd nc fn 0))), (qb, .inr (0, [.ref qp, .ref qs, .ref qr, .ref qf, .int fl])), (qp, .inl (cI, 12, .inl pr)), (qs, .inl (cI, 12, .inl sb)), (qr, .inl (cI, 4, .inl br)), (qf, .inl (cI, 4, .inl fe))] H736 := hP
        have hD : va_D A [(qR, .inr (4, [.ref qn])), (qn, .inl (cI, 36, .inl (upd nc fn 0))), (qb, .inr (0, [.ref qp, .ref qs, .ref qr, .ref qf, .int fl])), (qp, .inl (cI, 12, .inl pr)), (qs, .inl (cI, 12, .inl sb)), (qr, .inl (cI, 4, .inl br)), (qf, .inl (cI, 4, .inl fe))] := hD
        refine lv_iconst (v := 0) hx hb dX4_goingWide_32 (by decide) ?_
        refine lv_istore (lv' := [(4, .int 0), (0, .ref qR), (1, .ref qb), (2, .int (nI pn)), (3, .int (nI fn))]) hx hb dX4_goingWide_33 hl (by decide) rfl (fun ls hl => ?_)
        have L2 : ∀ (n : Nat), ∀ (r0 : Nat), ∀ (ne : IA), ∀ (hi2 : r0 ≤ 36), ∀ (hf3 : ne = wdR br pn (upd (fil nd 36) fn 0) r0), ∀ (hn2 : 37 ≤ r0 + n), ∀ (H737 : Heap) (locs737 : List Loc), va_P G vwCl [(qR, .inr (4, [.ref qn])), (qn, .inl (cI, 36, .inl ne)), (qb, .inr (0, [.ref qp, .ref qs, .ref qr, .ref qf, .int fl])), (qp, .inl (cI, 12, .inl pr)), (qs, .inl (cI, 12, .inl sb)), (qr, .inl (cI, 4, .inl br)), (qf, .inl (cI, 4, .inl fe))] H737 → va_D A [(qR, .inr (4, [.ref qn])), (qn, .inl (cI, 36, .inl ne)), (qb, .inr (0, [.ref qp, .ref qs, .ref qr, .ref qf, .int fl])), (qp, .inl (cI, 12, .inl pr)), (qs, .inl (cI, 12, .inl sb)), (qr, .inl (cI, 4, .inl br)), (qf, .inl (cI, 4, .inl fe))] → va_S A s.heap H737 locs737 → ∀ (ls : Array Slot), lv_has ls 5 [(4, .int (nI r0)), (0, .ref qR), (1, .ref qb), (2, .int (nI pn)), (3, .int (nI fn))] → W p l e rm_X4_goingWide s m ag below meth c H737 locs737 0 0 Q (F0 m 35 ls []) := by
          intro n
          induction n with
          | zero =>
            intro r0 ne hi2 hf3 hn2 H737 locs737 hP hD hS ls hl
            omega
          | succ n ih2 =>
            intro r0 ne hi2 hf3 hn2 H737 locs737 hP hD hS ls hl
            refine lv_iload hx hb dX4_goingWide_35 (lv_at hl 0 rfl) ?_
            refine lv_bipush (v := 35) hx hb dX4_goingWide_37 (by decide) ?_
            refine zi_gt (tgt := 68) hx hb r0 35 dX4_goingWide_39 (by decide) rfl rfl (by omega) (by decide) (fun c_738 => ?_) (fun c_738 => ?_)
            · refine lv_aload_n hx hb dX4_goingWide_68 rfl (lv_at hl 1 rfl) ?_
              refine va_get (D := G) (ci := 4) (v := .ref qn) (C := RX4) (T := TX4) (N := 1) hx hb hts inlX4 hown hK.1 hP 0 rfl rfl 0 (by decide) (hts _ wd60) (fun _ h9 => h9) rfl dX4_goingWide_69 ?_
              refine lv_bipush (v := 35) hx hb dX4_goingWide_72 (by decide) ?_
              refine za_ld hx hb hK.1 hP 1 0 rfl rfl 35 rfl (by decide) (by decide) dX4_goingWide_74 ?_
              subst hQ
              exact W.iret (v := ne 35) hx hb hr (fun t ht hW => ⟨⟨ne 35, ne, rfl, ⟨(by rw [hf3, ndW_eq, show r0 = 36 by omega]), trivial⟩, by rw [ht]; exact hP, hD⟩, hS.F ht⟩) hS.2.2 dX4_goingWide_75
            · refine lv_aload_n hx hb dX4_goingWide_42 rfl (lv_at hl 1 rfl) ?_
              refine va_get (D := G) (ci := 4) (v := .ref qn) (C := RX4) (T := TX4) (N := 1) hx hb hts inlX4 hown hK.1 hP 0 rfl rfl 0 (by decide) (hts _ wd60) (fun _ h9 => h9) rfl dX4_goingWide_43 ?_
              refine lv_bipush (v := 35) hx hb dX4_goingWide_46 (by decide) ?_
              refine za_ld hx hb hK.1 hP 1 0 rfl rfl 35 rfl (by decide) (by decide) dX4_goingWide_48 ?_
              refine lv_bipush (v := (-6)) hx hb dX4_goingWide_49 (by decide) ?_
              refine lv_icmp_ne (tgt := 68) hx hb dX4_goingWide_51 (by decide) (fun c_739 => ?_) (fun c_739 => ?_)
              · refine lv_aload_n hx hb dX4_goingWide_68 rfl (lv_at hl 1 rfl) ?_
                refine va_get (D := G) (ci := 4) (v := .ref qn) (C := RX4) (T := TX4) (N := 1) hx hb hts inlX4 hown hK.1 hP 0 rfl rfl 0 (by decide) (hts _ wd60) (fun _ h9 => h9) rfl dX4_goingWide_69 ?_
                refine lv_bipush (v := 35) hx hb dX4_goingWide_72 (by decide) ?_
                refine za_ld hx hb hK.1 hP 1 0 rfl rfl 35 rfl (by decide) (by decide) dX4_goingWide_74 ?_
                subst hQ
                exact W.iret (v := ne 35) hx hb hr (fun t ht hW => ⟨⟨ne 35, ne, rfl, ⟨(by rw [hf3] at c_739; have e := wdR_stop c_739 (36 - r0); rw [show r0 + (36 - r0) = 36 by omega] at e; rw [hf3, ndW_eq, e]), trivial⟩, by rw [ht]; exact hP, hD⟩, hS.F ht⟩) hS.2.2 dX4_goingWide_75
              · refine lv_aload_n hx hb dX4_goingWide_54 rfl (lv_at hl 1 rfl) ?_
                refine lv_aload_n hx hb dX4_goingWide_55 rfl (lv_at hl 2 rfl) ?_
                refine lv_iload_n hx hb dX4_goingWide_56 rfl (lv_at hl 3 rfl) ?_
                refine lv_iload hx hb dX4_goingWide_57 (lv_at hl 0 rfl) ?_
                have hPc : va_P G vwCl [(qR, .inr (4, [.ref qn])), (qn, .inl (cI, 36, .inl ne)), (qb, .inr (0, [.ref qp, .ref qs, .ref qr, .ref qf, .int fl])), (qp, .inl (cI, 12, .inl pr)), (qs, .inl (cI, 12, .inl sb)), (qr, .inl (cI, 4, .inl br)), (qf, .inl (cI, 4, .inl fe))] H737 := hP
                have hDc := hD.tt
                have hFc := va_free (wc := [(qR, .inr (4, [.ref qn])), (qn, .inl (cI, 36, .inl ne)), (qb, .inr (0, [.ref qp, .ref qs, .ref qr, .ref qf, .int fl])), (qp, .inl (cI, 12, .inl pr)), (qs, .inl (cI, 12, .inl sb)), (qr, .inl (cI, 4, .inl br)), (qf, .inl (cI, 4, .inl fe))]) hD hS hA [0, 1, 2, 3, 4, 5, 6] rfl
                refine va_callv (va_runV (As := [.ref qb, .int (nI pn), .int (nI r0)]) (rest := []) ⟨hx, hb, hml, hown, hts⟩ (c_X4_widen l G cI cC cZ cG H737.size qR qn ne qb qp qs qr qf pr sb br fe fl pn r0 hp (by omega)) (cf_RX4_27 hts ⟨Nat.le_of_ble_eq_true rfl, Nat.le_of_ble_eq_true rfl⟩) (pre_V hK hPc hDc (ci := 4) (q0 := 0) rfl rfl) rfl rfl hl.1 rfl (lv_room (Nat.le_of_ble_eq_true rfl)) dX4_goingWide_59 ⟨Nat.le_of_ble_eq_true rfl, Nat.le_of_ble_eq_true rfl⟩) hS (fun q _ h => hFc q h) hFc (fun u740 t740 H740 locs740 ht740 hvm740 hw740 hB740 hz740 hk740 hS => ?_)
                obtain ⟨nd740, rfl⟩ : ∃ z, z = u740 := ⟨_, rfl⟩
                obtain ⟨hP1, hD1⟩ := hB740
                rw [ht740] at hP1
                try dsimp only at hw740
                obtain ⟨hP, hD⟩ := va_join (wr := []) (w1 := [(qR, .inr (4, [.ref qn])), (qn, .inl (cI, 36, .inl nd740)), (qb, .inr (0, [.ref qp, .ref qs, .ref qr, .ref qf, .int fl])), (qp, .inl (cI, 12, .inl pr)), (qs, .inl (cI, 12, .inl sb)), (qr, .inl (cI, 4, .inl br)), (qf, .inl (cI, 4, .inl fe))]) hP hD [0, 1, 2, 3, 4, 5, 6] [] rfl rfl (by decide) (by decide) hk740 hFc hP1 hD1
                have hP : va_P G vwCl [(qR, .inr (4, [.ref qn])), (qn, .inl (cI, 36, .inl nd740)), (qb, .inr (0, [.ref qp, .ref qs, .ref qr, .ref qf, .int fl])), (qp, .inl (cI, 12, .inl pr)), (qs, .inl (cI, 12, .inl sb)), (qr, .inl (cI, 4, .inl br)), (qf, .inl (cI, 4, .inl fe))] H740 := hP
                have hD : va_D A [(qR, .inr (4, [.ref qn])), (qn, .inl (cI, 36, .inl nd740)), (qb, .inr (0, [.ref qp, .ref qs, .ref qr, .ref qf, .int fl])), (qp, .inl (cI, 12, .inl pr)), (qs, .inl (cI, 12, .inl sb)), (qr, .inl (cI, 4, .inl br)), (qf, .inl (cI, 4, .inl fe))] := hD
                refine lv_iinc (v := nI (r0 + 1)) (lv' := [(4, .int (nI (r0 + 1))), (0, .ref qR), (1, .ref qb), (2, .int (nI pn)), (3, .int (nI fn))]) hx hb dX4_goingWide_62 hl (k := 0) rfl (nI_inc r0) (by decide) rfl (fun ls hl => ?_)
                refine lv_goto (tgt := 35) hx hb dX4_goingWide_65 (by decide) ?_
                exact ih2 (r0 + 1) nd740 (by omega) (by rw [wdR, ← hf3, if_pos c_739]; exact hw740) (by omega) H740 locs740 hP hD hS _ (lv_sub hl [0, 1, 2, 3, 4] rfl)
        exact L2 37 0 (upd nc fn 0) (by decide) (by rw [hf2, show i = 36 by omega]; rfl) (by decide) H736 locs736 hP hD hS _ (lv_sub hl [0, 1, 2, 3, 4] rfl)
      · refine lv_aload_n hx hb dX4_goingWide_10 rfl (lv_at hl 1 rfl) ?_
        refine va_get (D := G) (ci := 4) (v := .ref qn) (C := RX4) (T := TX4) (N := 1) hx hb hts inlX4 hown hK.1 hP 0 rfl rfl 0 (by decide) (hts _ wd60) (fun _ h9 => h9) rfl dX4_goingWide_11 ?_
        refine lv_iload hx hb dX4_goingWide_14 (lv_at hl 0 rfl) ?_
        refine lv_bipush (v := (-6)) hx hb dX4_goingWide_16 (by decide) ?_
        refine za_st hx hb hK.1 hP hD hS 1 0 rfl rfl i rfl (by omega) (by decide) dX4_goingWide_18 (fun H741 locs741 hP hD hS => ?_)
        have hP : va_P G vwCl [(qR, .inr (4, [.ref qn])), (qn, .inl (cI, 36, .inl (upd nc i (-6)))), (qb, .inr (0, [.ref qp, .ref qs, .ref qr, .ref qf, .int fl])), (qp, .inl (cI, 12, .inl pr)), (qs, .inl (cI, 12, .inl sb)), (qr, .inl (cI, 4, .inl br)), (qf, .inl (cI, 4, .inl fe))] H741 := hP
        have hD : va_D A [(qR, .inr (4, [.ref qn])), (qn, .inl (cI, 36, .inl (upd nc i (-6)))), (qb, .inr (0, [.ref qp, .ref qs, .ref qr, .ref qf, .int fl])), (qp, .inl (cI, 12, .inl pr)), (qs, .inl (cI, 12, .inl sb)), (qr, .inl (cI, 4, .inl br)), (qf, .inl (cI, 4, .inl fe))] := hD
        refine lv_iinc (v := nI (i + 1)) (lv' := [(4, .int (nI (i + 1))), (0, .ref qR), (1, .ref qb), (2, .int (nI pn)), (3, .int (nI fn))]) hx hb dX4_goingWide_19 hl (k := 0) rfl (nI_inc i) (by decide) rfl (fun ls hl => ?_)
        refine lv_goto (tgt := 3) hx hb dX4_goingWide_22 (by decide) ?_
        exact ih1 (i + 1) (upd nc i (-6)) (by omega) (by rw [fil, ← hf2]) (by omega) H741 locs741 hP hD hS _ (lv_sub hl [0, 1, 2, 3, 4] rfl)
  exact L1 37 0 nd (by decide) rfl (by decide) s.heap [] hP hD hS _ (lv_sub hl [0, 1, 2, 3, 4] rfl)

abbrev rm_X6_throwsNeeded : Room := { frames := 3, cells := 0, slots := 0, locals := 70 }
set_option maxHeartbeats 1000000 in
set_option maxRecDepth 100000 in
theorem c_X6_throwsNeeded (l : Launch) (G : va_G) (cI cC cZ cG : ClassId) (sz : Nat) (qm qz qa qe qs qv qp qn : Nat) (z as be sl sv pd nd : IA) (sts len : Nat) (go : Int32) (k : Nat) (hz : ∀ k, k < 12 → okv (z k)) (hk : k < 12) : Met l yX6_throwsNeeded (.code yX6_throwsNeeded cX6_throwsNeeded 6 (some .int) :: wsL_law) rm_X6_throwsNeeded (va_Pc [.ref qm, .int (nI k)] (bw G cI cC cZ cG false sz [(qm, .inr (6, [.ref qz, .ref qa, .ref qe, .int (nI sts), .ref qs, .ref qv, .ref qp, .int (nI len), .int go, .ref qn])), (qz, .inl (cI, 46, .inl z)), (qa, .inl (cI, 46, .inl as)), (qe, .inl (cI, 276, .inl be)), (qs, .inl (cI, 92, .inl sl)), (qv, .inl (cZ, 2, .inl sv)), (qp, .inl (cI, 60, .inl pd)), (qn, .inl (cI, 36, .inl nd))])) (va_Qi (fun (r : Int32) (u : IA) => r = tnR nd z k ∧ True) (fun (u : IA) t => va_P G vwCl [(qm, .inr (6, [.ref qz, .ref qa, .ref qe, .int (nI sts), .ref qs, .ref qv, .ref qp, .int (nI len), .int go, .ref qn])), (qz, .inl (cI, 46, .inl z)), (qa, .inl (cI, 46, .inl as)), (qe, .inl (cI, 276, .inl be)), (qs, .inl (cI, 92, .inl sl)), (qv, .inl (cZ, 2, .inl sv)), (qp, .inl (cI, 60, .inl pd)), (qn, .inl (cI, 36, .inl u))] t.heap ∧ va_D (va_A [(qm, .inr (6, [.ref qz, .ref qa, .ref qe, .int (nI sts), .ref qs, .ref qv, .ref qp, .int (nI len), .int go, .ref qn])), (qz, .inl (cI, 46, .inl z)), (qa, .inl (cI, 46, .inl as)), (qe, .inl (cI, 276, .inl be)), (qs, .inl (cI, 92, .inl sl)), (qv, .inl (cZ, 2, .inl sv)), (qp, .inl (cI, 60, .inl pd)), (qn, .inl (cI, 36, .inl nd))] sz) [(qm, .inr (6, [.ref qz, .ref qa, .ref qe, .int (nI sts), .ref qs, .ref qv, .ref qp, .int (nI len), .int go, .ref qn])), (qz, .inl (cI, 46, .inl z)), (qa, .inl (cI, 46, .inl as)), (qe, .inl (cI, 276, .inl be)), (qs, .inl (cI, 92, .inl sl)), (qv, .inl (cZ, 2, .inl sv)), (qp, .inl (cI, 60, .inl pd)), (qn, .inl (cI, 36, .inl u))]) (va_A [(qm, .inr (6, [.ref qz, .ref qa, .ref qe, .int (nI sts), .ref qs, .ref qv, .ref qp, .int (nI len), .int go, .ref qn])), (qz, .inl (cI, 46, .inl z)), (qa, .inl (cI, 46, .inl as)), (qe, .inl (cI, 276, .inl be)), (qs, .inl (cI, 92, .inl sl)), (qv, .inl (cZ, 2, .inl sv)), (qp, .inl (cI, 60, .inl pd)), (qn, .inl (cI, 36, .inl nd))] sz)) 0 0 (va_A [(qm, .inr (6, [.ref qz, .ref qa, .ref qe, .int (nI sts), .ref qs, .ref qv, .ref qp, .int (nI len), .int go, .ref qn])), (qz, .inl (cI, 46, .inl z)), (qa, .inl (cI, 46, .inl as)), (qe, .inl (cI, 276, .inl be)), (qs, .inl (cI, 92, .inl sl)), (qv, .inl (cZ, 2, .inl sv)), (qp, .inl (cI, 60, .inl pd)), (qn, .inl (cI, 36, .inl nd))] sz) := by
  refine met_bw rfl (Nat.le_of_ble_eq_true rfl) ?_
  intro p e s m below meth c ls hx hb hr hml hown hts hlocks hin hsz hP hK hD0 hX0 hl
  have hown : s.vm.findClass RX6 = some m.cls := hown
  have hl : lv_has ls 6 [(0, .ref qm), (1, .int (nI k))] := hl
  subst hsz
  have hD := hD0.self (sz := s.heap.size)
  generalize hAe : va_A [(qm, .inr (6, [.ref qz, .ref qa, .ref qe, .int (nI sts), .ref qs, .ref qv, .ref qp, .int (nI len), .int go, .ref qn])), (qz, .inl (cI, 46, .inl z)), (qa, .inl (cI, 46, .inl as)), (qe, .inl (cI, 276, .inl be)), (qs, .inl (cI, 92, .inl sl)), (qv, .inl (cZ, 2, .inl sv)), (qp, .inl (cI, 60, .inl pd)), (qn, .inl (cI, 36, .inl nd))] s.heap.size = A at hD ⊢
  have hA : ∀ q : Nat, s.heap.size ≤ q → A q := fun q h => by rw [← hAe]; exact Or.inr h
  have hS : va_S A s.heap s.heap [] := va_S.rf
  generalize hQ : MQ below (va_Qi (fun (r : Int32) (u : IA) => r = tnR nd z k ∧ True) (fun (u : IA) t => va_P G vwCl [(qm, .inr (6, [.ref qz, .ref qa, .ref qe, .int (nI sts), .ref qs, .ref qv, .ref qp, .int (nI len), .int go, .ref qn])), (qz, .inl (cI, 46, .inl z)), (qa, .inl (cI, 46, .inl as)), (qe, .inl (cI, 276, .inl be)), (qs, .inl (cI, 92, .inl sl)), (qv, .inl (cZ, 2, .inl sv)), (qp, .inl (cI, 60, .inl pd)), (qn, .inl (cI, 36, .inl u))] t.heap ∧ va_D A [(qm, .inr (6, [.ref qz, .ref qa, .ref qe, .int (nI sts), .ref qs, .ref qv, .ref qp, .int (nI len), .int go, .ref qn])), (qz, .inl (cI, 46, .inl z)), (qa, .inl (cI, 46, .inl as)), (qe, .inl (cI, 276, .inl be)), (qs, .inl (cI, 92, .inl sl)), (qv, .inl (cZ, 2, .inl sv)), (qp, .inl (cI, 60, .inl pd)), (qn, .inl (cI, 36, .inl u))]) A) ([.ref qm, .int (nI k)] : List Value).toArray s 0 0 A = Q
  generalize hag : ([.ref qm, .int (nI k)] : List Value).toArray = ag at hts hQ ⊢
  refine lv_iload_n hx hb dX6_throwsNeeded_0 rfl (lv_at hl 1 rfl) ?_
  refine lv_iconst (v := 3) hx hb dX6_throwsNeeded_1 (by decide) ?_
  refine zi_div hx hb k 3 dX6_throwsNeeded_2 rfl rfl (by omega) (by decide) (by decide) ?_
  refine lv_istore_n (lv' := [(2, .int (nI (k / 3))), (0, .ref qm), (1, .int (nI k))]) hx hb dX6_throwsNeeded_3 rfl hl (by decide) rfl (fun ls hl => ?_)
  refine lv_aload_n hx hb dX6_throwsNeeded_4 rfl (lv_at hl 1 rfl) ?_
  refine va_get (D := G) (ci := 6) (v := .ref qn) (C := RX6) (T := TX6) (N := 10) hx hb hts inlX6 hown hK.1 hP 0 rfl rfl 9 (by decide) (hts _ wd85) (fun _ h9 => h9) rfl dX6_throwsNeeded_5 ?_
  refine lv_bipush (v := 35) hx hb dX6_throwsNeeded_8 (by decide) ?_
  refine lv_iconst (v := 0) hx hb dX6_throwsNeeded_10 (by decide) ?_
  refine za_st hx hb hK.1 hP hD hS 7 0 rfl rfl 35 rfl (by decide) (by decide) dX6_throwsNeeded_11 (fun H742 locs742 hP hD hS => ?_)
  have hP : va_P G vwCl [(qm, .inr (6, [.ref qz, .ref qa, .ref qe, .int (nI sts), .ref qs, .ref qv, .ref qp, .int (nI len), .int go, .ref qn])), (qz, .inl (cI, 46, .inl z)), (qa, .inl (cI, 46, .inl as)), (qe, .inl (cI, 276, .inl be)), (qs, .inl (cI, 92, .inl sl)), (qv, .inl (cZ, 2, .inl sv)), (qp, .inl (cI, 60, .inl pd)), (qn, .inl (cI, 36, .inl (upd nd 35 0)))] H742 := hP
  have hD : va_D A [(qm, .inr (6, [.ref qz, .ref qa, .ref qe, .int (nI sts), .ref qs, .ref qv, .ref qp, .int (nI len), .int go, .ref qn])), (qz, .inl (cI, 46, .inl z)), (qa, .inl (cI, 46, .inl as)), (qe, .inl (cI, 276, .inl be)), (qs, .inl (cI, 92, .inl sl)), (qv, .inl (cZ, 2, .inl sv)), (qp, .inl (cI, 60, .inl pd)), (qn, .inl (cI, 36, .inl (upd nd 35 0)))] := hD
  refine lv_bipush (v := 34) hx hb dX6_throwsNeeded_12 (by decide) ?_
  refine lv_istore_n (lv' := [(3, .int 34), (2, .int (nI (k / 3))), (0, .ref qm), (1, .int (nI k))]) hx hb dX6_throwsNeeded_14 rfl hl (by decide) rfl (fun ls hl => ?_)
  have L1 : ∀ (n : Nat), ∀ (Ac : Nat), ∀ (x : Int32), ∀ (nc : IA), ∀ (hAc : Ac ≤ 35), ∀ (hx2 : x = nI Ac - 1), ∀ (hnc : nc = tnM nd (mfN z (k / 3)) (35 - Ac)), ∀ (hn3 : Ac + 1 ≤ n), ∀ (H743 : Heap) (locs743 : List Loc), va_P G vwCl [(qm, .inr (6, [.ref qz, .ref qa, .ref qe, .int (nI sts), .ref qs, .ref qv, .ref qp, .int (nI len), .int go, .ref qn])), (qz, .inl (cI, 46, .inl z)), (qa, .inl (cI, 46, .inl as)), (qe, .inl (cI, 276, .inl be)), (qs, .inl (cI, 92, .inl sl)), (qv, .inl (cZ, 2, .inl sv)), (qp, .inl (cI, 60, .inl pd)), (qn, .inl (cI, 36, .inl nc))] H743 → va_D A [(qm, .inr (6, [.ref qz, .ref qa, .ref qe, .int (nI sts), .ref qs, .ref qv, .ref qp, .int (nI len), .int go, .ref qn])), (qz, .inl (cI, 46, .inl z)), (qa, .inl (cI, 46, .inl as)), (qe, .inl (cI, 276, .inl be)), (qs, .inl (cI, 92, .inl sl)), (qv, .inl (cZ, 2, .inl sv)), (qp, .inl (cI, 60, .inl pd)), (qn, .inl (cI, 36, .inl nc))] → va_S A s.heap H743 locs743 → ∀ (ls : Array Slot), lv_has ls 6 [(3, .int x), (2, .int (nI (k / 3))), (0, .ref qm), (1, .int (nI k))] → W p l e rm_X6_throwsNeeded s m ag below meth c H743 locs743 0 0 Q (F0 m 15 ls []) := by
    intro n
    induction n with
    | zero =>
      intro Ac x nc hAc hx2 hnc hn3 H743 locs743 hP hD hS ls hl
      omega
    | succ n ih1 =>
      intro Ac x nc hAc hx2 hnc hn3 H743 locs743 hP hD hS ls hl
      rcases Ac with _ | b2
      · obtain rfl : x = -1 := by rw [hx2]; decide
        refine lv_iload_n hx hb dX6_throwsNeeded_15 rfl (lv_at hl 0 rfl) ?_
        refine lv_if_lt (tgt := 107) hx hb dX6_throwsNeeded_16 (by decide) (fun c_744 => ?_) (fun c_744 => ?_)
        · refine lv_aload_n hx hb dX6_throwsNeeded_107 rfl (lv_at hl 2 rfl) ?_
          refine va_get (D := G) (ci := 6) (v := .ref qz) (C := RX6) (T := TX6) (N := 10) hx hb hts inlX6 hown hK.1 hP 0 rfl rfl 0 (by decide) (hts _ wd78) (fun _ h9 => h9) rfl dX6_throwsNeeded_108 ?_
          refine lv_iload_n hx hb dX6_throwsNeeded_111 rfl (lv_at hl 3 rfl) ?_
          refine za_ld hx hb hK.1 hP 1 0 rfl rfl k rfl (by omega) (by decide) dX6_throwsNeeded_112 ?_
          refine lv_bipush (v := (-6)) hx hb dX6_throwsNeeded_113 (by decide) ?_
          refine lv_icmp_ne (tgt := 129) hx hb dX6_throwsNeeded_115 (by decide) (fun c_745 => ?_) (fun c_745 => ?_)
          · refine lv_aload_n hx hb dX6_throwsNeeded_129 rfl (lv_at hl 2 rfl) ?_
            refine va_get (D := G) (ci := 6) (v := .ref qn) (C := RX6) (T := TX6) (N := 10) hx hb hts inlX6 hown hK.1 hP 0 rfl rfl 9 (by decide) (hts _ wd85) (fun _ h9 => h9) rfl dX6_throwsNeeded_130 ?_
            refine lv_aload_n hx hb dX6_throwsNeeded_133 rfl (lv_at hl 2 rfl) ?_
            refine va_get (D := G) (ci := 6) (v := .ref qz) (C := RX6) (T := TX6) (N := 10) hx hb hts inlX6 hown hK.1 hP 0 rfl rfl 0 (by decide) (hts _ wd78) (fun _ h9 => h9) rfl dX6_throwsNeeded_134 ?_
            refine lv_iload_n hx hb dX6_throwsNeeded_137 rfl (lv_at hl 3 rfl) ?_
            refine za_ld hx hb hK.1 hP 1 0 rfl rfl k rfl (by omega) (by decide) dX6_throwsNeeded_138 ?_
            refine va_iald hx hb hK.1 hP 7 0 rfl rfl (by obtain ⟨q, hq, eq⟩ := (hz k hk).resolve_left c_745; rw [eq]; exact vp_in_nI (by omega) (by decide)) dX6_throwsNeeded_139 ?_
            subst hQ
            exact W.iret (v := nc (z k).toNatClampNeg) hx hb hr (fun t ht hW => ⟨⟨nc (z k).toNatClampNeg, nc, rfl, ⟨by rw [tnR, if_neg c_745, hnc], trivial⟩, by rw [ht]; exact hP, hD⟩, hS.F ht⟩) hS.2.2 dX6_throwsNeeded_140
          · refine lv_aload_n hx hb dX6_throwsNeeded_118 rfl (lv_at hl 2 rfl) ?_
            refine va_get (D := G) (ci := 6) (v := .ref qn) (C := RX6) (T := TX6) (N := 10) hx hb hts inlX6 hown hK.1 hP 0 rfl rfl 9 (by decide) (hts _ wd85) (fun _ h9 => h9) rfl dX6_throwsNeeded_119 ?_
            refine lv_iconst (v := 0) hx hb dX6_throwsNeeded_122 (by decide) ?_
            refine za_ld hx hb hK.1 hP 7 0 rfl rfl 0 rfl (by decide) (by decide) dX6_throwsNeeded_123 ?_
            refine lv_iconst (v := 1) hx hb dX6_throwsNeeded_124 (by decide) ?_
            refine lv_iadd hx hb dX6_throwsNeeded_125 ?_
            refine lv_goto (tgt := 140) hx hb dX6_throwsNeeded_126 (by decide) ?_
            subst hQ
            exact W.iret (v := (nc 0) + 1) hx hb hr (fun t ht hW => ⟨⟨(nc 0) + 1, nc, rfl, ⟨by rw [tnR, if_pos c_745, hnc], trivial⟩, by rw [ht]; exact hP, hD⟩, hS.F ht⟩) hS.2.2 dX6_throwsNeeded_140
        · exact absurd c_744 (by decide)
      · obtain rfl : x = nI b2 := by rw [hx2]; exact nI_pred b2
        refine lv_iload_n hx hb dX6_throwsNeeded_15 rfl (lv_at hl 0 rfl) ?_
        refine z0_lt (tgt := 107) hx hb b2 dX6_throwsNeeded_16 (by decide) rfl (by omega) ?_
        refine lv_aload_n hx hb dX6_throwsNeeded_19 rfl (lv_at hl 2 rfl) ?_
        refine va_get (D := G) (ci := 6) (v := .ref qn) (C := RX6) (T := TX6) (N := 10) hx hb hts inlX6 hown hK.1 hP 0 rfl rfl 9 (by decide) (hts _ wd85) (fun _ h9 => h9) rfl dX6_throwsNeeded_20 ?_
        refine lv_iload_n hx hb dX6_throwsNeeded_23 rfl (lv_at hl 0 rfl) ?_
        refine lv_sipush (v := 400) hx hb dX6_throwsNeeded_24 (by decide) ?_
        refine za_st hx hb hK.1 hP hD hS 7 0 rfl rfl b2 rfl (by omega) (by decide) dX6_throwsNeeded_27 (fun H747 locs747 hP hD hS => ?_)
        have hP : va_P G vwCl [(qm, .inr (6, [.ref qz, .ref qa, .ref qe, .int (nI sts), .ref qs, .ref qv, .ref qp, .int (nI len), .int go, .ref qn])), (qz, .inl (cI, 46, .inl z)), (qa, .inl (cI, 46, .inl as)), (qe, .inl (cI, 276, .inl be)), (qs, .inl (cI, 92, .inl sl)), (qv, .inl (cZ, 2, .inl sv)), (qp, .inl (cI, 60, .inl pd)), (qn, .inl (cI, 36, .inl (upd nc b2 400)))] H747 := hP
        have hD : va_D A [(qm, .inr (6, [.ref qz, .ref qa, .ref qe, .int (nI sts), .ref qs, .ref qv, .ref qp, .int (nI len), .int go, .ref qn])), (qz, .inl (cI, 46, .inl z)), (qa, .inl (cI, 46, .inl as)), (qe, .inl (cI, 276, .inl be)), (qs, .inl (cI, 92, .inl sl)), (qv, .inl (cZ, 2, .inl sv)), (qp, .inl (cI, 60, .inl pd)), (qn, .inl (cI, 36, .inl (upd nc b2 400)))] := hD
        refine lv_iconst (v := 1) hx hb dX6_throwsNeeded_28 (by decide) ?_
        refine lv_istore (lv' := [(4, .int 1), (3, .int (nI b2)), (2, .int (nI (k / 3))), (0, .ref qm), (1, .int (nI k))]) hx hb dX6_throwsNeeded_29 hl (by decide) rfl (fun ls hl => ?_)
        have L2 : ∀ (n : Nat), ∀ (i : Nat), ∀ (ne : IA), ∀ (hi1 : 1 ≤ i), ∀ (hi : i ≤ 7), ∀ (hf3 : ne = upd nc b2 (tvM nc (mfN z (k / 3)) b2 (i - 1))), ∀ (hn2 : 8 ≤ i + n), ∀ (H748 : Heap) (locs748 : List Loc), va_P G vwCl [(qm, .inr (6, [.ref qz, .ref qa, .ref qe, .int (nI sts), .ref qs, .ref qv, .ref qp, .int (nI len), .int go, .ref qn])), (qz, .inl (cI, 46, .inl z)), (qa, .inl (cI, 46, .inl as)), (qe, .inl (cI, 276, .inl be)), (qs, .inl (cI, 92, .inl sl)), (qv, .inl (cZ, 2, .inl sv)), (qp, .inl (cI, 60, .inl pd)), (qn, .inl (cI, 36, .inl ne))] H748 → va_D A [(qm, .inr (6, [.ref qz, .ref qa, .ref qe, .int (nI sts), .ref qs, .ref qv, .ref qp, .int (nI len), .int go, .ref qn])), (qz, .inl (cI, 46, .inl z)), (qa, .inl (cI, 46, .inl as)), (qe, .inl (cI, 276, .inl be)), (qs, .inl (cI, 92, .inl sl)), (qv, .inl (cZ, 2, .inl sv)), (qp, .inl (cI, 60, .inl pd)), (qn, .inl (cI, 36, .inl ne))] → va_S A s.heap H748 locs748 → ∀ (ls : Array Slot), lv_has ls 6 [(4, .int (nI i)), (3, .int (nI b2)), (2, .int (nI (k / 3))), (0, .ref qm), (1, .int (nI k))] → W p l e rm_X6_throwsNeeded s m ag below meth c H748 locs748 0 0 Q (F0 m 31 ls []) := by
          intro n
          induction n with
          | zero =>
            intro i ne hi1 hi hf3 hn2 H748 locs748 hP hD hS ls hl
            omega
          | succ n ih2 =>
            intro i ne hi1 hi hf3 hn2 H748 locs748 hP hD hS ls hl
            refine lv_iload hx hb dX6_throwsNeeded_31 (lv_at hl 0 rfl) ?_
            refine lv_bipush (v := 6) hx hb dX6_throwsNeeded_33 (by decide) ?_
            refine zi_gt (tgt := 101) hx hb i 6 dX6_throwsNeeded_35 (by decide) rfl rfl (by omega) (by decide) (fun c_749 => ?_) (fun c_749 => ?_)
            · refine lv_iinc (v := (nI b2) + Int32.ofInt (-1)) (lv' := [(3, .int ((nI b2) + Int32.ofInt (-1))), (4, .int (nI i)), (2, .int (nI (k / 3))), (0, .ref qm), (1, .int (nI k))]) hx hb dX6_throwsNeeded_101 hl (k := 1) rfl rfl (by decide) rfl (fun ls hl => ?_)
              refine lv_goto (tgt := 15) hx hb dX6_throwsNeeded_104 (by decide) ?_
              exact ih1 b2 ((nI b2) + Int32.ofInt (-1)) ne (by omega) (dec_sub b2) (by rw [show 35 - b2 = (35 - (b2 + 1)) + 1 by omega, tnM, ← hnc, show 34 - (35 - (b2 + 1)) = b2 by omega, hf3, show i - 1 = 6 by omega]) (by omega) H748 locs748 hP hD hS _ (lv_sub hl [0, 2, 3, 4] rfl)
            · refine lv_aload_n hx hb dX6_throwsNeeded_38 rfl (lv_at hl 3 rfl) ?_
              refine lv_iload_n hx hb dX6_throwsNeeded_39 rfl (lv_at hl 2 rfl) ?_
              refine lv_iload_n hx hb dX6_throwsNeeded_40 rfl (lv_at hl 1 rfl) ?_
              refine lv_iload hx hb dX6_throwsNeeded_41 (lv_at hl 0 rfl) ?_
              have hPc : va_P G vwCl [(qm, .inr (6, [.ref qz, .ref qa, .ref qe, .int (nI sts), .ref qs, .ref qv, .ref qp, .int (nI len), .int go, .ref qn])), (qz, .inl (cI, 46, .inl z)), (qa, .inl (cI, 46, .inl as)), (qe, .inl (cI, 276, .inl be)), (qs, .inl (cI, 92, .inl sl)), (qv, .inl (cZ, 2, .inl sv)), (qp, .inl (cI, 60, .inl pd)), (qn, .inl (cI, 36, .inl ne))] H748 := hP
              have hDc := hD.tt
              refine vp_callSi (va_Run.run (va_runV (As := [.int (nI (k / 3)), .int (nI b2), .int (nI i)]) (rest := []) ⟨hx, hb, hml, hown, hts⟩ (c_X6_stepOn l G cI cC cZ cG H748.size qm qz qa qe qs qv qp qn z as be sl sv pd ne sts len go (k / 3) b2 i (by omega) (by omega) (by omega) (by omega)) (cf_RX6_74 hts ⟨Nat.le_of_ble_eq_true rfl, Nat.le_of_ble_eq_true rfl⟩) (pre_V hK hPc hDc (ci := 6) (q0 := 0) rfl rfl) rfl rfl hl.1 rfl (lv_room (Nat.le_of_ble_eq_true rfl)) dX6_throwsNeeded_43 ⟨Nat.le_of_ble_eq_true rfl, Nat.le_of_ble_eq_true rfl⟩)) (fun r750 hr750 => ?_)
              subst hr750
              refine lv_istore (lv' := [(5, .int (tgI (tg (mfN z (k / 3)) b2 i))), (4, .int (nI i)), (3, .int (nI b2)), (2, .int (nI (k / 3))), (0, .ref qm), (1, .int (nI k))]) hx hb dX6_throwsNeeded_46 hl (by decide) rfl (fun ls hl => ?_)
              refine lv_aload_n hx hb dX6_throwsNeeded_48 rfl (lv_at hl 4 rfl) ?_
              refine va_get (D := G) (ci := 6) (v := .ref qn) (C := RX6) (T := TX6) (N := 10) hx hb hts inlX6 hown hK.1 hP 0 rfl rfl 9 (by decide) (hts _ wd85) (fun _ h9 => h9) rfl dX6_throwsNeeded_49 ?_
              refine lv_iload_n hx hb dX6_throwsNeeded_52 rfl (lv_at hl 2 rfl) ?_
              refine lv_iload hx hb dX6_throwsNeeded_53 (lv_at hl 0 rfl) ?_
              refine lv_if_lt (tgt := 88) hx hb dX6_throwsNeeded_55 (by decide) (fun c_751 => ?_) (fun c_751 => ?_)
              · refine lv_aload_n hx hb dX6_throwsNeeded_88 rfl (lv_at hl 4 rfl) ?_
                refine va_get (D := G) (ci := 6) (v := .ref qn) (C := RX6) (T := TX6) (N := 10) hx hb hts inlX6 hown hK.1 hP 0 rfl rfl 9 (by decide) (hts _ wd85) (fun _ h9 => h9) rfl dX6_throwsNeeded_89 ?_
                refine lv_iload_n hx hb dX6_throwsNeeded_92 rfl (lv_at hl 2 rfl) ?_
                refine za_ld hx hb hK.1 hP 7 0 rfl rfl b2 rfl (by omega) (by decide) dX6_throwsNeeded_93 ?_
                refine za_st hx hb hK.1 hP hD hS 7 0 rfl rfl b2 rfl (by omega) (by decide) dX6_throwsNeeded_94 (fun H752 locs752 hP hD hS => ?_)
                have hP : va_P G vwCl [(qm, .inr (6, [.ref qz, .ref qa, .ref qe, .int (nI sts), .ref qs, .ref qv, .ref qp, .int (nI len), .int go, .ref qn])), (qz, .inl (cI, 46, .inl z)), (qa, .inl (cI, 46, .inl as)), (qe, .inl (cI, 276, .inl be)), (qs, .inl (cI, 92, .inl sl)), (qv, .inl (cZ, 2, .inl sv)), (qp, .inl (cI, 60, .inl pd)), (qn, .inl (cI, 36, .inl (upd ne b2 (ne b2))))] H752 := hP
                have hD : va_D A [(qm, .inr (6, [.ref qz, .ref qa, .ref qe, .int (nI sts), .ref qs, .ref qv, .ref qp, .int (nI len), .int go, .ref qn])), (qz, .inl (cI, 46, .inl z)), (qa, .inl (cI, 46, .inl as)), (qe, .inl (cI, 276, .inl be)), (qs, .inl (cI, 92, .inl sl)), (qv, .inl (cZ, 2, .inl sv)), (qp, .inl (cI, 60, .inl pd)), (qn, .inl (cI, 36, .inl (upd ne b2 (ne b2))))] := hD
                refine lv_iinc (v := nI (i + 1)) (lv' := [(4, .int (nI (i + 1))), (5, .int (tgI (tg (mfN z (k / 3)) b2 i))), (3, .int (nI b2)), (2, .int (nI (k / 3))), (0, .ref qm), (1, .int (nI k))]) hx hb dX6_throwsNeeded_95 hl (k := 1) rfl (nI_inc i) (by decide) rfl (fun ls hl => ?_)
                refine lv_goto (tgt := 31) hx hb dX6_throwsNeeded_98 (by decide) ?_
                exact ih2 (i + 1) (upd ne b2 (ne b2)) (by omega) (by omega) (by rw [hf3, upd_upd, show i + 1 - 1 = (i - 1) + 1 by omega, tvM, show (i - 1) + 1 = i by omega, if_neg (fun q => q.1 c_751), upd_eq]) (by omega) H752 locs752 hP hD hS _ (lv_sub hl [0, 2, 3, 4, 5] rfl)
              · obtain ⟨tn, htn, etn⟩ := okv_nn (tgI_ok _) (Int32.not_lt.mp c_751)
                have hgt : b2 < tn := tgI_gt etn (by omega) htn
                rw [etn] at hl
                refine lv_aload_n hx hb dX6_throwsNeeded_58 rfl (lv_at hl 4 rfl) ?_
                refine va_get (D := G) (ci := 6) (v := .ref qn) (C := RX6) (T := TX6) (N := 10) hx hb hts inlX6 hown hK.1 hP 0 rfl rfl 9 (by decide) (hts _ wd85) (fun _ h9 => h9) rfl dX6_throwsNeeded_59 ?_
                refine lv_iload hx hb dX6_throwsNeeded_62 (lv_at hl 0 rfl) ?_
                refine za_ld hx hb hK.1 hP 7 0 rfl rfl tn rfl (by omega) (by decide) dX6_throwsNeeded_64 ?_
                refine lv_iconst (v := 1) hx hb dX6_throwsNeeded_65 (by decide) ?_
                refine lv_iadd hx hb dX6_throwsNeeded_66 ?_
                refine lv_aload_n hx hb dX6_throwsNeeded_67 rfl (lv_at hl 4 rfl) ?_
                refine va_get (D := G) (ci := 6) (v := .ref qn) (C := RX6) (T := TX6) (N := 10) hx hb hts inlX6 hown hK.1 hP 0 rfl rfl 9 (by decide) (hts _ wd85) (fun _ h9 => h9) rfl dX6_throwsNeeded_68 ?_
                refine lv_iload_n hx hb dX6_throwsNeeded_71 rfl (lv_at hl 2 rfl) ?_
                refine za_ld hx hb hK.1 hP 7 0 rfl rfl b2 rfl (by omega) (by decide) dX6_throwsNeeded_72 ?_
                refine lv_icmp_ge (tgt := 88) hx hb dX6_throwsNeeded_73 (by decide) (fun c_753 => ?_) (fun c_753 => ?_)
                · refine lv_aload_n hx hb dX6_throwsNeeded_88 rfl (lv_at hl 4 rfl) ?_
                  refine va_get (D := G) (ci := 6) (v := .ref qn) (C := RX6) (T := TX6) (N := 10) hx hb hts inlX6 hown hK.1 hP 0 rfl rfl 9 (by decide) (hts _ wd85) (fun _ h9 => h9) rfl dX6_throwsNeeded_89 ?_
                  refine lv_iload_n hx hb dX6_throwsNeeded_92 rfl (lv_at hl 2 rfl) ?_
                  refine za_ld hx hb hK.1 hP 7 0 rfl rfl b2 rfl (by omega) (by decide) dX6_throwsNeeded_93 ?_
                  refine za_st hx hb hK.1 hP hD hS 7 0 rfl rfl b2 rfl (by omega) (by decide) dX6_throwsNeeded_94 (fun H754 locs754 hP hD hS => ?_)
                  have hP : va_P G vwCl [(qm, .inr (6, [.ref qz, .ref qa, .ref qe, .int (nI sts), .ref qs, .ref qv, .ref qp, .int (nI len), .int go, .ref qn])), (qz, .inl (cI, 46, .inl z)), (qa, .inl (cI, 46, .inl as)), (qe, .inl (cI, 276, .inl be)), (qs, .inl (cI, 92, .inl sl)), (qv, .inl (cZ, 2, .inl sv)), (qp, .inl (cI, 60, .inl pd)), (qn, .inl (cI, 36, .inl (upd ne b2 (ne b2))))] H754 := hP
                  have hD : va_D A [(qm, .inr (6, [.ref qz, .ref qa, .ref qe, .int (nI sts), .ref qs, .ref qv, .ref qp, .int (nI len), .int go, .ref qn])), (qz, .inl (cI, 46, .inl z)), (qa, .inl (cI, 46, .inl as)), (qe, .inl (cI, 276, .inl be)), (qs, .inl (cI, 92, .inl sl)), (qv, .inl (cZ, 2, .inl sv)), (qp, .inl (cI, 60, .inl pd)), (qn, .inl (cI, 36, .inl (upd ne b2 (ne b2))))] := hD
                  refine lv_iinc (v := nI (i + 1)) (lv' := [(4, .int (nI (i + 1))), (5, .int (nI tn)), (3, .int (nI b2)), (2, .int (nI (k / 3))), (0, .ref qm), (1, .int (nI k))]) hx hb dX6_throwsNeeded_95 hl (k := 1) rfl (nI_inc i) (by decide) rfl (fun ls hl => ?_)
                  refine lv_goto (tgt := 31) hx hb dX6_throwsNeeded_98 (by decide) ?_
                  exact ih2 (i + 1) (upd ne b2 (ne b2)) (by omega) (by omega) (by have e1 := c_753; rw [hf3, upd_ne (show tn ≠ b2 by omega), upd_eq] at e1; rw [hf3, upd_upd, show i + 1 - 1 = (i - 1) + 1 by omega, tvM, show (i - 1) + 1 = i by omega, etn, nI_clamp (show tn < 2 ^ 31 by omega), if_neg (fun q => q.2 e1), upd_eq]) (by omega) H754 locs754 hP hD hS _ (lv_sub hl [0, 2, 3, 4, 5] rfl)
                · refine lv_aload_n hx hb dX6_throwsNeeded_76 rfl (lv_at hl 4 rfl) ?_
                  refine va_get (D := G) (ci := 6) (v := .ref qn) (C := RX6) (T := TX6) (N := 10) hx hb hts inlX6 hown hK.1 hP 0 rfl rfl 9 (by decide) (hts _ wd85) (fun _ h9 => h9) rfl dX6_throwsNeeded_77 ?_
                  refine lv_iload hx hb dX6_throwsNeeded_80 (lv_at hl 0 rfl) ?_
                  refine za_ld hx hb hK.1 hP 7 0 rfl rfl tn rfl (by omega) (by decide) dX6_throwsNeeded_82 ?_
                  refine lv_iconst (v := 1) hx hb dX6_throwsNeeded_83 (by decide) ?_
                  refine lv_iadd hx hb dX6_throwsNeeded_84 ?_
                  refine lv_goto (tgt := 94) hx hb dX6_throwsNeeded_85 (by decide) ?_
                  refine za_st hx hb hK.1 hP hD hS 7 0 rfl rfl b2 rfl (by omega) (by decide) dX6_throwsNeeded_94 (fun H755 locs755 hP hD hS => ?_)
                  have hP : va_P G vwCl [(qm, .inr (6, [.ref qz, .ref qa, .ref qe, .int (nI sts), .ref qs, .ref qv, .ref qp, .int (nI len), .int go, .ref qn])), (qz, .inl (cI, 46, .inl z)), (qa, .inl (cI, 46, .inl as)), (qe, .inl (cI, 276, .inl be)), (qs, .inl (cI, 92, .inl sl)), (qv, .inl (cZ, 2, .inl sv)), (qp, .inl (cI, 60, .inl pd)), (qn, .inl (cI, 36, .inl (upd ne b2 ((ne tn) + 1))))] H755 := hP
                  have hD : va_D A [(qm, .inr (6, [.ref qz, .ref qa, .ref qe, .int (nI sts), .ref qs, .ref qv, .ref qp, .int (nI len), .int go, .ref qn])), (qz, .inl (cI, 46, .inl z)), (qa, .inl (cI, 46, .inl as)), (qe, .inl (cI, 276, .inl be)), (qs, .inl (cI, 92, .inl sl)), (qv, .inl (cZ, 2, .inl sv)), (qp, .inl (cI, 60, .inl pd)), (qn, .inl (cI, 36, .inl (upd ne b2 ((ne tn) + 1))))] := hD
                  refine lv_iinc (v := nI (i + 1)) (lv' := [(4, .int (nI (i + 1))), (5, .int (nI tn)), (3, .int (nI b2)), (2, .int (nI (k / 3))), (0, .ref qm), (1, .int (nI k))]) hx hb dX6_throwsNeeded_95 hl (k := 1) rfl (nI_inc i) (by decide) rfl (fun ls hl => ?_)
                  refine lv_goto (tgt := 31) hx hb dX6_throwsNeeded_98 (by decide) ?_
                  exact ih2 (i + 1) (upd ne b2 ((ne tn) + 1)) (by omega) (by omega) (by have e1 := c_753; rw [hf3, upd_ne (show tn ≠ b2 by omega), upd_eq] at e1; rw [hf3, upd_upd, show i + 1 - 1 = (i - 1) + 1 by omega, tvM, show (i - 1) + 1 = i by omega, etn, nI_clamp (show tn < 2 ^ 31 by omega), if_pos ⟨nI_pos (by omega), e1⟩, upd_ne (show tn ≠ b2 by omega)]) (by omega) H755 locs755 hP hD hS _ (lv_sub hl [0, 2, 3, 4, 5] rfl)
        exact L2 8 1 (upd nc b2 400) (by decide) (by decide) rfl (by decide) H747 locs747 hP hD hS _ (lv_sub hl [0, 1, 2, 3, 4] rfl)
  exact L1 36 35 34 (upd nd 35 0) (by decide) rfl rfl (by decide) H742 locs742 hP hD hS _ (lv_sub hl [0, 1, 2, 3] rfl)

abbrev rm_X6_needs : Room := { frames := 4, cells := 0, slots := 0, locals := 95 }
theorem cf_RX6_164 {R : Room} {s : State} {args : Array Value} (ht : ∀ w ∈ wsL_law, w.before args s = true) (hR : rm_X6_throwsNeeded.frames + 1 ≤ R.frames ∧ 8 + (6 + 11) + rm_X6_throwsNeeded.locals ≤ R.locals) : CallW R s args RX6 RX6 164 yX6_throwsNeeded cX6_throwsNeeded 6 (some .int) (.code yX6_throwsNeeded cX6_throwsNeeded 6 (some .int) :: wsL_law) rm_X6_throwsNeeded 0 0 1 := ⟨cw_B 1 ht wd525 wd5 wd528 (by decide +kernel) rfl rfl hR, ht _ wd526, ht _ wd527⟩
set_option maxHeartbeats 1000000 in
set_option maxRecDepth 100000 in
theorem c_X6_needs (l : Launch) (G : va_G) (cI cC cZ cG : ClassId) (sz : Nat) (qm qz qa qe qs qv qp qn : Nat) (z as be sl sv pd nd : IA) (sts len : Nat) (go : Int32) (pl : Nat) (k0 w0 : Int32) (hz : ∀ k, k < 12 → okv (z k)) (hx0 : ¬ z 39 < 0) (hpl : pl < 4) (h40 : z 40 = nI pl) (h4c : okc (z 41)) (hst : sts ≤ 6) (hln : len ≤ 60) : Met l yX6_needs (.code yX6_needs cX6_needs 3 (some .int) :: wsL_law) rm_X6_needs (va_Pc [.ref qm, .int k0, .int w0] (bw G cI cC cZ cG false sz [(qm, .inr (6, [.ref qz, .ref qa, .ref qe, .int (nI sts), .ref qs, .ref qv, .ref qp, .int (nI len), .int go, .ref qn])), (qz, .inl (cI, 46, .inl z)), (qa, .inl (cI, 46, .inl as)), (qe, .inl (cI, 276, .inl be)), (qs, .inl (cI, 92, .inl sl)), (qv, .inl (cZ, 2, .inl sv)), (qp, .inl (cI, 60, .inl pd)), (qn, .inl (cI, 36, .inl nd))])) (va_Qi (fun (r : Int32) (u : MS) => r = m_needs k0 w0 z nd ∧ cor u = (z, be, sts, sl, sv, pd, len)) (fun (u : MS) t => va_P G vwCl [(qm, .inr (6, [.ref qz, .ref qa, .ref qe, .int (nI u.2.2.1), .ref qs, .ref qv, .ref qp, .int (nI u.2.2.2.2.2.2.1), .int u.2.2.2.2.2.2.2.2.1, .ref qn])), (qz, .inl (cI, 46, .inl u.1)), (qa, .inl (cI, 46, .inl u.2.2.2.2.2.2.2.1)), (qe, .inl (cI, 276, .inl u.2.1)), (qs, .inl (cI, 92, .inl u.2.2.2.1)), (qv, .inl (cZ, 2, .inl u.2.2.2.2.1)), (qp, .inl (cI, 60, .inl u.2.2.2.2.2.1)), (qn, .inl (cI, 36, .inl u.2.2.2.2.2.2.2.2.2))] t.heap ∧ va_D (va_A [(qm, .inr (6, [.ref qz, .ref qa, .ref qe, .int (nI sts), .ref qs, .ref qv, .ref qp, .int (nI len), .int go, .ref qn])), (qz, .inl (cI, 46, .inl z)), (qa, .inl (cI, 46, .inl as)), (qe, .inl (cI, 276, .inl be)), (qs, .inl (cI, 92, .inl sl)), (qv, .inl (cZ, 2, .inl sv)), (qp, .inl (cI, 60, .inl pd)), (qn, .inl (cI, 36, .inl nd))] sz) [(qm, .inr (6, [.ref qz, .ref qa, .ref qe, .int (nI u.2.2.1), .ref qs, .ref qv, .ref qp, .int (nI u.2.2.2.2.2.2.1), .int u.2.2.2.2.2.2.2.2.1, .ref qn])), (qz, .inl (cI, 46, .inl u.1)), (qa, .inl (cI, 46, .inl u.2.2.2.2.2.2.2.1)), (qe, .inl (cI, 276, .inl u.2.1)), (qs, .inl (cI, 92, .inl u.2.2.2.1)), (qv, .inl (cZ, 2, .inl u.2.2.2.2.1)), (qp, .inl (cI, 60, .inl u.2.2.2.2.2.1)), (qn, .inl (cI, 36, .inl u.2.2.2.2.2.2.2.2.2))]) (va_A [(qm, .inr (6, [.ref qz, .ref qa, .ref qe, .int (nI sts), .ref qs, .ref qv, .ref qp, .int (nI len), .int go, .ref qn])), (qz, .inl (cI, 46, .inl z)), (qa, .inl (cI, 46, .inl as)), (qe, .inl (cI, 276, .inl be)), (qs, .inl (cI, 92, .inl sl)), (qv, .inl (cZ, 2, .inl sv)), (qp, .inl (cI, 60, .inl pd)), (qn, .inl (cI, 36, .inl nd))] sz)) 0 0 (va_A [(qm, .inr (6, [.ref qz, .ref qa, .ref qe, .int (nI sts), .ref qs, .ref qv, .ref qp, .int (nI len), .int go, .ref qn])), (qz, .inl (cI, 46, .inl z)), (qa, .inl (cI, 46, .inl as)), (qe, .inl (cI, 276, .inl be)), (qs, .inl (cI, 92, .inl sl)), (qv, .inl (cZ, 2, .inl sv)), (qp, .inl (cI, 60, .inl pd)), (qn, .inl (cI, 36, .inl nd))] sz) := by
  refine met_bw rfl (Nat.le_of_ble_eq_true rfl) ?_
  intro p e s m below meth c ls hx hb hr hml hown hts hlocks hin hsz hP hK hD0 hX0 hl
  have hown : s.vm.findClass RX6 = some m.cls := hown
  have hl : lv_has ls 3 [(0, .ref qm), (1, .int k0), (2, .int w0)] := hl
  subst hsz
  have hD := hD0.self (sz := s.heap.size)
  generalize hAe : va_A [(qm, .inr (6, [.ref qz, .ref qa, .ref qe, .int (nI sts), .ref qs, .ref qv, .ref qp, .int (nI len), .int go, .ref qn])), (qz, .inl (cI, 46, .inl z)), (qa, .inl (cI, 46, .inl as)), (qe, .inl (cI, 276, .inl be)), (qs, .inl (cI, 92, .inl sl)), (qv, .inl (cZ, 2, .inl sv)), (qp, .inl (cI, 60, .inl pd)), (qn, .inl (cI, 36, .inl nd))] s.heap.size = A at hD ⊢
  have hA : ∀ q : Nat, s.heap.size ≤ q → A q := fun q h => by rw [← hAe]; exact Or.inr h
  have hS : va_S A s.heap s.heap [] := va_S.rf
  refine lv_iload_n hx hb dX6_needs_0 rfl (lv_at hl 1 rfl) ?_
  refine vp_callSi (va_Run.run (va_runS (As := [.int k0]) (rest := []) ⟨hx, hb, hml, hown, hts⟩ (c_X6_isPiece l k0) (cf_RX6_146 hts ⟨Nat.le_of_ble_eq_true rfl, Nat.le_of_ble_eq_true rfl⟩) pre_P rfl rfl hl.1 rfl (lv_room (Nat.le_of_ble_eq_true rfl)) dX6_needs_1 ⟨Nat.le_of_ble_eq_true rfl, Nat.le_of_ble_eq_true rfl⟩)) (fun r756 hr756 => ?_)
  subst hr756
  refine zb_ne (tgt := 11) hx hb dX6_needs_4 (by decide) (fun c_757 => ?_) (fun c_757 => ?_)
  · obtain ⟨j, hj0, hj, rfl⟩ := inQ_nI (lo := 0) (hi := 11) (by decide) (by decide) c_757
    refine lv_iload_n hx hb dX6_needs_11 rfl (lv_at hl 2 rfl) ?_
    refine lv_iconst (v := 0) hx hb dX6_needs_12 (by decide) ?_
    refine lv_iconst (v := 1) hx hb dX6_needs_13 (by decide) ?_
    refine vp_callSi (va_Run.run (va_runS (As := [.int w0, .int 0, .int 1]) (rest := []) ⟨hx, hb, hml, hown, hts⟩ (c_X6_in l w0 0 1) (cf_RX6_32 hts ⟨Nat.le_of_ble_eq_true rfl, Nat.le_of_ble_eq_true rfl⟩) pre_P rfl rfl hl.1 rfl (lv_room (Nat.le_of_ble_eq_true rfl)) dX6_needs_14 ⟨Nat.le_of_ble_eq_true rfl, Nat.le_of_ble_eq_true rfl⟩)) (fun r758 hr758 => ?_)
    subst hr758
    refine zb_eq (tgt := 28) hx hb dX6_needs_17 (by decide) (fun c_759 => ?_) (fun c_759 => ?_)
    · refine lv_bipush (v := (-2)) hx hb dX6_needs_28 (by decide) ?_
      exact W.iret (v := (-2)) hx hb hr (fun t ht hW => ⟨⟨(-2), (z, be, sts, sl, sv, pd, len, as, go, nd), rfl, ⟨by rw [m_needs, if_neg (fun h => h c_757), if_neg c_759], rfl⟩, by rw [ht]; exact hP, hD⟩, hS.F ht⟩) hS.2.2 dX6_needs_30
    · refine lv_aload_n hx hb dX6_needs_20 rfl (lv_at hl 0 rfl) ?_
      refine lv_iload_n hx hb dX6_needs_21 rfl (lv_at hl 1 rfl) ?_
      have hPc : va_P G vwCl [(qm, .inr (6, [.ref qz, .ref qa, .ref qe, .int (nI sts), .ref qs, .ref qv, .ref qp, .int (nI len), .int go, .ref qn])), (qz, .inl (cI, 46, .inl z)), (qa, .inl (cI, 46, .inl as)), (qe, .inl (cI, 276, .inl be)), (qs, .inl (cI, 92, .inl sl)), (qv, .inl (cZ, 2, .inl sv)), (qp, .inl (cI, 60, .inl pd)), (qn, .inl (cI, 36, .inl nd))] s.heap := hP
      have hDc := hD.tt
      have hFc := va_free (wc := [(qm, .inr (6, [.ref qz, .ref qa, .ref qe, .int (nI sts), .ref qs, .ref qv, .ref qp, .int (nI len), .int go, .ref qn])), (qz, .inl (cI, 46, .inl z)), (qa, .inl (cI, 46, .inl as)), (qe, .inl (cI, 276, .inl be)), (qs, .inl (cI, 92, .inl sl)), (qv, .inl (cZ, 2, .inl sv)), (qp, .inl (cI, 60, .inl pd)), (qn, .inl (cI, 36, .inl nd))]) hD hS hA [0, 1, 2, 3, 4, 5, 6, 7] rfl
      refine va_calli (va_runV (As := [.int (nI j)]) (rest := []) ⟨hx, hb, hml, hown, hts⟩ (c_X6_throwsNeeded l G cI cC cZ cG s.heap.size qm qz qa qe qs qv qp qn z as be sl sv pd nd sts len go j hz (by omega)) (cf_RX6_164 hts ⟨Nat.le_of_ble_eq_true rfl, Nat.le_of_ble_eq_true rfl⟩) (pre_V hK hPc hDc (ci := 6) (q0 := 0) rfl rfl) rfl rfl hl.1 rfl (lv_room (Nat.le_of_ble_eq_true rfl)) dX6_needs_22 ⟨Nat.le_of_ble_eq_true rfl, Nat.le_of_ble_eq_true rfl⟩) hS (fun q _ h => hFc q h) hFc (fun r760 u760 t760 H760 locs760 ht760 hvm760 hw760 hB760 hz760 hk760 hS => ?_)
      obtain ⟨nd760, rfl⟩ : ∃ z, z = u760 := ⟨_, rfl⟩
      obtain ⟨hP1, hD1⟩ := hB760
      rw [ht760] at hP1
      try dsimp only at hw760
      obtain ⟨hr760, hw760⟩ := hw760
      subst hr760
      obtain ⟨hP, hD⟩ := va_join (wr := []) (w1 := [(qm, .inr (6, [.ref qz, .ref qa, .ref qe, .int (nI sts), .ref qs, .ref qv, .ref qp, .int (nI len), .int go, .ref qn])), (qz, .inl (cI, 46, .inl z)), (qa, .inl (cI, 46, .inl as)), (qe, .inl (cI, 276, .inl be)), (qs, .inl (cI, 92, .inl sl)), (qv, .inl (cZ, 2, .inl sv)), (qp, .inl (cI, 60, .inl pd)), (qn, .inl (cI, 36, .inl nd760))]) hP hD [0, 1, 2, 3, 4, 5, 6, 7] [] rfl rfl (by decide) (by decide) hk760 hFc hP1 hD1
      have hP : va_P G vwCl [(qm, .inr (6, [.ref qz, .ref qa, .ref qe, .int (nI sts), .ref qs, .ref qv, .ref qp, .int (nI len), .int go, .ref qn])), (qz, .inl (cI, 46, .inl z)), (qa, .inl (cI, 46, .inl as)), (qe, .inl (cI, 276, .inl be)), (qs, .inl (cI, 92, .inl sl)), (qv, .inl (cZ, 2, .inl sv)), (qp, .inl (cI, 60, .inl pd)), (qn, .inl (cI, 36, .inl nd760))] H760 := hP
      have hD : va_D A [(qm, .inr (6, [.ref qz, .ref qa, .ref qe, .int (nI sts), .ref qs, .ref qv, .ref qp, .int (nI len), .int go, .ref qn])), (qz, .inl (cI, 46, .inl z)), (qa, .inl (cI, 46, .inl as)), (qe, .inl (cI, 276, .inl be)), (qs, .inl (cI, 92, .inl sl)), (qv, .inl (cZ, 2, .inl sv)), (qp, .inl (cI, 60, .inl pd)), (qn, .inl (cI, 36, .inl nd760))] := hD
      refine lv_goto (tgt := 30) hx hb dX6_needs_25 (by decide) ?_
      exact W.iret (v := tnR nd z j) hx hb hr (fun t ht hW => ⟨⟨tnR nd z j, (z, be, sts, sl, sv, pd, len, as, go, nd760), rfl, ⟨by rw [m_needs, if_neg (fun h => h c_757), if_pos c_759, (show (nI j).toNatClampNeg = j from nI_clamp (by omega))], rfl⟩, by rw [ht]; exact hP, hD⟩, hS.F ht⟩) hS.2.2 dX6_needs_30
  · refine lv_iconst (v := (-1)) hx hb dX6_needs_7 (by decide) ?_
    refine lv_goto (tgt := 30) hx hb dX6_needs_8 (by decide) ?_
    exact W.iret (v := (-1)) hx hb hr (fun t ht hW => ⟨⟨(-1), (z, be, sts, sl, sv, pd, len, as, go, nd), rfl, ⟨by rw [m_needs, if_pos c_757], rfl⟩, by rw [ht]; exact hP, hD⟩, hS.F ht⟩) hS.2.2 dX6_needs_30
