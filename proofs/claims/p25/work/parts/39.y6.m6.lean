-- ===== class and reference: how many throws are needed =====
def mn (F : Nat → Bool) (d : Nat → Nat) (a s : Nat) : Nat → Nat
  | 0 => s
  | c + 1 => if tgI (tg F a (c + 1)) = -6 then mn F d a s c else if d (tgI (tg F a (c + 1))).toNatClampNeg + 1 < mn F d a s c then d (tgI (tg F a (c + 1))).toNatClampNeg + 1 else mn F d a s c
theorem tgI_ne {F : Nat → Bool} {a c : Nat} (h : ¬ tgI (tg F a c) = -6) : ∃ t : Nat, t ≤ 35 ∧ tgI (tg F a c) = nI t := (tgI_ok (tg F a c)).resolve_left h
theorem mn_s {F : Nat → Bool} {d : Nat → Nat} {a s : Nat} : ∀ n, mn F d a s n ≤ s
  | 0 => Nat.le_refl s
  | n + 1 => by
    have ih := mn_s (F := F) (d := d) (a := a) (s := s) n
    rw [mn]; split
    · exact ih
    · split
      · omega
      · exact ih
theorem mn_le {F : Nat → Bool} {d : Nat → Nat} {a s t : Nat} (ht : t ≤ 35) : ∀ n c, 1 ≤ c → c ≤ n → tgI (tg F a c) = nI t → mn F d a s n ≤ d t + 1
  | 0, c, h1, h2, _ => by omega
  | n + 1, c, h1, h2, e => by
    rw [mn]
    by_cases q : c = n + 1
    · rw [← q, e, if_neg (nI_neg (by omega) (by decide)), nI_clamp (by omega)]
      split
      · exact Nat.le_refl _
      · omega
    · have ih := mn_le (F := F) (d := d) (a := a) (s := s) ht n c h1 (by omega) e
      split
      · exact ih
      · split
        · omega
        · exact ih
theorem mn_in {F : Nat → Bool} {d : Nat → Nat} {a s : Nat} : ∀ n, mn F d a s n = s ∨ ∃ c t, 1 ≤ c ∧ c ≤ n ∧ t ≤ 35 ∧ tgI (tg F a c) = nI t ∧ mn F d a s n = d t + 1
  | 0 => Or.inl rfl
  | n + 1 => by
    have ih : mn F d a s n = s ∨ ∃ c t, 1 ≤ c ∧ c ≤ n + 1 ∧ t ≤ 35 ∧ tgI (tg F a c) = nI t ∧ mn F d a s n = d t + 1 := by
      rcases mn_in (F := F) (d := d) (a := a) (s := s) n with h | ⟨c, t, h1, h2, h3⟩
      · exact Or.inl h
      · exact Or.inr ⟨c, t, h1, by omega, h3⟩
    rw [mn]
    by_cases q : tgI (tg F a (n + 1)) = -6
    · rw [if_pos q]; exact ih
    · obtain ⟨t, ht, e⟩ := tgI_ne q
      rw [if_neg q, e, nI_clamp (by omega)]
      by_cases q2 : d t + 1 < mn F d a s n
      · rw [if_pos q2]; exact Or.inr ⟨n + 1, t, by omega, by omega, ht, e, rfl⟩
      · rw [if_neg q2]; exact ih
theorem mn_c {F : Nat → Bool} {d d' : Nat → Nat} {a s : Nat} (h : ∀ t, a < t → t ≤ 35 → d t = d' t) : ∀ n, mn F d a s n = mn F d' a s n
  | 0 => rfl
  | n + 1 => by
    rw [mn, mn, mn_c h n]
    by_cases q : tgI (tg F a (n + 1)) = -6
    · rw [if_pos q, if_pos q]
    · obtain ⟨t, ht, e⟩ := tgI_ne q
      rw [if_neg q, if_neg q, e, nI_clamp (by omega), h t (tgI_gt e (by omega) ht) ht]
def dT (F : Nat → Bool) : Nat → Nat → Nat
  | 0, _ => 0
  | n + 1, j => if j = 34 - n then mn F (dT F n) (34 - n) 36 6 else dT F n j
theorem dT_st {F : Nat → Bool} {n j : Nat} (hj : 35 ≤ j + n) : ∀ m, n + m ≤ 35 → dT F (n + m) j = dT F n j
  | 0, _ => rfl
  | m + 1, hm => by rw [← Nat.add_assoc, dT, if_neg (by omega)]; exact dT_st hj m (by omega)
def dD (F : Nat → Bool) (j : Nat) : Nat := dT F 35 j
theorem dD_n {F : Nat → Bool} {n j : Nat} (hj : 35 ≤ j + n) (hn : n ≤ 35) : dT F n j = dD F j := by
  have := dT_st (F := F) hj (35 - n) (by omega)
  rw [show n + (35 - n) = 35 by omega] at this
  exact this.symm
theorem dD_eq {F : Nat → Bool} {a : Nat} (ha : a < 35) : dD F a = mn F (dD F) a 36 6 := by
  rw [← dD_n (n := (34 - a) + 1) (by omega) (by omega), dT, if_pos (by omega), show 34 - (34 - a) = a by omega]
  exact mn_c (fun t h1 h2 => dD_n (by omega) (by omega)) 6
theorem dD_35 {F : Nat → Bool} : dD F 35 = 0 := (dD_n (F := F) (n := 0) (j := 35) (by decide) (by decide)).symm
def hF8 (F : Nat → Bool) : Prop := ∀ x, x ≤ 36 → F x = true → x % 8 = 4 ∧ x < 32
theorem good {F : Nat → Bool} (hF : hF8 F) {a : Nat} (ha : a < 35) : ∃ c t, 1 ≤ c ∧ c ≤ 6 ∧ a < t ∧ t ≤ 35 ∧ tgI (tg F a c) = nI t := by
  by_cases q : F (a + 1) = true
  · have h1 := hF (a + 1) (by omega) q
    have q2 : ¬ F (a + 1 + 1) = true := fun w => by have := hF (a + 1 + 1) (by omega) w; omega
    refine ⟨3, a + 1 + 1, by decide, by decide, by omega, by omega, ?_⟩
    rw [tg, if_pos q, tg, if_neg q2, tg, if_neg q2, tgI, if_pos (by omega)]
  · refine ⟨1, a + 1, by decide, by decide, by omega, by omega, ?_⟩
    rw [tg, if_neg q, tg, if_neg q, tgI, if_pos (by omega)]
theorem dD_b {F : Nat → Bool} (hF : hF8 F) : ∀ k a, a + k = 35 → dD F a ≤ k := by
  intro k
  induction k using Nat.strongRecOn with
  | _ k ih =>
    intro a ha
    by_cases q : a = 35
    · rw [q, dD_35]; exact Nat.zero_le k
    · obtain ⟨c, t, h1, h2, h3, h4, e⟩ := good hF (show a < 35 by omega)
      have a1 := mn_le (d := dD F) (s := 36) h4 6 c h1 h2 e
      have a2 := ih (35 - t) (by omega) t (by omega)
      rw [dD_eq (by omega)]
      omega
theorem dD_ex {F : Nat → Bool} (hF : hF8 F) {a : Nat} (ha : a < 35) : ∃ c t, 1 ≤ c ∧ c ≤ 6 ∧ t ≤ 35 ∧ tgI (tg F a c) = nI t ∧ dD F a = dD F t + 1 := by
  rcases mn_in (F := F) (d := dD F) (a := a) (s := 36) 6 with h | h
  · have := dD_b hF (35 - a) a (by omega)
    rw [dD_eq ha, h] at this; omega
  · rw [← dD_eq ha] at h; exact h
theorem dD_le {F : Nat → Bool} {a c t : Nat} (ha : a < 35) (h1 : 1 ≤ c) (h2 : c ≤ 6) (ht : t ≤ 35) (e : tgI (tg F a c) = nI t) : dD F a ≤ dD F t + 1 := by
  rw [dD_eq ha]; exact mn_le ht 6 c h1 h2 e
theorem mn_400 {F : Nat → Bool} (hF : hF8 F) {a : Nat} (ha : a < 35) : mn F (dD F) a 400 6 = dD F a := by
  obtain ⟨c, t, h1, h2, h3, e, eD⟩ := dD_ex hF ha
  have l1 := mn_le (d := dD F) (s := 400) h3 6 c h1 h2 e
  have l0 := dD_b hF (35 - a) a (by omega)
  rcases mn_in (F := F) (d := dD F) (a := a) (s := 400) 6 with h | ⟨c', t', h1', h2', h3', e', eM⟩
  · omega
  · have := dD_le ha h1' h2' h3' e'
    omega
-- the rows
theorem tvC_n {nd br : IA} {p a : Nat} (hF : hF8 (faN br p)) (ha : a < 35) (h : ∀ t, a < t → t ≤ 35 → nd t = nI (dD (faN br p) t)) : ∀ n, tvC nd br p a n = nI (mn (faN br p) (dD (faN br p)) a 36 n)
  | 0 => rfl
  | n + 1 => by
    have hs := mn_s (F := faN br p) (d := dD (faN br p)) (a := a) (s := 36) n
    rw [tvC, mn, tvC_n hF ha h n, tgt_nI (by omega)]
    by_cases q : tgI (tg (faN br p) a (n + 1)) = -6
    · rw [if_pos q, if_pos q]
    · obtain ⟨t, ht, e⟩ := tgI_ne q
      have hb := dD_b hF (35 - t) t (by omega)
      rw [if_neg q, if_neg q, e, nI_clamp (by omega), h t (tgI_gt e (by omega) ht) ht, nI_1]
      by_cases q2 : dD (faN br p) t + 1 < mn (faN br p) (dD (faN br p)) a 36 n
      · rw [if_pos q2, if_pos ((nI_ltI (by omega) (by omega)).mpr q2)]
      · rw [if_neg q2, if_neg (fun w => q2 ((nI_ltI (by omega) (by omega)).mp w))]
theorem tvM_n {nd : IA} {F : Nat → Bool} {a : Nat} (hF : hF8 F) (ha : a < 35) (h : ∀ t, a < t → t ≤ 35 → nd t = nI (dD F t)) : ∀ n, tvM nd F a n = nI (mn F (dD F) a 400 n)
  | 0 => rfl
  | n + 1 => by
    have hs := mn_s (F := F) (d := dD F) (a := a) (s := 400) n
    rw [tvM, mn, tvM_n hF ha h n]
    by_cases q : tgI (tg F a (n + 1)) = -6
    · rw [if_pos q, if_neg (fun w => w.1 (by rw [q]; decide))]
    · obtain ⟨t, ht, e⟩ := tgI_ne q
      have hb := dD_b hF (35 - t) t (by omega)
      rw [if_neg q, e, nI_clamp (by omega), h t (tgI_gt e (by omega) ht) ht, nI_1]
      by_cases q2 : dD F t + 1 < mn F (dD F) a 400 n
      · rw [if_pos q2, if_pos ⟨nI_pos (by omega), fun w => by rw [nI_leI (by omega) (by omega)] at w; omega⟩]
      · rw [if_neg q2, if_neg (fun w => w.2 ((nI_leI (by omega) (by omega)).mpr (by omega)))]
theorem tnC_n {nd br : IA} {p : Nat} (hF : hF8 (faN br p)) : ∀ n, n ≤ 35 → ∀ j, 35 ≤ j + n → j ≤ 35 → tnC nd br p n j = nI (dD (faN br p) j)
  | 0, _, j, h1, h2 => by
    obtain rfl : j = 35 := by omega
    rw [tnC, upd_eq, dD_35]; rfl
  | n + 1, hn, j, h1, h2 => by
    have ih := tnC_n (nd := nd) hF n (by omega)
    rw [tnC]
    by_cases q : j = 34 - n
    · rw [← q, upd_eq, tvC_n hF (by omega) (fun t ht1 ht2 => ih t (by omega) ht2) 6, ← dD_eq (by omega)]
    · rw [upd_ne q]; exact ih j (by omega) h2
theorem tnM_n {nd : IA} {F : Nat → Bool} (hF : hF8 F) : ∀ n, n ≤ 35 → ∀ j, 35 ≤ j + n → j ≤ 35 → tnM nd F n j = nI (dD F j)
  | 0, _, j, h1, h2 => by
    obtain rfl : j = 35 := by omega
    rw [tnM, upd_eq, dD_35]; rfl
  | n + 1, hn, j, h1, h2 => by
    have ih := tnM_n (nd := nd) hF n (by omega)
    rw [tnM]
    by_cases q : j = 34 - n
    · rw [← q, upd_eq, tvM_n hF (by omega) (fun t ht1 ht2 => ih t (by omega) ht2) 6, mn_400 hF (by omega)]
    · rw [upd_ne q]; exact ih j (by omega) h2
-- going wide
def wJ (F : Nat → Bool) (f r : Nat) (L X : IA) : Prop := ∀ b, b ≤ 35 → X b = L b ∨ (L b = -6 ∧ X b = nI (r + 1) ∧ dD F f ≤ dD F b + (r + 1))
def wI (F : Nat → Bool) (f r : Nat) (L : IA) : Prop :=
  (∀ b, b ≤ 35 → L b = -6 ∨ ∃ i, i ≤ r ∧ L b = nI i ∧ dD F f ≤ dD F b + i) ∧ (∃ a, a ≤ 35 ∧ L a = nI r ∧ dD F a + r = dD F f)
theorem wJ_r {F : Nat → Bool} {f r a : Nat} {L X : IA} (hr : r ≤ 35) (hJ : wJ F f r L X) (ha : a ≤ 35) (h : X a = nI r) : L a = nI r := by
  rcases hJ a ha with e | ⟨_, e, _⟩
  · rw [← e]; exact h
  · rw [h, nI_eq (by omega) (by omega)] at e; omega
theorem wC_J {br L : IA} {p f r a : Nat} (hr : r ≤ 35) (ha : a < 35) (hI : wI (faN br p) f r L) {X : IA} (hJ : wJ (faN br p) f r L X) : ∀ c, c ≤ 6 → wJ (faN br p) f r L (wdC br p r a X c)
  | 0, _ => hJ
  | c + 1, hc => by
    have ih := wC_J (p := p) hr ha hI hJ c (by omega)
    rw [wdC]
    split
    · rename_i q
      obtain ⟨q1, q2, q3⟩ := q
      rw [tgt_nI (by omega)] at q2 q3 ⊢
      obtain ⟨t, ht, e⟩ := tgI_ne q2
      rw [e, nI_clamp (by omega)] at q3 ⊢
      have hLa := wJ_r hr ih (by omega) q1
      intro b hb
      by_cases eb : b = t
      · subst eb
        refine Or.inr ⟨?_, upd_eq, ?_⟩
        · rcases ih b hb with w | ⟨w, _⟩
          · rw [← w]; exact q3
          · exact w
        · have d1 := dD_le ha (show 1 ≤ c + 1 by omega) hc hb e
          rcases hI.1 a (by omega) with w | ⟨i, hi, w, hd⟩
          · rw [w] at hLa; exact absurd hLa.symm (nI_neg (by omega) (by decide))
          · rw [hLa, nI_eq (by omega) (by omega)] at w; omega
      · rw [upd_ne eb]; exact ih b hb
    · exact ih
theorem wA_J {br L : IA} {p f r : Nat} (hr : r ≤ 35) (hI : wI (faN br p) f r L) : ∀ a, a ≤ 35 → wJ (faN br p) f r L (wdA br p r L a)
  | 0, _ => fun _ _ => Or.inl rfl
  | a + 1, ha => wC_J hr (by omega) hI (wA_J hr hI a (by omega)) 6 (Nat.le_refl 6)
theorem wC_up {br X : IA} {p r a t : Nat} (hr : r ≤ 35) (h : ¬ X t = -6) : ∀ c, ¬ wdC br p r a X c t = -6
  | 0 => h
  | c + 1 => by
    have ih := wC_up (br := br) (p := p) (a := a) hr h c
    rw [wdC]; split
    · rw [upd]; split
      · exact nI_neg (by omega) (by decide)
      · exact ih
    · exact ih
theorem wC_up2 {br X : IA} {p r a t c : Nat} (hr : r ≤ 35) (h : ¬ wdC br p r a X c t = -6) : ∀ d, ¬ wdC br p r a X (c + d) t = -6
  | 0 => h
  | d + 1 => by
    have ih := wC_up2 hr h d
    rw [← Nat.add_assoc, wdC]; split
    · rw [upd]; split
      · exact nI_neg (by omega) (by decide)
      · exact ih
    · exact ih
theorem wA_up {br L : IA} {p r a t : Nat} (hr : r ≤ 35) (h : ¬ wdA br p r L a t = -6) : ∀ d, ¬ wdA br p r L (a + d) t = -6
  | 0 => h
  | d + 1 => by rw [← Nat.add_assoc, wdA]; exact wC_up hr (wA_up hr h d) 6
theorem wA_hit {br L : IA} {p f r a c t : Nat} (hr : r ≤ 35) (hI : wI (faN br p) f r L) (ha : a < 35) (hLa : L a = nI r) (hc1 : 1 ≤ c) (hc : c ≤ 6) (ht : t ≤ 35) (e : tgI (tg (faN br p) a c) = nI t) : ¬ wdA br p r L 35 t = -6 := by
  have hJ := wA_J hr hI a (by omega)
  have h1 : ¬ wdC br p r a (wdA br p r L a) c t = -6 := by
    obtain ⟨k, rfl⟩ : ∃ k, c = k + 1 := ⟨c - 1, by omega⟩
    have hJk := wC_J hr ha hI hJ k (by omega)
    have hXa : wdC br p r a (wdA br p r L a) k a = nI r := by
      rcases hJk a (by omega) with w | ⟨w, _⟩
      · rw [w]; exact hLa
      · rw [w] at hLa; exact absurd hLa.symm (nI_neg (by omega) (by decide))
    rw [wdC, tgt_nI (by omega), e, nI_clamp (by omega)]
    by_cases q : wdC br p r a (wdA br p r L a) k t = -6
    · rw [if_pos ⟨hXa, nI_neg (by omega) (by decide), q⟩, upd_eq]; exact nI_neg (by omega) (by decide)
    · rw [if_neg (fun w => q w.2.2)]; exact q
  have h2 := wC_up2 hr h1 (6 - c)
  rw [show c + (6 - c) = 6 by omega] at h2
  have h3 := wA_up (a := a + 1) (t := t) (L := L) (br := br) (p := p) hr (by rw [wdA]; exact h2) (34 - a)
  rw [show a + 1 + (34 - a) = 35 by omega] at h3
  exact h3
theorem wI_step {br L : IA} {p f r : Nat} (hF : hF8 (faN br p)) (hf : f ≤ 35) (hr : r < dD (faN br p) f) (hI : wI (faN br p) f r L) : L 35 = -6 ∧ wI (faN br p) f (r + 1) (wdA br p r L 35) := by
  have hb := dD_b hF (35 - f) f (by omega)
  have hr35 : r ≤ 35 := by omega
  constructor
  · rcases hI.1 35 (Nat.le_refl 35) with w | ⟨i, hi, _, hd⟩
    · exact w
    · rw [dD_35] at hd; omega
  · have hJ := wA_J hr35 hI 35 (Nat.le_refl 35)
    refine ⟨fun b hb35 => ?_, ?_⟩
    · rcases hJ b hb35 with w | ⟨_, w, hd⟩
      · rw [w]
        rcases hI.1 b hb35 with w2 | ⟨i, hi, w2, hd⟩
        · exact Or.inl w2
        · exact Or.inr ⟨i, by omega, w2, hd⟩
      · exact Or.inr ⟨r + 1, Nat.le_refl _, w, hd⟩
    · obtain ⟨a, ha, hLa, hd⟩ := hI.2
      have ha35 : a < 35 := by
        rcases Nat.lt_or_eq_of_le ha with w | w
        · exact w
        · rw [w, dD_35] at hd; omega
      obtain ⟨c, t, hc1, hc, ht, e, eD⟩ := dD_ex hF ha35
      have hn := wA_hit hr35 hI ha35 hLa hc1 hc ht e
      refine ⟨t, ht, ?_, by omega⟩
      rcases hJ t ht with w | ⟨_, w, _⟩
      · rw [w] at hn
        rcases hI.1 t ht with w2 | ⟨i, hi, _, hd2⟩
        · exact absurd w2 hn
        · omega
      · exact w
theorem fil_at {nd : IA} : ∀ n j, j < n → fil nd n j = -6
  | 0, j, h => absurd h (Nat.not_lt_zero j)
  | n + 1, j, h => by
    rw [fil]
    by_cases e : j = n
    · rw [e, upd_eq]
    · rw [upd_ne e]; exact fil_at n j (by omega)
theorem wR_I {br nd : IA} {p f : Nat} (hF : hF8 (faN br p)) (hf : f ≤ 35) : ∀ r, r ≤ dD (faN br p) f → wI (faN br p) f r (wdR br p (upd (fil nd 36) f 0) r)
  | 0, _ => by
    refine ⟨fun b hb => ?_, f, hf, upd_eq, rfl⟩
    by_cases e : b = f
    · subst e; exact Or.inr ⟨0, Nat.le_refl 0, upd_eq, Nat.le_refl _⟩
    · exact Or.inl (by rw [wdR, upd_ne e]; exact fil_at 36 b (by omega))
  | r + 1, hr => by
    have ih := wR_I (nd := nd) hF hf r (by omega)
    obtain ⟨h1, h2⟩ := wI_step hF hf (by omega) ih
    rw [wdR, if_pos h1]; exact h2
theorem ndW_n {br nd : IA} {p f : Nat} (hF : hF8 (faN br p)) (hf : f ≤ 35) : ndW nd br p f 35 = nI (dD (faN br p) f) := by
  have hb := dD_b hF (35 - f) f (by omega)
  obtain ⟨_, a, ha, hLa, hd⟩ := wR_I (nd := nd) hF hf (dD (faN br p) f) (Nat.le_refl _)
  have ha35 : a = 35 := by
    rcases Nat.lt_or_eq_of_le ha with w | w
    · obtain ⟨c, t, _, _, _, _, eD⟩ := dD_ex hF w; omega
    · exact w
  rw [ha35] at hLa
  have h2 := wdR_stop (br := br) (nd := upd (fil nd 36) f 0) (p := p) (r := dD (faN br p) f) (by rw [hLa]; exact nI_neg (by omega) (by decide)) (36 - dD (faN br p) f)
  rw [show dD (faN br p) f + (36 - dD (faN br p) f) = 36 by omega] at h2
  rw [ndW_eq, h2, hLa]
theorem hF_m {z : IA} {p : Nat} (hp : p < 4) : hF8 (mfN z p) := fun x hx h => by
  by_cases q : x < 32
  · rw [mfN, rf_nI hp q, mfa, decide_eq_true_eq] at h
    have := (jr8 (b := 4) (by omega) (by decide)).mp h.2.1
    exact ⟨by omega, q⟩
  · rw [mfN, rf_far (by omega) (by omega), mfa, decide_eq_true_eq] at h; exact absurd n6 h.1
theorem q_needs {pr br nd nd' z : IA} (k w : Int32) (hp : RP pr z) (hb : ∀ b, b < 4 → br b = brz z b) : p_needs k w pr br nd = m_needs k w z nd' := by
  rw [p_needs, m_needs]
  by_cases q : inQ k 0 11 = true
  · rw [if_neg (fun w => in11.mp w q), if_neg (show ¬ ¬ inQ k 0 11 = true from fun w => w q)]
    obtain ⟨j, hj, rfl⟩ := np_ok' q
    have hj3 : j / 3 < 4 := by omega
    have eF : faN br (j / 3) = mfN z (j / 3) := faN_mf hb hj3
    have hF : hF8 (faN br (j / 3)) := by rw [eF]; exact hF_m hj3
    have hF' : hF8 (mfN z (j / 3)) := hF_m hj3
    have ew : (¬ w = 0 ∧ ¬ w = 1) ↔ ¬ inQ w 0 1 = true := by
      constructor
      · intro h e
        obtain ⟨i, _, hi, rfl⟩ := inQ_nI (lo := 0) (hi := 1) (by decide) (by decide) e
        rcases (show i = 0 ∨ i = 1 by omega) with rfl | rfl
        · exact h.1 rfl
        · exact h.2 rfl
      · intro h
        exact ⟨fun e => h (by rw [e]; decide), fun e => h (by rw [e]; decide)⟩
    have both : ∀ f, f ≤ 35 → (if w = 0 then tnW nd br (j / 3) f else ndW nd br (j / 3) f 35) = nI (dD (mfN z (j / 3)) f) := fun f hf => by
      split
      · rw [tnW_eq, tnC_n hF (35 - f) (by omega) f (by omega) hf, eF]
      · rw [ndW_n hF hf, eF]
    rw [nI_clamp (show j < 2 ^ 31 by omega), hp.1 j hj]
    by_cases q2 : inQ w 0 1 = true
    · rw [if_neg (fun z => ew.mp z q2), if_pos q2, tnR]
      rcases hp.2.1 j hj with e | ⟨a, ha, e⟩
      · rw [e, if_pos rfl, if_pos rfl, both 0 (by decide), tnM_n hF' 35 (Nat.le_refl 35) 0 (by decide) (by decide), Int32.add_comm]
      · rw [e, if_neg (nI_neg (by omega) (by decide)), if_neg (nI_neg (by omega) (by decide)), nI_clamp (by omega), both a ha, tnM_n hF' 35 (Nat.le_refl 35) a (by omega) ha, Int32.zero_add]
    · rw [if_pos (ew.mpr q2), if_neg q2]
  · rw [if_pos (in11.mpr q), if_pos q]
