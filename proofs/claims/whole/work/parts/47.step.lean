-- THE STEP AND THE PLANES OF THE CLASS
def shG (W : WD) (h : Nat) : Nat := if h < hrs W then shp W h else 0
theorem shG_le {W : WD} (hw : wfW W) (h : Nat) : shG W h ≤ 500 := by
  unfold shG
  split
  · exact shp_le hw h
  · omega
/-- what the step has ready for a deed and what is owed, at an hour -/
def SRow (Y : TY) (s : Nat) (W : WD) (N : ND) (h d o : Nat) : Prop :=
  tA Y s 0 (d * 21 + o) = nI ((h + hof (d / 2)) * 21 + owB W N h o (d / 2)) ∧ tA Y s 1 (d * 21 + o) = nI (1000000 - shG W h * blB N (d / 2) (d % 2) o) ∧ tA Y s 2 (d * 21 + o) = nI (1000000 - shG W (h + 1) * blB N (d / 2) (d % 2) o)
/-- only the step's rows have changed -/
def SX (Y : TY) (s : Nat) (Y' : TY) : Prop := ∃ f0 f1 f2, Y' = sF (sF (sF Y s 0 f0) s 1 f1) s 2 f2
theorem sF_comm (Y : TY) (a : Nat) {s t : Nat} (h : s ≠ t) (f g : Nat → Int32) : sF (sF Y a s f) a t g = sF (sF Y a t g) a s f := by
  unfold sF
  simp only
  congr 3
  funext b
  by_cases hb : b = a
  · subst hb
    simp only [va_up, if_true]
    funext i
    by_cases h1 : i = s
    · subst h1
      simp [va_up, h]
    · by_cases h2 : i = t
      · subst h2
        simp [va_up, h1]
      · simp [va_up, h1, h2]
  · simp [va_up, hb]
theorem sF_at {Y Y' : TY} {a s : Nat} {g : Nat → Int32} (e : Y' = sF Y a s g) : Y' = sF Y a s (tA Y' a s) := by
  subst e
  rw [tA_same]
theorem SX.zero (Y : TY) (s : Nat) (g : Nat → Int32) : SX Y s (sF Y s 0 g) := ⟨g, tA Y s 1, tA Y s 2, by
  have e1 : sF (sF Y s 0 g) s 1 (tA Y s 1) = sF Y s 0 g := by
    have := sF_id (sF Y s 0 g) s 1
    rw [tA_other Y g (show (1 : Nat) ≠ 0 by decide)] at this
    exact this
  have e2 : sF (sF Y s 0 g) s 2 (tA Y s 2) = sF Y s 0 g := by
    have := sF_id (sF Y s 0 g) s 2
    rw [tA_other Y g (show (2 : Nat) ≠ 0 by decide)] at this
    exact this
  rw [e1, e2]⟩
theorem SX.refl (Y : TY) (s : Nat) : SX Y s Y := by
  have h := SX.zero Y s (tA Y s 0)
  rw [sF_id] at h
  exact h
theorem SX.trans {Y Y' Y'' : TY} {s : Nat} (h1 : SX Y s Y') (h2 : SX Y' s Y'') : SX Y s Y'' := by
  obtain ⟨f0, f1, f2, rfl⟩ := h1
  obtain ⟨g0, g1, g2, rfl⟩ := h2
  refine ⟨g0, g1, g2, ?_⟩
  rw [sF_comm (sF (sF Y s 0 f0) s 1 f1) s (show (2 : Nat) ≠ 0 by decide), sF_comm (sF Y s 0 f0) s (show (1 : Nat) ≠ 0 by decide), sF_sF, sF_comm (sF (sF Y s 0 g0) s 1 f1) s (show (2 : Nat) ≠ 1 by decide), sF_sF, sF_sF]
theorem SX.at {Y Y' : TY} {s : Nat} (h : SX Y s Y') : (∀ a, a ≠ s → ∀ t, tA Y' a t = tA Y a t) ∧ (∀ a t, tI Y' a t = tI Y a t) ∧ (∀ a, tK Y' a = tK Y a) ∧ (∀ a, tP Y' a = tP Y a) ∧ (∀ a, tW Y' a = tW Y a) := by
  obtain ⟨f0, f1, f2, rfl⟩ := h
  exact ⟨fun a ha t => by rw [tA_obj _ _ ha, tA_obj _ _ ha, tA_obj _ _ ha], fun _ _ => rfl, fun _ => rfl, fun _ => rfl, fun _ => rfl⟩
theorem WayP.mv {Y Y' : TY} {a : Nat} {W : WD} (h : WayP Y a W) (hI : ∀ t, tI Y' a t = tI Y a t) (hA : ∀ t, tA Y' a t = tA Y a t) : WayP Y' a W := by
  unfold WayP at h ⊢
  simp only [hI, hA]
  exact h
theorem NapP.mv {Y Y' : TY} {a : Nat} {N : ND} (h : NapP Y a N) (hA : ∀ t, tA Y' a t = tA Y a t) : NapP Y' a N := by
  unfold NapP at h ⊢
  simp only [hA]
  exact h
section SP
variable {st : TS} {Y : TY} {W : WD} {N : ND} {s a n : Nat}
theorem c_hoursOf {post : Int32 → Prop} {t : Nat} (ht : t ≤ 5) (hp : post (nI (hof t))) : tp_X9_hoursOf st post Y (nI t) := by
  unfold tp_X9_hoursOf
  rw [show (4 : Int32) = nI 4 from rfl, show (3 : Int32) = nI 3 from rfl, eqn (by omega) (by omega), eqn (by omega) (by omega)]
  refine ⟨fun c => ⟨fun c2 => ?_, fun c2 => ?_⟩, fun c => ?_⟩
  · rw [show hof t = 1 by simp [hof, c, c2]] at hp
    exact hp
  · rw [show hof t = 2 by simp [hof, c2]] at hp
    exact hp
  · rw [show hof t = 0 by simp [hof, c]] at hp
    exact hp
theorem c_batteryOf {post : Int32 → Prop} {d : Nat} (hd : d ≤ 10) (hp : post (nI (bat d))) : tp_X9_batteryOf st post Y (nI d) := by
  unfold tp_X9_batteryOf
  rw [show (2 : Int32) = nI 2 from rfl, show (3 : Int32) = nI 3 from rfl, pk_rem (by omega) (by omega) (by omega), pk_div (by omega) (by omega) (by omega), show (0 : Int32) = nI 0 from rfl, eqn (by omega) (by omega), eqn (by omega) (by omega)]
  refine ⟨fun c => ⟨fun c2 => ?_, fun c2 => ?_⟩, fun c => ?_⟩
  · rw [show bat d = 1 by simp only [bat, if_neg c, if_neg c2]] at hp
    exact hp
  · rw [show bat d = 2 by simp only [bat, if_neg c, if_pos c2]] at hp
    exact hp
  · rw [show bat d = 0 by simp only [bat, if_pos c]] at hp
    exact hp
theorem hof_le (t : Nat) : hof t ≤ 2 := by unfold hof; split <;> first | omega | (split <;> omega)
theorem bat_le (d : Nat) : bat d ≤ 2 := by unfold bat; split <;> first | omega | (split <;> omega)
theorem c_readyFor {post : TY → Prop} (hw : WayP Y a W) (hn : NapP Y n N) (ha : a ≠ s) (hns : n ≠ s) {h o : Nat} (hh : h ≤ 48) (ho : o ≤ 20) (hp : ∀ Y', SX Y s Y' → (∀ d, d < 10 → SRow Y' s W N h d o) → (∀ d o', o' ≤ 20 → o' ≠ o → SRow Y s W N h d o' → SRow Y' s W N h d o') → post Y') : tp_X6_readyFor st post Y s a n (nI h) (nI o) := by
  have key : ∀ j k Y', k + j = 10 → SX Y s Y' → (∀ d, d < k → SRow Y' s W N h d o) → (∀ d o', o' ≤ 20 → o' ≠ o → SRow Y s W N h d o' → SRow Y' s W N h d o') → tk_X6_readyFor_3 st post s a n (nI h) (nI o) (j + 1) Y' (nI k) := by
    intro j
    induction j with
    | zero =>
      intro k Y' hk hx h1 h2
      have : k = 10 := by omega
      subst this
      rw [tk_X6_readyFor_3]
      exact ⟨fun _ => hp Y' hx h1 h2, fun c => absurd (Int32.le_refl _) c⟩
    | succ j ih =>
      intro k Y' hk hx h1 h2
      rw [tk_X6_readyFor_3, show (10 : Int32) = nI 10 from rfl, nI_leI (by omega) (by omega)]
      refine ⟨fun c => by omega, fun _ => p_cOwed ?_⟩
      have e : decide ((0 : Int32) ≤ nI o ∧ nI o ≤ 20) = true := by
        apply decide_eq_true
        simp (disch := omega) only [i_nI, i_lit, i_le]
        omega
      rw [e]
      refine bI_el' (fun q => by cases q) (fun _ x5 e5 x6 e6 => ?_)
      rw [show (21 : Int32) = nI 21 from rfl, pk_mul, nI_add] at e5
      rw [show (2 : Int32) = nI 2 from rfl, pk_div (by omega) (by omega) (by omega)] at e6
      rw [e5, e6, nI_clamp (by omega)]
      have hw' := hw.mv (Y' := Y') (fun t => hx.at.2.1 a t) (fun t => hx.at.1 a ha t)
      have hn' := hn.mv (Y' := Y') (fun t => hx.at.1 n hns t)
      have e7 : nI k = nI (2 * (k / 2) + k % 2) := by congr 1; omega
      rw [e7]
      refine c_blindOf hn' ho (by omega) (by omega) ?_
      rw [← e7]
      refine c_hoursOf (by omega) (c_owedBehind hw' hn' (by omega) ho (by omega) ⟨vp_in_nI (by omega) (by omega), fun Y10 e10 => ?_⟩)
      have hx10 : SX Y s Y10 := hx.trans (by rw [e10]; exact SX.zero _ _ _)
      have hw10 := hw.mv (Y' := Y10) (fun t => hx10.at.2.1 a t) (fun t => hx10.at.1 a ha t)
      have hb1 : blB N (k / 2) (k % 2) o ≤ 1000 := blB_le ho
      have hm : ∀ h', shG W h' * blB N (k / 2) (k % 2) o ≤ 500 * 1000 := fun h' => Nat.mul_le_mul (shG_le hw.1 h') hb1
      have m0 := hm h
      have m1 := hm (h + 1)
      refine p_shipsAt hw10 (by omega) ⟨vp_in_nI (by omega) (by omega), fun Y12 e12 => ?_⟩
      rw [show nI h + (1 : Int32) = nI (h + 1) from nI_1 h]
      have hw12 : WayP Y12 a W := by
        rw [e12]
        exact hw10.mv (fun _ => rfl) (fun t => tA_obj _ _ ha)
      refine p_shipsAt hw12 (by omega) ⟨vp_in_nI (by omega) (by omega), fun Y14 e14 x15 e15 => ?_⟩
      rw [e15, show nI k + (1 : Int32) = nI (k + 1) from nI_1 k]
      have f0 : tA Y14 s 0 = upd (tA Y' s 0) (k * 21 + o) (nI ((h + hof (k / 2)) * 21 + owB W N h o (k / 2))) := by
        rw [e14, tA_other _ _ (by decide), e12, tA_other _ _ (by decide), e10, tA_same, nI_add, show (21 : Int32) = nI 21 from rfl, pk_mul, nI_add]
      have f1 : tA Y14 s 1 = upd (tA Y' s 1) (k * 21 + o) (nI (1000000 - shG W h * blB N (k / 2) (k % 2) o)) := by
        rw [e14, tA_other _ _ (by decide), e12, tA_same, pk_mul, show (1000000 : Int32) = nI 1000000 from rfl]
        unfold shG at m0 ⊢
        rw [pk_sub (by omega), e10, tA_other _ _ (by decide)]
      have f2 : tA Y14 s 2 = upd (tA Y' s 2) (k * 21 + o) (nI (1000000 - shG W (h + 1) * blB N (k / 2) (k % 2) o)) := by
        rw [e14, tA_same, pk_mul, show (1000000 : Int32) = nI 1000000 from rfl]
        unfold shG at m1 ⊢
        rw [pk_sub (by omega), e12, tA_other _ _ (by decide), e10, tA_other _ _ (by decide)]
      have hx14 : SX Y s Y14 := by
        refine hx.trans ⟨tA Y14 s 0, tA Y14 s 1, tA Y14 s 2, ?_⟩
        have g0 : tA Y10 s 0 = tA Y14 s 0 := by rw [e14, tA_other _ _ (by decide), e12, tA_other _ _ (by decide)]
        have g1 : tA Y12 s 1 = tA Y14 s 1 := by rw [e14, tA_other _ _ (by decide)]
        have k0 : Y10 = sF Y' s 0 (tA Y14 s 0) := by rw [← g0, e10, tA_same]
        have k1 : Y12 = sF Y10 s 1 (tA Y14 s 1) := by rw [← g1, e12, tA_same]
        have k2 : Y14 = sF Y12 s 2 (tA Y14 s 2) := sF_at e14
        rw [← k0, ← k1]
        exact k2
      have keep : ∀ d o', (d * 21 + o' ≠ k * 21 + o) → SRow Y' s W N h d o' → SRow Y14 s W N h d o' := by
        intro d o' hne ⟨r0, r1, r2⟩
        unfold SRow
        rw [f0, f1, f2, pk_un hne, pk_un hne, pk_un hne]
        exact ⟨r0, r1, r2⟩
      refine ih (k + 1) Y14 (by omega) hx14 (fun d hd => ?_) (fun d o' h1' h2' h3' => keep d o' (by omega) (h2 d o' h1' h2' h3'))
      by_cases c : d = k
      · subst c
        unfold SRow
        rw [f0, f1, f2, pk_us, pk_us, pk_us]
        exact ⟨rfl, rfl, rfl⟩
      · exact keep d o (by omega) (h1 d (by omega))
  exact ⟨11, key 10 0 Y rfl (SX.refl Y s) (fun d hd => by omega) (fun _ _ _ _ q => q)⟩
theorem c_ready {post : TY → Prop} (hw : WayP Y a W) (hn : NapP Y n N) (ha : a ≠ s) (hns : n ≠ s) {h : Nat} (hh : h ≤ 48) (hp : ∀ Y', SX Y s Y' → (∀ d o, d < 10 → o ≤ 20 → SRow Y' s W N h d o) → post Y') : tp_X6_ready st post Y s a n (nI h) := by
  have key : ∀ j k Y', k + j = 21 → SX Y s Y' → (∀ d o, d < 10 → o < k → SRow Y' s W N h d o) → tk_X6_ready_3 st post s a n (nI h) (j + 1) Y' (nI k) := by
    intro j
    induction j with
    | zero =>
      intro k Y' hk hx h1
      have : k = 21 := by omega
      subst this
      rw [tk_X6_ready_3]
      exact ⟨fun _ => hp Y' hx (fun d o q1 q2 => h1 d o q1 (by omega)), fun c => absurd (Int32.le_refl _) c⟩
    | succ j ih =>
      intro k Y' hk hx h1
      rw [tk_X6_ready_3, show (21 : Int32) = nI 21 from rfl, nI_leI (by omega) (by omega)]
      refine ⟨fun c => by omega, fun _ => ?_⟩
      refine c_readyFor (hw.mv (fun t => hx.at.2.1 a t) (fun t => hx.at.1 a ha t)) (hn.mv (fun t => hx.at.1 n hns t)) ha hns hh (by omega) (fun Y'' x2 r1 r2 x4 e4 => ?_)
      rw [e4, show nI k + (1 : Int32) = nI (k + 1) from nI_1 k]
      refine ih (k + 1) Y'' (by omega) (hx.trans x2) (fun d o q1 q2 => ?_)
      by_cases c : o = k
      · subst c
        exact r1 d q1
      · exact r2 d o (by omega) c (h1 d o q1 (by omega))
  exact ⟨22, key 21 0 Y rfl (SX.refl Y s) (fun d o _ q => by omega)⟩
theorem c_planeAt {post : Int32 → Prop} {b i : Nat} (hi : i < 1029) (hp : post (tA Y b 1 i)) : tp_X5_at st post Y b (nI i) := by
  unfold tp_X5_at
  rw [nI_leI (by omega) (by omega), nI_clamp (by omega)]
  refine ⟨fun c => absurd c (by rw [show (0 : Int32) = nI 0 from rfl, nI_ltI (by omega) (by omega)]; omega), fun _ => ⟨fun c => by omega, fun _ => ⟨vp_in_nI (by omega) (by omega), hp⟩⟩⟩
theorem c_planePut {post : TY → Prop} {b i : Nat} {v : Int32} (hi : i < 1029) (hp : post (sF Y b 1 (upd (tA Y b 1) i v))) : tp_X5_put st post Y b (nI i) v := by
  unfold tp_X5_put
  rw [nI_leI (by omega) (by omega), nI_clamp (by omega)]
  refine ⟨fun c => absurd c (by rw [show (0 : Int32) = nI 0 from rfl, nI_ltI (by omega) (by omega)]; omega), fun _ => ⟨fun c => by omega, fun _ => ⟨vp_in_nI (by omega) (by omega), fun Y3 e => by rw [e]; exact hp⟩⟩⟩
theorem c_safeBy {post : Int32 → Prop} (hw : wfW W) {r h d o v : Nat} (hd : d < 10) (ho : o ≤ 20) (hh : h + hof (d / 2) ≤ 48) (hr : SRow Y s W N h d o) (hv : tA Y r 1 ((h + hof (d / 2)) * 21 + owB W N h o (d / 2)) = nI v) (hv2 : v ≤ 1000000) (hp : post (nI (les (if d / 2 = 3 then les v (shG W (h + 1) * blB N (d / 2) (d % 2) o) else v) (shG W h * blB N (d / 2) (d % 2) o)))) : tp_X6_safeBy st post Y s (nI d) (nI o) r := by
  have ow := owB_le (W := W) (N := N) (h := h) (t := d / 2) ho
  have hb1 : blB N (d / 2) (d % 2) o ≤ 1000 := blB_le ho
  have hm : ∀ h', shG W h' * blB N (d / 2) (d % 2) o ≤ 500 * 1000 := fun h' => Nat.mul_le_mul (shG_le hw h') hb1
  have m0 := hm h
  have m1 := hm (h + 1)
  unfold tp_X6_safeBy
  intro x ex
  rw [show (21 : Int32) = nI 21 from rfl, pk_mul, nI_add] at ex
  rw [ex, nI_ltI (by omega) (by omega), nI_clamp (by omega)]
  refine ⟨fun c => absurd c (by rw [show (0 : Int32) = nI 0 from rfl, nI_ltI (by omega) (by omega)]; omega), fun _ => ⟨fun _ => ⟨vp_in_nI (by omega) (by omega), ?_⟩, fun c => by omega⟩⟩
  rw [hr.1]
  refine c_planeAt (by omega) ?_
  rw [hv, hr.2.2]
  intro x5 e5
  rw [nI_l (by omega)] at e5
  have fin : ∀ u : Nat, u ≤ 1000000 → post (nI (les u (shG W h * blB N (d / 2) (d % 2) o))) → tk_X6_safeBy_63 st post Y s (nI d) (nI o) r (nI (d * 21 + o)) (lN u) := by
    intro u hu hpu
    unfold tk_X6_safeBy_63
    refine ⟨vp_in_nI (by omega) (by omega), ?_⟩
    have hmul : u * (1000000 - shG W h * blB N (d / 2) (d % 2) o) ≤ 1000000 * 1000000 := Nat.mul_le_mul hu (Nat.sub_le _ _)
    rw [nI_clamp (by omega), hr.2.1, nI_l (by omega), lN_mul, show (1000000 : Int64) = lN 1000000 from rfl, pk_lDiv (by omega) (by omega) (by omega), lN_i]
    exact hpu
  rw [show (2 : Int32) = nI 2 from rfl, pk_div (by omega) (by omega) (by omega), show (3 : Int32) = nI 3 from rfl, eqn (by omega) (by omega), e5]
  refine ⟨fun c => ?_, fun c => ⟨vp_in_nI (by omega) (by omega), fun x7 e7 => ?_⟩⟩
  · rw [if_neg c] at hp
    exact fin v hv2 hp
  · rw [if_pos c] at hp
    have hmul : v * (1000000 - shG W (h + 1) * blB N (d / 2) (d % 2) o) ≤ 1000000 * 1000000 := Nat.mul_le_mul hv2 (Nat.sub_le _ _)
    rw [nI_l (by omega), lN_mul, show (1000000 : Int64) = lN 1000000 from rfl, pk_lDiv (by omega) (by omega) (by omega)] at e7
    rw [e7]
    exact fin _ (les_le hv2) hp
end SP
