-- THE REFERENCE LAYS ITS HOURS
def MLP (Y : TY) (m w : Nat) (W : WD) : Prop := tA Y m 3 w = nI W.1 ∧ ∀ k, k < W.1 → tA Y m 0 (8 * w + k) = nI (W.2.1 k) ∧ tA Y m 1 (8 * w + k) = nI (W.2.2.1 k) ∧ tA Y m 2 (8 * w + k) = nI (W.2.2.2 k)
theorem at_leg {lh f : Nat → Nat} : ∀ {n k h : Nat}, k < n → hrF lh k ≤ h → h < hrF lh (k + 1) → atF lh f n h = f k
  | 0, k, h, hk, _, _ => absurd hk (Nat.not_lt_zero _)
  | n + 1, k, h, hk, h1, h2 => by
    show (if h < hrF lh n then atF lh f n h else f n) = f k
    by_cases e : k = n
    · subst e
      rw [if_neg (by omega)]
    · have := hrF_le (f := lh) (show k + 1 ≤ n by omega)
      rw [if_pos (by omega)]
      exact at_leg (by omega) h1 h2
def scH (t : Nat) : Prop := t = 5 ∨ t = 6
def scL (t : Nat) : Prop := t = 4 ∨ t = 5 ∨ t = 6 ∨ t = 20
theorem MX.ml {m : Nat} {S : Nat → Prop} {Y Y' : TY} {w : Nat} {W : WD} (h : MX m S Y Y') (hs : ∀ t, t ≤ 3 → ¬ S t) (hm : MLP Y m w W) : MLP Y' m w W := by
  unfold MLP at hm ⊢
  simp only [(h.2.1 0 (hs 0 (by omega))).2, (h.2.1 1 (hs 1 (by omega))).2, (h.2.1 2 (hs 2 (by omega))).2, (h.2.1 3 (hs 3 (by omega))).2]
  exact hm
/-- what laying the hours of a way leaves -/
def LXh (Y : TY) (m w : Nat) (Y' : TY) : Prop := MX m scL Y Y' ∧ (∀ i, i ≠ w → tA Y' m 4 i = tA Y m 4 i ∧ tA Y' m 20 i = tA Y m 20 i) ∧ (∀ i, (i < 48 * w ∨ 48 * w + 48 ≤ i) → tA Y' m 5 i = tA Y m 5 i ∧ tA Y' m 6 i = tA Y m 6 i) ∧ tA Y' m 20 w = 0
theorem LXh.other {Y Y' : TY} {m w w2 : Nat} {W2 : WD} (h : LXh Y m w Y') (hw : w ≤ 1) (hw2 : w2 ≤ 1) (hne : w2 ≠ w) (h48 : hrs W2 ≤ 48) (hm : MWP Y m w2 W2) : MWP Y' m w2 W2 := by
  obtain ⟨mx, h4, h5, h20⟩ := h
  have e : ∀ t, t ≤ 3 → tA Y' m t = tA Y m t := fun t ht => (mx.2.1 t (fun q => by unfold scL at q; omega)).2
  refine ⟨by rw [e 3 (by omega)]; exact hm.1, by rw [(h4 w2 hne).1]; exact hm.2.1, fun k hk => by rw [e 0 (by omega), e 1 (by omega), e 2 (by omega)]; exact hm.2.2.1 k hk, fun i hi => ?_⟩
  obtain ⟨q1, q2⟩ := h5 (48 * w2 + i) (by omega)
  rw [q1, q2]
  exact hm.2.2.2 i hi
section LH
variable {st : TS} {Y : TY} {m w : Nat} {W : WD} {N : ND}
theorem m_layHours {post : TY → Prop} (hw : wfW W) (hl : MLP Y m w W) (hw1 : w ≤ 1) (hp : ∀ Y', LXh Y m w Y' → MWP Y' m w W → post Y') : tp_X10_layHours st post Y m (nI w) := by
  have h48 := hw.2.1
  have h8 := hw.1
  have hin : vp_in (nI w) 2 := vp_in_nI (by omega) (by omega)
  let Inv : TY → Nat → Prop := fun Yc H => MX m scH Y Yc ∧ (∀ i, (i < 48 * w ∨ 48 * w + 48 ≤ i) → tA Yc m 5 i = tA Y m 5 i ∧ tA Yc m 6 i = tA Y m 6 i) ∧ ∀ h, h < H → tA Yc m 5 (48 * w + h) = nI (shp W h) ∧ tA Yc m 6 (48 * w + h) = nI (sql W h)
  have inner : ∀ (r4 : TY → Int32 → Int32 → Prop) (k : Nat), k < W.1 → (∀ Yd, Inv Yd (hrF W.2.1 (k + 1)) → r4 Yd (nI (hrF W.2.1 (k + 1))) (nI (k + 1))) → ∀ j e Yc, e + j = W.2.1 k → Inv Yc (hrF W.2.1 k + e) → tk_X10_layHours_17 st post m (nI w) r4 (j + 1) Yc (nI (hrF W.2.1 k + e)) (nI k) (nI e) := by
    intro r4 k hk hr j
    have hle : hrF W.2.1 (k + 1) ≤ 48 := Nat.le_trans (hrF_le (f := W.2.1) (show k + 1 ≤ W.1 by omega)) h48
    have hs1 : hrF W.2.1 (k + 1) = hrF W.2.1 k + W.2.1 k := rfl
    have h24 := (hw.2.2 k hk).2.1
    have e8 : (8 : Int32) * nI w + nI k = nI (8 * w + k) := by rw [show (8 : Int32) = nI 8 from rfl, ix 8 (by omega) hw1 (by omega)]
    have hv8 : vp_in (nI (8 * w + k)) 16 := vp_in_nI (by omega) (by omega)
    induction j with
    | zero =>
      intro e Yc he hi
      have hlc := hi.1.ml (fun t h1 q => by unfold scH at q; omega) hl
      obtain ⟨l0, l1, l2⟩ := hlc.2 k hk
      rw [tk_X10_layHours_17, e8, nI_clamp (by omega), l0, nI_leI (by omega) (by omega)]
      refine ⟨hv8, fun _ x ex => ?_, fun q => by omega⟩
      rw [ex, show nI k + (1 : Int32) = nI (k + 1) from nI_1 k]
      have e3 : hrF W.2.1 k + e = hrF W.2.1 (k + 1) := by omega
      rw [e3] at hi ⊢
      exact hr Yc hi
    | succ j ih =>
      intro e Yc he hi
      have hlc := hi.1.ml (fun t h1 q => by unfold scH at q; omega) hl
      obtain ⟨l0, l1, l2⟩ := hlc.2 k hk
      have e48 : (48 : Int32) * nI w + nI (hrF W.2.1 k + e) = nI (48 * w + (hrF W.2.1 k + e)) := by rw [show (48 : Int32) = nI 48 from rfl, ix 48 (by omega) hw1 (by omega)]
      have hv48 : vp_in (nI (48 * w + (hrF W.2.1 k + e))) 96 := vp_in_nI (by omega) (by omega)
      rw [tk_X10_layHours_17, e8, e48, nI_clamp (by omega), nI_clamp (by omega), l0, l1, nI_leI (by omega) (by omega)]
      refine ⟨hv8, fun q => by omega, fun _ => ⟨hv8, hv48, fun Y8 e8' => ⟨hv8, hv48, fun Y9 e9 x10 e10 x11 e11 => ?_⟩⟩⟩
      have l2' : tA Y8 m 2 (8 * w + k) = nI (W.2.2.2 k) := by rw [e8', tA_other _ _ (by decide)]; exact l2
      rw [l2'] at e9
      rw [e10, e11, show nI (hrF W.2.1 k + e) + (1 : Int32) = nI (hrF W.2.1 k + (e + 1)) from nI_1 _, show nI e + (1 : Int32) = nI (e + 1) from nI_1 e]
      have f5 : tA Y9 m 5 = upd (tA Yc m 5) (48 * w + (hrF W.2.1 k + e)) (nI (W.2.2.1 k)) := by rw [e9, tA_other _ _ (by decide), e8', tA_same]
      have f6 : tA Y9 m 6 = upd (tA Yc m 6) (48 * w + (hrF W.2.1 k + e)) (nI (W.2.2.2 k)) := by rw [e9, tA_same, e8', tA_other _ _ (by decide)]
      refine ih (e + 1) Y9 (by omega) ⟨hi.1.trans ?_, fun i hi2 => ?_, fun h hh => ?_⟩
      · rw [e9, e8']
        exact (MX.sF (S := scH) (Or.inl rfl)).trans (MX.sF (S := scH) (Or.inr rfl))
      · rw [f5, f6, pk_un (by omega), pk_un (by omega)]
        exact hi.2.1 i hi2
      · rw [f5, f6]
        by_cases c : h = hrF W.2.1 k + e
        · subst c
          rw [pk_us, pk_us]
          have s1 : shp W (hrF W.2.1 k + e) = W.2.2.1 k := at_leg hk (by omega) (by omega)
          have s2 : sql W (hrF W.2.1 k + e) = W.2.2.2 k := at_leg hk (by omega) (by omega)
          rw [s1, s2]
          exact ⟨rfl, rfl⟩
        · rw [pk_un (by omega), pk_un (by omega)]
          exact hi.2.2 h (by omega)
  have outer : ∀ j k Yc, k + j = W.1 → Inv Yc (hrF W.2.1 k) → tk_X10_layHours_4 st post m (nI w) (j + 1) Yc (nI (hrF W.2.1 k)) (nI k) := by
    intro j
    induction j with
    | zero =>
      intro k Yc hk hi
      have : k = W.1 := by omega
      subst this
      have hlc := hi.1.ml (fun t h1 q => by unfold scH at q; omega) hl
      rw [tk_X10_layHours_4, nI_clamp (by omega), hlc.1]
      refine ⟨hin, fun _ => ⟨hin, fun Y3 e3 => ⟨hin, fun Y4 e4 => ?_⟩⟩, fun q => absurd (Int32.le_refl _) q⟩
      have mx4 : MX m scL Y Y4 := by
        refine (hi.1.mono (fun t q => by unfold scH at q; unfold scL; omega)).trans ?_
        rw [e4, e3]
        exact (MX.sF (S := scL) (Or.inl rfl)).trans (MX.sF (S := scL) (Or.inr (Or.inr (Or.inr rfl))))
      have f4 : tA Y4 m 4 = upd (tA Y m 4) w (nI (hrs W)) := by
        rw [e4, tA_other _ _ (by decide), e3, tA_same, (hi.1.2.1 4 (by unfold scH; omega)).2]
        rfl
      have f20 : tA Y4 m 20 = upd (tA Y m 20) w 0 := by
        rw [e4, tA_same, e3, tA_other _ _ (by decide), (hi.1.2.1 20 (by unfold scH; omega)).2]
        rfl
      have f5 : tA Y4 m 5 = tA Yc m 5 := by rw [e4, tA_other _ _ (by decide), e3, tA_other _ _ (by decide)]
      have f6 : tA Y4 m 6 = tA Yc m 6 := by rw [e4, tA_other _ _ (by decide), e3, tA_other _ _ (by decide)]
      have hl4 := mx4.ml (fun t h1 q => by unfold scL at q; omega) hl
      refine hp Y4 ⟨mx4, fun i hi2 => ?_, fun i hi2 => ?_, ?_⟩ ⟨hl4.1, ?_, hl4.2, fun h hh => ?_⟩
      · rw [f4, f20, pk_un hi2, pk_un hi2]
        exact ⟨rfl, rfl⟩
      · rw [f5, f6]
        exact hi.2.1 i hi2
      · rw [f20, pk_us]
      · rw [f4, pk_us]
      · rw [f5, f6]
        exact hi.2.2 h hh
    | succ j ih =>
      intro k Yc hk hi
      have hlc := hi.1.ml (fun t h1 q => by unfold scH at q; omega) hl
      rw [tk_X10_layHours_4, nI_clamp (by omega), hlc.1, nI_leI (by omega) (by omega)]
      refine ⟨hin, fun q => by omega, fun _ => ⟨W.2.1 k + 1, ?_⟩⟩
      exact inner _ k (by omega) (fun Yd hd => ih (k + 1) Yd (by omega) hd) (W.2.1 k) 0 Yc (by omega) hi
  exact ⟨W.1 + 1, outer W.1 0 Y (by omega) ⟨MX.refl _ _ _, fun _ _ => ⟨rfl, rfl⟩, fun h hh => absurd hh (Nat.not_lt_zero _)⟩⟩
end LH
-- THE REFERENCE'S LOGGED
def BXo (Y : TY) (m w : Nat) (W : WD) (N : ND) (Y' : TY) : Prop := Y' = Y ∨ BX Y m w W N Y'
theorem BX.trans {Y Y' Y'' : TY} {m w : Nat} {W : WD} {N : ND} (h1 : BX Y m w W N Y') (h2 : BX Y' m w W N Y'') : BX Y m w W N Y'' := by
  obtain ⟨g, g2, rfl, a1, a2, a3, a4⟩ := h1
  obtain ⟨f, f2, rfl, b1, b2, b3, b4⟩ := h2
  rw [tA_same] at b1
  rw [tA_other _ _ (by decide), tA_same] at b3
  refine ⟨f, f2, ?_, fun i hi => (b1 i hi).trans (a1 i hi), b2, fun i hi => (b3 i hi).trans (a3 i hi), b4⟩
  rw [sF_comm (sF Y m 20 g2) m (show (19 : Nat) ≠ 20 by decide), sF_sF, sF_sF]
theorem BXo.trans {Y Y' Y'' : TY} {m w : Nat} {W : WD} {N : ND} (h1 : BXo Y m w W N Y') (h2 : BX Y' m w W N Y'') : BX Y m w W N Y'' := by
  rcases h1 with rfl | h1
  · exact h2
  · exact h1.trans h2
section LG
variable {st : TS} {Y : TY} {m w : Nat} {W : WD} {N : ND}
theorem m_logged {post : Int32 → TY → Prop} {v2 v3 : Int32} (hw : wfW W) (hm : MWP Y m w W) (hN : wfN N) (hn : MNP Y m N) (hw1 : w ≤ 1) (hL : tA Y m 20 w = 0 ∨ (tA Y m 20 w = 1 ∧ Laid Y m w W N)) {o b : Nat} {i : Int32} (ho : o ≤ 20) (hb : b ≤ 24) (hp : ∀ Y', BXo Y m w W N Y' → post (lgF W N i 53 0 0 o b 4) Y') : ∃ n, tk_X10_logged_41 st post m (nI w) v2 v3 i n Y (0 : Int32) (nI o) (nI b) (4 : Int32) (0 : Int32) := by
  have h48 := hw.2.1
  have hin : vp_in (nI w) 2 := vp_in_nI (by omega) (by omega)
  have hpz := hp
  clear hp
  have key : ∀ j k h o b l Yc, k + j ≤ 53 → hrs W - h + l < j → h ≤ hrs W → o ≤ 20 → b ≤ 24 → l ≤ 4 → BXo Y m w W N Yc → (∀ Y', BXo Y m w W N Y' → post (lgF W N i j k h o b l) Y') → tk_X10_logged_41 st post m (nI w) v2 v3 i j Yc (nI h) (nI o) (nI b) (nI l) (nI k) := by
    intro j
    induction j with
    | zero => intro k h o b l Yc _ q; omega
    | succ j ih =>
      intro k h o b l Yc hk hj hh ho hb hl bx hp
      have hmc : MWP Yc m w W := by
        rcases bx with rfl | bx
        · exact hm
        · exact bx.m hm
      have hnc : MNP Yc m N := by
        rcases bx with rfl | bx
        · exact hn
        · exact bx.n hn
      have hLc : tA Yc m 20 w = 0 ∨ (tA Yc m 20 w = 1 ∧ Laid Yc m w W N) := by
        rcases bx with rfl | bx
        · exact hL
        · exact Or.inr bx.laid
      rw [tk_X10_logged_41, nI_clamp (by omega), hmc.2.1, nI_leI (by omega) (by omega)]
      unfold lgF at hp
      refine ⟨hin, fun ce => ?_, fun ce => ?_⟩
      · have hp := hp Yc bx
        rw [if_pos ce] at hp
        refine ⟨fun q => ?_, fun q => ?_⟩
        · rw [if_neg q] at hp
          exact hp
        · rw [if_pos q] at hp
          exact hp
      · refine m_doesOf hw hmc hN hnc hw1 hLc (by omega) ho hb hl (fun Yd bxd => ?_)
        have bxe : BX Y m w W N Yd := bx.trans bxd
        obtain ⟨s1, s2, s3, s4⟩ := lg_step (N := N) (l := l) (o := o) (b := b) (show h < hrs W by omega)
        obtain ⟨d1, d2⟩ := dsD_lt W N (show h < hrs W by omega) l o b
        have hpo : ∀ Y', BXo Y m w W N Y' → post (if nI k = i then cdD (dsD W N h l o b) else lgF W N i j (k + 1) (h + hof (dsD W N h l o b / 2)) (owB W N h o (dsD W N h l o b / 2)) (b - bat (dsD W N h l o b)) (lyF l (dsD W N h l o b))) Y' := by
          intro Y' q
          have := hp Y' q
          rw [if_neg ce] at this
          exact this
        clear hp
        generalize dsD W N h l o b = d at d1 d2 s1 s2 s3 s4 hpo ⊢
        have ed : cdD d = nI (d / 2 + 10 * (d % 2)) := by unfold cdD; rw [if_pos d1]
        have hmd := bxe.m hm
        have hnd := bxe.n hn
        refine ⟨fun q => ?_, fun q => ?_⟩
        · have hpo := fun Y' z => (by have := hpo Y' z; rw [if_neg q] at this; exact this : post (lgF W N i j (k + 1) (h + hof (d / 2)) (owB W N h o (d / 2)) (b - bat d) (lyF l d)) Y')
          intro x13 e13 x14 e14
          rw [ed, show (10 : Int32) = nI 10 from rfl, pk_rem (by omega) (by omega) (by omega), show (d / 2 + 10 * (d % 2)) % 10 = d / 2 by omega] at e14
          rw [e13, e14, show nI k + (1 : Int32) = nI (k + 1) from nI_1 k, ed, show (10 : Int32) = nI 10 from rfl, nI_leI (by omega) (by omega)]
          clear e13 e14 x13 x14
          have e3 : (nI (d / 2) = (3 : Int32)) = (d / 2 = 3) := by rw [show (3 : Int32) = nI 3 from rfl, eqn (by omega) (by omega)]
          have e4 : (nI (d / 2) = (4 : Int32)) = (d / 2 = 4) := by rw [show (4 : Int32) = nI 4 from rfl, eqn (by omega) (by omega)]
          rw [e3]
          have k111 : ∀ z, z = bat d → tk_X10_logged_111 st post m (nI w) v2 v3 i (tk_X10_logged_41 st post m (nI w) v2 v3 i j) Yd (nI h) (nI o) (nI l) (nI (k + 1)) (nI (d / 2)) (nI z) (nI b) := by
            intro z ez
            unfold tk_X10_logged_111
            intro x17 e17
            rw [ez, pk_sub s3] at e17
            rw [e17]
            refine m_owedBehind hw hmd hN hnd hw1 (by omega) ho (by omega) ?_
            have k140 : ∀ e, e ≤ l → l - e = lyF l d → tk_X10_logged_140 st post m (nI w) v2 v3 i (tk_X10_logged_41 st post m (nI w) v2 v3 i j) Yd (nI h) (nI (owB W N h o (d / 2))) (nI (b - bat d)) (nI (k + 1)) (nI (d / 2)) (nI e) (nI l) := by
              intro e he el
              unfold tk_X10_logged_140
              intro x20 e20
              rw [pk_sub he, el] at e20
              rw [e20, e3, e4]
              have k166 : ∀ z, z = hof (d / 2) → tk_X10_logged_166 st post m (nI w) v2 v3 i (tk_X10_logged_41 st post m (nI w) v2 v3 i j) Yd (nI (owB W N h o (d / 2))) (nI (b - bat d)) (nI (lyF l d)) (nI (k + 1)) (nI z) (nI h) := by
                intro z ez
                unfold tk_X10_logged_166
                intro x23 e23
                rw [ez, nI_add] at e23
                rw [e23]
                exact ih (k + 1) _ _ _ _ Yd (by omega) (by omega) s1 (owB_le ho) (by omega) (by omega) (Or.inr bxe) hpo
              exact ⟨fun c4 => ⟨fun c3 => k166 1 (by simp [hof, c3, c4]), fun c3 => k166 2 (by simp [hof, c3])⟩, fun c4 => k166 0 (by simp [hof, c4])⟩
            rw [e4]
            refine ⟨fun c4 => k140 0 (Nat.zero_le _) (by simp [lyF, c4]), fun c4 => k140 1 ?_ (by simp [lyF, c4])⟩
            exact (fe_let d2).2.2.2 c4
          refine ⟨fun c => ⟨fun c3 => k111 1 ?_, fun c3 => k111 2 ?_⟩, fun c => k111 0 ?_⟩
          · unfold bat
            rw [if_neg (by omega), if_neg c3]
          · unfold bat
            rw [if_neg (by omega), if_pos c3]
          · unfold bat
            rw [if_pos (by omega)]
        · have := hpo Yd (Or.inr bxe)
          rw [if_pos q] at this
          exact this
  exact ⟨53, key 53 0 0 o b 4 Y (by omega) (by omega) (Nat.zero_le _) ho hb (by omega) (Or.inl rfl) hpz⟩
end LG
