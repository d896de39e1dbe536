theorem sF_id (Y : TY) (a s : Nat) : sF Y a s (tA Y a s) = Y := by
  obtain ⟨y1, y2, y3, y4, y5⟩ := Y
  unfold sF tA
  simp only
  congr 3
  funext b
  by_cases h : b = a
  · subst h
    simp only [va_up, if_true]
    funext t
    by_cases h2 : t = s
    · simp [va_up, h2]
    · simp [va_up, h2]
  · simp [va_up, h]
/-- the entry of the reference's table at this place is the best -/
def LDn (W : WD) (N : ND) (w : Nat) (g : Nat → Int32) (h l o b : Nat) : Prop := g (atI w h o b l) = nI (V W N h l o b)
def LH (W : WD) (N : ND) (w : Nat) (g : Nat → Int32) (j : Nat) : Prop := ∀ h l o b, j ≤ h → h ≤ hrs W → l ≤ 4 → o ≤ 20 → b ≤ 24 → LDn W N w g h l o b
def LL (W : WD) (N : ND) (w : Nat) (g : Nat → Int32) (h l : Nat) : Prop := LH W N w g (h + 1) ∧ ∀ l' o b, l' < l → o ≤ 20 → b ≤ 24 → LDn W N w g h l' o b
def LO (W : WD) (N : ND) (w : Nat) (g : Nat → Int32) (h l o : Nat) : Prop := LL W N w g h l ∧ ∀ o' b, o' < o → b ≤ 24 → LDn W N w g h l o' b
def LB (W : WD) (N : ND) (w : Nat) (g : Nat → Int32) (h l o b : Nat) : Prop := LO W N w g h l o ∧ ∀ b', b' < b → LDn W N w g h l o b'
/-- nothing of the other way's table has changed -/
def LX (w : Nat) (g0 g : Nat → Int32) : Prop := ∀ i, (i < w * 128625 ∨ w * 128625 + 128625 ≤ i) → g i = g0 i
theorem LX_up {w : Nat} {g0 g : Nat → Int32} {h o b l : Nat} {x : Int32} (hx : LX w g0 g) (hh : h ≤ 48) (ho : o ≤ 20) (hb : b ≤ 24) (hl : l ≤ 4) : LX w g0 (upd g (atI w h o b l) x) := by
  intro i hi
  rw [pk_un (by unfold atI; omega)]
  exact hx i hi
theorem LDn_up {W : WD} {N : ND} {w h l o b h' l' o' b' : Nat} {g : Nat → Int32} {x : Int32} (hd : LDn W N w g h' l' o' b') (h1 : h' ≤ 48) (h2 : o' ≤ 20) (h3 : b' ≤ 24) (h4 : l' ≤ 4) (g1 : h ≤ 48) (g2 : o ≤ 20) (g3 : b ≤ 24) (g4 : l ≤ 4) (hne : ¬ (h' = h ∧ l' = l ∧ o' = o ∧ b' = b)) : LDn W N w (upd g (atI w h o b l) x) h' l' o' b' := by
  unfold LDn at hd ⊢
  rw [pk_un (by unfold atI; omega)]
  exact hd
theorem LB_up {W : WD} {N : ND} {w h l o b : Nat} {g : Nat → Int32} (h48 : hrs W ≤ 48) (hh : h ≤ hrs W) (ho : o ≤ 20) (hb : b ≤ 24) (hl : l ≤ 4) (hd : LB W N w g h l o b) : LB W N w (upd g (atI w h o b l) (nI (V W N h l o b))) h l o (b + 1) := by
  obtain ⟨⟨⟨d1, d2⟩, d3⟩, d4⟩ := hd
  refine ⟨⟨⟨fun h' l' o' b' q1 q2 q3 q4 q5 => ?_, fun l' o' b' q1 q2 q3 => ?_⟩, fun o' b' q1 q2 => ?_⟩, fun b' q1 => ?_⟩
  · exact LDn_up (d1 h' l' o' b' q1 q2 q3 q4 q5) (by omega) q4 q5 q3 (by omega) ho hb hl (by omega)
  · exact LDn_up (d2 l' o' b' q1 q2 q3) (by omega) q2 q3 (by omega) (by omega) ho hb hl (by omega)
  · exact LDn_up (d3 o' b' q1 q2) (by omega) (by omega) q2 hl (by omega) ho hb hl (by omega)
  · by_cases c : b' = b
    · subst c
      unfold LDn
      rw [pk_us]
    · exact LDn_up (d4 b' (by omega)) (by omega) ho (by omega) hl (by omega) ho hb hl (by omega)
def mk9 (W : WD) (N : ND) (h l o b k : Nat) : Nat := mx (fe W h b l) (vV W N h l o b) (dk k)
theorem fe_1 (W : WD) (h b l : Nat) : fe W h b l 1 = false := by simp [fe]
theorem mk9_s (W : WD) (N : ND) (h l o b k : Nat) : mk9 W N h l o b (k + 1) = if fe W h b l (dk k) = true ∧ mk9 W N h l o b k < vV W N h l o b (dk k) then vV W N h l o b (dk k) else mk9 W N h l o b k := by
  unfold mk9
  by_cases c : k = 0
  · subst c
    show mx _ _ 2 = if fe W h b l 0 = true ∧ mx (fe W h b l) (vV W N h l o b) 0 < vV W N h l o b 0 then _ else mx _ _ 0
    have : mx (fe W h b l) (vV W N h l o b) 2 = mx (fe W h b l) (vV W N h l o b) 1 := by
      show (if fe W h b l 1 = true ∧ _ then _ else _) = _
      rw [fe_1]
      simp
    rw [this]
    rfl
  · have e1 : dk (k + 1) = dk k + 1 := by simp [dk, c]
    rw [e1]
    rfl
section LZ
variable {st : TS} {post : TY → Prop} {Y : TY} {m w : Nat} {W : WD} {N : ND}
theorem lay_76 (hw : wfW W) (hm : MWP Y m w W) (hN : wfN N) (hn : MNP Y m N) (hw1 : w ≤ 1) {r24 : TY → Int32 → Prop} {r30 : TY → Int32 → Int32 → Prop} {r38 : TY → Int32 → Int32 → Int32 → Prop} {r48 : TY → Int32 → Int32 → Int32 → Int32 → Prop} {h l o b : Nat} {g : Nat → Int32} (hh : h < hrs W) (ho : o ≤ 20) (hb : b ≤ 24) (hl : l ≤ 4) (hd : LB W N w g h l o b)
    (hc : tk_X10_lay_145 st post m (nI w) r24 r30 r38 r48 (sF Y m 19 g) (nI h) (nI l) (nI o) (nI b) (nI (V W N h l o b))) : ∀ j k, k + j = 9 → tk_X10_lay_76 st post m (nI w) r24 r30 r38 r48 (j + 1) (sF Y m 19 g) (nI h) (nI l) (nI o) (nI b) (nI (mk9 W N h l o b k)) (nI k) := by
  have h48 := hw.2.1
  intro j
  induction j with
  | zero =>
    intro k hk
    have : k = 9 := by omega
    subst this
    rw [tk_X10_lay_76]
    refine ⟨fun _ => ?_, fun c => absurd (Int32.le_refl _) c⟩
    have e : mk9 W N h l o b 9 = V W N h l o b := (V_eq W N hh l o b).symm
    rw [e]
    exact hc
  | succ j ih =>
    intro k hk
    rw [tk_X10_lay_76]
    have hm' : MWP (sF Y m 19 g) m w W := MWP_F (by decide) hm
    have hn' : MNP (sF Y m 19 g) m N := MNP_F (by decide) hn
    rw [show (9 : Int32) = nI 9 from rfl, nI_leI (by omega) (by omega), nI_clamp (by omega), hm'.2.1, nI_leI (by omega) (by omega)]
    refine ⟨fun c => by omega, fun _ => ⟨vp_in_nI (by omega) (by omega), fun c => by omega, fun _ => ?_⟩⟩
    refine m_tried (by omega) ?_
    have hdk : dk k ≤ 9 ∧ dk k ≠ 1 := by unfold dk; split <;> omega
    have e1 : nI (dk k / 2 + 10 * (dk k % 2)) / (10 : Int32) = nI (dk k % 2) := by
      rw [show (10 : Int32) = nI 10 from rfl, pk_div (by omega) (by omega) (by omega)]
      congr 1
      omega
    have e2 : nI (dk k / 2 + 10 * (dk k % 2)) - nI (dk k % 2) * (10 : Int32) = nI (dk k / 2) := by
      rw [show (10 : Int32) = nI 10 from rfl, pk_mul, pk_sub (by omega)]
      congr 1
      omega
    have e3 : 2 * (dk k / 2) + dk k % 2 = dk k := by omega
    rw [e1, e2]
    have hB : ∀ h' l' o' b', o' ≤ 20 → b' ≤ 24 → l' ≤ 4 → h' ≤ hrs W → (h < h' ∨ (h' = h ∧ l' < l)) → tA (sF Y m 19 g) m 19 (atI w h' o' b' l') = nI (V W N h' l' o' b') := by
      intro h' l' o' b' q1 q2 q3 q4 q5
      rw [tA_same]
      rcases q5 with q5 | ⟨q5, q6⟩
      · exact hd.1.1.1 h' l' o' b' q5 q4 q3 q1 q2
      · subst q5
        exact hd.1.1.2 l' o' b' q6 q1 q2
    refine m_valueOf hw hm' hN hn' hw1 (by omega) ho hb hl (by omega) (by omega) (by omega) hB ?_
    rw [e3]
    have hmk : mk9 W N h l o b k ≤ 1000000 := mx_le (fun d _ _ => les_le (by split <;> first | exact les_le (V_le _ _ _ _ _ _) | exact V_le _ _ _ _ _ _))
    have hvv : vV W N h l o b (dk k) ≤ 1000000 := les_le (by split <;> first | exact les_le (V_le _ _ _ _ _ _) | exact V_le _ _ _ _ _ _)
    have ih' := ih (k + 1) (by omega)
    rw [mk9_s] at ih'
    have stp : ∀ v, nI (if fe W h b l (dk k) = true ∧ mk9 W N h l o b k < vV W N h l o b (dk k) then vV W N h l o b (dk k) else mk9 W N h l o b k) = v → tk_X10_lay_137 st post m (nI w) r24 r30 r38 r48 (tk_X10_lay_76 st post m (nI w) r24 r30 r38 r48 (j + 1)) (sF Y m 19 g) (nI h) (nI l) (nI o) (nI b) (nI k) v := by
      intro v ev
      unfold tk_X10_lay_137
      intro x ex
      rw [show nI k + (1 : Int32) = nI (k + 1) from nI_1 k] at ex
      rw [ex, ← ev]
      exact ih'
    by_cases cf : fe W h b l (dk k) = true
    · rw [if_pos cf, nI_leI (by omega) (by omega)]
      refine ⟨fun c => stp _ ?_, fun c => stp _ ?_⟩
      · rw [if_neg (fun q => by omega)]
      · rw [if_pos ⟨cf, by omega⟩]
    · rw [if_neg cf]
      refine ⟨fun _ => stp _ ?_, fun c => ?_⟩
      · rw [if_neg (fun q => cf q.1)]
      · refine absurd ?_ c
        simp (disch := omega) only [i_nI, i_lit, i_neg, i_le]
        omega
theorem lay_145 {r24 : TY → Int32 → Prop} {r30 : TY → Int32 → Int32 → Prop} {r38 : TY → Int32 → Int32 → Int32 → Prop} {r48 : TY → Int32 → Int32 → Int32 → Int32 → Prop} {h l o b : Nat} {g : Nat → Int32} {v : Int32} (hw1 : w ≤ 1) (hh : h ≤ 48) (ho : o ≤ 20) (hb : b ≤ 24) (hl : l ≤ 4)
    (hc : r48 (sF Y m 19 (upd g (atI w h o b l) v)) (nI h) (nI l) (nI o) (nI (b + 1))) : tk_X10_lay_145 st post m (nI w) r24 r30 r38 r48 (sF Y m 19 g) (nI h) (nI l) (nI o) (nI b) v := by
  unfold tk_X10_lay_145
  refine m_at ⟨vp_in_nI (by unfold atI; omega) (by omega), fun Y24 eY x ex => ?_⟩
  rw [nI_clamp (by unfold atI; omega), tA_same, sF_sF] at eY
  rw [show nI b + (1 : Int32) = nI (b + 1) from nI_1 b] at ex
  rw [eY, ex]
  exact hc
theorem lay_48 (hw : wfW W) (hm : MWP Y m w W) (hN : wfN N) (hn : MNP Y m N) (hw1 : w ≤ 1) {g0 : Nat → Int32} {r24 : TY → Int32 → Prop} {r30 : TY → Int32 → Int32 → Prop} {r38 : TY → Int32 → Int32 → Int32 → Prop} {h l o : Nat} (hh : h ≤ hrs W) (ho : o ≤ 20) (hl : l ≤ 4)
    (hc : ∀ g, LX w g0 g → LO W N w g h l (o + 1) → r38 (sF Y m 19 g) (nI h) (nI l) (nI (o + 1))) : ∀ j b g, b + j = 25 → LX w g0 g → LB W N w g h l o b → tk_X10_lay_48 st post m (nI w) r24 r30 r38 (j + 1) (sF Y m 19 g) (nI h) (nI l) (nI o) (nI b) := by
  have h48 := hw.2.1
  intro j
  induction j with
  | zero =>
    intro b g hb hx hd
    rw [tk_X10_lay_48]
    refine ⟨fun _ x ex => ?_, fun c => absurd ?_ c⟩
    · rw [show nI o + (1 : Int32) = nI (o + 1) from nI_1 o] at ex
      rw [ex]
      refine hc g hx ⟨hd.1.1, fun o' b' q1 q2 => ?_⟩
      by_cases c : o' = o
      · subst c
        exact hd.2 b' (by omega)
      · exact hd.1.2 o' b' (by omega) q2
    · rw [show (24 : Int32) = nI 24 from rfl, nI_ltI (by omega) (by omega)]
      omega
  | succ j ih =>
    intro b g hb hx hd
    rw [tk_X10_lay_48]
    have hm' : MWP (sF Y m 19 g) m w W := MWP_F (by decide) hm
    rw [show (24 : Int32) = nI 24 from rfl, nI_ltI (by omega) (by omega), nI_clamp (by omega), hm'.2.1, eqn (by omega) (by omega)]
    have nxt := ih (b + 1) _ (by omega) (LX_up (x := nI (V W N h l o b)) hx (by omega) ho (by omega) hl) (LB_up h48 hh ho (by omega) hl hd)
    refine ⟨fun c => by omega, fun _ => ⟨vp_in_nI (by omega) (by omega), fun c => ?_, fun c => ?_⟩⟩
    · exact ⟨10, lay_76 hw hm hN hn hw1 (by omega) ho (by omega) hl hd (lay_145 hw1 (by omega) ho (by omega) hl nxt) 9 0 rfl⟩
    · refine ⟨1, ?_⟩
      rw [tk_X10_lay_76]
      rw [nI_clamp (by omega), hm'.2.1, c]
      refine ⟨fun c2 => absurd c2 (by decide), fun _ => ⟨vp_in_nI (by omega) (by omega), fun _ => ?_, fun c2 => absurd (Int32.le_refl _) c2⟩⟩
      rw [← c, show (1000000 : Int32) = nI (V W N h l o b) by rw [V_end W N (by omega)]; rfl]
      exact lay_145 hw1 (by omega) ho (by omega) hl nxt
theorem lay_38 (hw : wfW W) (hm : MWP Y m w W) (hN : wfN N) (hn : MNP Y m N) (hw1 : w ≤ 1) {g0 : Nat → Int32} {r24 : TY → Int32 → Prop} {r30 : TY → Int32 → Int32 → Prop} {h l : Nat} (hh : h ≤ hrs W) (hl : l ≤ 4)
    (hc : ∀ g, LX w g0 g → LL W N w g h (l + 1) → r30 (sF Y m 19 g) (nI h) (nI (l + 1))) : ∀ j o g, o + j = 21 → LX w g0 g → LO W N w g h l o → tk_X10_lay_38 st post m (nI w) r24 r30 (j + 1) (sF Y m 19 g) (nI h) (nI l) (nI o) := by
  have h48 := hw.2.1
  intro j
  induction j with
  | zero =>
    intro o g ho hx hd
    rw [tk_X10_lay_38]
    refine ⟨fun _ x ex => ?_, fun c => absurd ?_ c⟩
    · rw [show nI l + (1 : Int32) = nI (l + 1) from nI_1 l] at ex
      rw [ex]
      refine hc g hx ⟨hd.1.1, fun l' o' b' q1 q2 q3 => ?_⟩
      by_cases c : l' = l
      · subst c
        exact hd.2 o' b' (by omega) q3
      · exact hd.1.2 l' o' b' (by omega) q2 q3
    · rw [show (20 : Int32) = nI 20 from rfl, nI_ltI (by omega) (by omega)]
      omega
  | succ j ih =>
    intro o g ho hx hd
    rw [tk_X10_lay_38, show (20 : Int32) = nI 20 from rfl, nI_ltI (by omega) (by omega)]
    refine ⟨fun c => by omega, fun _ => ⟨26, ?_⟩⟩
    exact lay_48 hw hm hN hn hw1 hh (by omega) hl (fun g' x' d' => ih (o + 1) g' (by omega) x' d') 25 0 g rfl hx ⟨hd, fun b' q => by omega⟩
theorem lay_30 (hw : wfW W) (hm : MWP Y m w W) (hN : wfN N) (hn : MNP Y m N) (hw1 : w ≤ 1) {g0 : Nat → Int32} {r24 : TY → Int32 → Prop} {h : Nat} (hh : h ≤ hrs W)
    (hc : ∀ g, LX w g0 g → LH W N w g h → r24 (sF Y m 19 g) (iI ((h : Int) - 1))) : ∀ j l g, l + j = 5 → LX w g0 g → LL W N w g h l → tk_X10_lay_30 st post m (nI w) r24 (j + 1) (sF Y m 19 g) (nI h) (nI l) := by
  have h48 := hw.2.1
  intro j
  induction j with
  | zero =>
    intro l g hl hx hd
    rw [tk_X10_lay_30]
    refine ⟨fun _ x ex => ?_, fun c => absurd ?_ c⟩
    · simp only [i_nI, i_lit, i_neg, i_add] at ex
      rw [ex]
      refine hc g hx (fun h' l' o' b' q1 q2 q3 q4 q5 => ?_)
      by_cases c : h' = h
      · subst c
        exact hd.2 l' o' b' (by omega) q4 q5
      · exact hd.1 h' l' o' b' (by omega) q2 q3 q4 q5
    · rw [show (4 : Int32) = nI 4 from rfl, nI_ltI (by omega) (by omega)]
      omega
  | succ j ih =>
    intro l g hl hx hd
    rw [tk_X10_lay_30, show (4 : Int32) = nI 4 from rfl, nI_ltI (by omega) (by omega)]
    refine ⟨fun c => by omega, fun _ => ⟨22, ?_⟩⟩
    exact lay_38 hw hm hN hn hw1 hh (by omega) (fun g' x' d' => ih (l + 1) g' (by omega) x' d') 21 0 g rfl hx ⟨hd, fun o' b' q => by omega⟩
theorem lay_24 (hw : wfW W) (hm : MWP Y m w W) (hN : wfN N) (hn : MNP Y m N) (hw1 : w ≤ 1) {g0 : Nat → Int32} (hp : ∀ g, LX w g0 g → LH W N w g 0 → post (sF Y m 19 g)) : ∀ j g, j ≤ hrs W + 1 → LX w g0 g → LH W N w g j → tk_X10_lay_24 st post m (nI w) (j + 1) (sF Y m 19 g) (iI ((j : Int) - 1)) := by
  have h48 := hw.2.1
  intro j
  induction j with
  | zero =>
    intro g hj hx hd
    rw [tk_X10_lay_24]
    refine ⟨fun _ => hp g hx hd, fun c => absurd ?_ c⟩
    simp (disch := omega) only [i_lit, i_lt]
    omega
  | succ j ih =>
    intro g hj hx hd
    rw [tk_X10_lay_24]
    have e : iI (((j + 1 : Nat) : Int) - 1) = nI j := by
      rw [i_nI]
      congr 1
      omega
    rw [e]
    refine ⟨fun c => absurd c (by rw [show (0 : Int32) = nI 0 from rfl, nI_ltI (by omega) (by omega)]; omega), fun _ => ⟨6, ?_⟩⟩
    exact lay_30 hw hm hN hn hw1 (by omega) (fun g' x' d' => ih g' (by omega) x' d') 5 0 g rfl hx ⟨hd, fun l' o' b' q => by omega⟩
/-- the reference's table is laid for a way: every entry is the best -/
def Laid (Y : TY) (m w : Nat) (W : WD) (N : ND) : Prop := LH W N w (tA Y m 19) 0
theorem m_lay (hw : wfW W) (hm : MWP Y m w W) (hN : wfN N) (hn : MNP Y m N) (hw1 : w ≤ 1) (hL : tA Y m 20 w = 0 ∨ (tA Y m 20 w = 1 ∧ Laid Y m w W N)) (hp : ∀ g g2, LX w (tA Y m 19) g → LH W N w g 0 → (∀ i, i ≠ w → g2 i = tA Y m 20 i) → g2 w = 1 → post (sF (sF Y m 20 g2) m 19 g)) : tp_X10_lay st post Y m (nI w) := by
  have h48 := hw.2.1
  unfold tp_X10_lay
  have hin : vp_in (nI w) 2 := vp_in_nI (by omega) (by omega)
  rw [nI_clamp (by omega)]
  refine ⟨hin, fun c => ⟨hin, fun Y2 e2 => ⟨hin, fun x ex => ?_⟩⟩, fun c => ?_⟩
  · have hm2 : MWP Y2 m w W := by rw [e2]; exact MWP_F (by decide) hm
    have hn2 : MNP Y2 m N := by rw [e2]; exact MNP_F (by decide) hn
    rw [hm2.2.1] at ex
    have hs : Y2 = sF Y2 m 19 (tA Y m 19) := by
      have e3 : tA Y2 m 19 = tA Y m 19 := by rw [e2, tA_other _ _ (by decide)]
      rw [← e3, sF_id]
    refine ⟨hrs W + 1 + 1, ?_⟩
    rw [ex, show nI (hrs W) = iI (((hrs W + 1 : Nat) : Int) - 1) by rw [i_nI]; congr 1; omega]
    have key := lay_24 (st := st) (post := post) (g0 := tA Y m 19) hw hm2 hN hn2 hw1 (fun g gx gd => by
      rw [e2]
      exact hp g _ gx gd (fun i hi => pk_un hi) (by rw [pk_us]; rfl)) (hrs W + 1) (tA Y m 19) (Nat.le_refl _) (fun _ _ => rfl) (fun h l o b q1 q2 => by omega)
    rw [← hs] at key
    exact key
  · rcases hL with hL | ⟨h1, h2⟩
    · exact absurd hL c
    · have := hp (tA Y m 19) (tA Y m 20) (fun _ _ => rfl) h2 (fun _ _ => rfl) h1
      rw [sF_id] at this
      have e4 : sF Y m 19 (tA Y m 19) = Y := sF_id Y m 19
      rw [e4] at this
      exact this
end LZ
