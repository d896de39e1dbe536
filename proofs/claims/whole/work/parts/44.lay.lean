-- THE REFERENCE'S BEST
theorem sF_sF (Y : TY) (a s : Nat) (f g : Nat → Int32) : sF (sF Y a s f) a s g = sF Y a s g := by
  unfold sF
  simp only
  congr 3
  funext b
  by_cases h : b = a
  · subst h
    simp only [va_up, if_true]
    funext t
    by_cases h2 : t = s
    · simp [va_up, h2]
    · simp [va_up, h2]
  · simp [va_up, h]
theorem tA_same (Y : TY) (a s : Nat) (g : Nat → Int32) : tA (sF Y a s g) a s = g := by rw [tA_sF, if_pos ⟨rfl, rfl⟩]
theorem tA_other (Y : TY) {a s b t : Nat} (g : Nat → Int32) (h : t ≠ s) : tA (sF Y a s g) b t = tA Y b t := by rw [tA_sF, if_neg (fun q => h q.2)]
theorem tA_obj (Y : TY) {a s b t : Nat} (g : Nat → Int32) (h : b ≠ a) : tA (sF Y a s g) b t = tA Y b t := by rw [tA_sF, if_neg (fun q => h q.1)]
theorem MWP_F {Y : TY} {m w s : Nat} {W : WD} {g : Nat → Int32} (hs : 6 < s) (h : MWP Y m w W) : MWP (sF Y m s g) m w W := by
  unfold MWP at h ⊢
  simp only [tA_other Y g (show (0 : Nat) ≠ s by omega), tA_other Y g (show (1 : Nat) ≠ s by omega), tA_other Y g (show (2 : Nat) ≠ s by omega), tA_other Y g (show (3 : Nat) ≠ s by omega), tA_other Y g (show (4 : Nat) ≠ s by omega), tA_other Y g (show (5 : Nat) ≠ s by omega), tA_other Y g (show (6 : Nat) ≠ s by omega)]
  exact h
theorem MNP_F {Y : TY} {m s : Nat} {N : ND} {g : Nat → Int32} (hs : 8 < s) (h : MNP Y m N) : MNP (sF Y m s g) m N := by
  unfold MNP at h ⊢
  simp only [tA_other Y g (show (7 : Nat) ≠ s by omega), tA_other Y g (show (8 : Nat) ≠ s by omega)]
  exact h
def atI (w h o b l : Nat) : Nat := (((w * 49 + h) * 21 + o) * 25 + b) * 5 + l
def dk (k : Nat) : Nat := if k = 0 then 0 else k + 1
section LY
variable {st : TS} {Y : TY} {post : Int32 → Prop}
theorem m_at {w h o b l : Nat} (hp : post (nI (atI w h o b l))) : tp_X10_at st post Y (nI w) (nI h) (nI o) (nI b) (nI l) := by
  unfold tp_X10_at
  rw [show (49 : Int32) = nI 49 from rfl, show (21 : Int32) = nI 21 from rfl, show (25 : Int32) = nI 25 from rfl, show (5 : Int32) = nI 5 from rfl, pk_mul, nI_add, pk_mul, nI_add, pk_mul, nI_add, pk_mul, nI_add]
  exact hp
theorem m_less {a r : Nat} (ha : a ≤ 1000000) (hr : r ≤ 1000000) (hp : post (nI (les a r))) : tp_X10_lessened st post Y (nI a) (nI r) := by
  unfold tp_X10_lessened
  rw [i_less ha hr]
  exact hp
theorem m_tried {k : Nat} (hk : k < 9) (hp : post (nI (dk k / 2 + 10 * (dk k % 2)))) : tp_X10_triedAt st post Y (nI k) := by
  unfold tp_X10_triedAt tk_X10_triedAt_25
  have e0 : (nI k = 0) = (k = 0) := by rw [show (0 : Int32) = nI 0 from rfl, eqn (by omega) (by omega)]
  have e1 : nI k - nI k / (2 : Int32) * (2 : Int32) = nI (k % 2) := by rw [show (2 : Int32) = nI 2 from rfl, pk_rem (by omega) (by omega) (by omega)]
  have e2 : (nI k + (1 : Int32)) / (2 : Int32) = nI ((k + 1) / 2) := by rw [show nI k + (1 : Int32) = nI (k + 1) from nI_1 k, show (2 : Int32) = nI 2 from rfl, pk_div (by omega) (by omega) (by omega)]
  have e3 : (nI (k % 2) = 0) = (k % 2 = 0) := by rw [show (0 : Int32) = nI 0 from rfl, eqn (by omega) (by omega)]
  rw [e0, e1, e2, e3]
  refine ⟨fun c => ⟨fun c2 => ?_, fun c2 => ?_⟩, fun c => ?_⟩
  · rw [show (0 : Int32) = nI 0 from rfl, nI_add]
    rw [show dk k / 2 + 10 * (dk k % 2) = (k + 1) / 2 + 0 by simp only [dk, if_neg c]; omega] at hp
    exact hp
  · rw [show (10 : Int32) = nI 10 from rfl, nI_add]
    rw [show dk k / 2 + 10 * (dk k % 2) = (k + 1) / 2 + 10 by simp only [dk, if_neg c]; omega] at hp
    exact hp
  · rw [c] at hp
    exact hp
theorem rsk_le {W : WD} {N : ND} (hw : wfW W) {h o d : Nat} (ho : o ≤ 20) : rsk W N h o d ≤ 1000000 := by
  unfold rsk
  have h1 := shp_le hw h
  have h2 : blB N (d / 2) (d % 2) o ≤ 1000 := blB_le ho
  have : shp W h * blB N (d / 2) (d % 2) o ≤ 500 * 1000 := Nat.mul_le_mul h1 h2
  omega
theorem m_valueOf {m w : Nat} {W : WD} {N : ND} (hw : wfW W) (hm : MWP Y m w W) (hN : wfN N) (hn : MNP Y m N) (hw1 : w ≤ 1) {h o b l t e : Nat} (hh : h ≤ 48) (ho : o ≤ 20) (hb : b ≤ 24) (hl : l ≤ 4) (ht : t ≤ 4) (he : e ≤ 1) (hd : 2 * t + e ≠ 1)
    (hB : ∀ h' l' o' b', o' ≤ 20 → b' ≤ 24 → l' ≤ 4 → h' ≤ hrs W → (h < h' ∨ (h' = h ∧ l' < l)) → tA Y m 19 (atI w h' o' b' l') = nI (V W N h' l' o' b'))
    (hp : post (if fe W h b l (2 * t + e) then nI (vV W N h l o b (2 * t + e)) else (-6 : Int32))) : tp_X10_valueOf st post Y m (nI w) (nI h) (nI o) (nI b) (nI l) (nI t) (nI e) := by
  have h48 := hw.2.1
  have ed : (2 * t + e) / 2 = t := by omega
  have em : (2 * t + e) % 2 = e := by omega
  have e0 : (nI e = 0) = (e = 0) := by rw [show (0 : Int32) = nI 0 from rfl, eqn (by omega) (by omega)]
  have et3 : (nI t = (3 : Int32)) = (t = 3) := by rw [show (3 : Int32) = nI 3 from rfl, eqn (by omega) (by omega)]
  have et4 : (nI t = (4 : Int32)) = (t = 4) := by rw [show (4 : Int32) = nI 4 from rfl, eqn (by omega) (by omega)]
  have el0 : (nI l = 0) = (l = 0) := by rw [show (0 : Int32) = nI 0 from rfl, eqn (by omega) (by omega)]
  have eb : bat (2 * t + e) = if e = 0 then 0 else if t = 3 then 2 else 1 := by unfold bat; rw [ed, em]
  have k54 : fe W h b l (2 * t + e) = true → tk_X10_valueOf_54 st post Y m (nI w) (nI h) (nI o) (nI b) (nI l) (nI t) (nI e) (nI (bat (2 * t + e))) := by
    intro hf
    rw [if_pos hf] at hp
    obtain ⟨f1, f2, f3, f4⟩ := fe_let hf
    rw [ed] at f1 f4
    obtain ⟨g1, g2⟩ := let_h f1
    have hrl : ∀ h', rsk W N h' o (2 * t + e) ≤ 1000000 := fun h' => rsk_le hw ho
    have ow := owB_le (W := W) (N := N) (h := h) (t := t) ho
    unfold tk_X10_valueOf_54
    refine m_owedBehind hw hm hN hn hw1 g1 ho ht ?_
    intro x ex
    rw [pk_sub f3] at ex
    rw [ex]
    refine m_riskOf hw hm hN hn hw1 g1 ho ht he ?_
    have er : ∀ h', shp W h' * blB N t e o = rsk W N h' o (2 * t + e) := fun h' => by unfold rsk; rw [ed, em]
    rw [er, et3, et4]
    unfold vV at hp
    rw [ed] at hp
    refine ⟨fun c4 => ⟨fun c3 => ?_, fun c3 => ?_⟩, fun c4 => ?_⟩
    · have g3 := g2 c3
      rw [show nI h + (2 : Int32) = nI (h + 2) from nI_add h 2, show nI h + (1 : Int32) = nI (h + 1) from nI_1 h]
      refine m_at ⟨vp_in_nI (by unfold atI; omega) (by omega), ?_⟩
      rw [nI_clamp (by unfold atI; omega), hB (h + 2) l _ _ ow (by omega) hl (by omega) (Or.inl (by omega))]
      refine m_riskOf hw hm hN hn hw1 g3 ho ht he ?_
      rw [er]
      refine m_less (V_le _ _ _ _ _ _) (hrl _) (m_less (les_le (V_le _ _ _ _ _ _)) (hrl _) ?_)
      rw [if_pos c3] at hp
      exact hp
    · rw [show nI h + (1 : Int32) = nI (h + 1) from nI_1 h]
      refine m_at ⟨vp_in_nI (by unfold atI; omega) (by omega), ?_⟩
      rw [nI_clamp (by unfold atI; omega), hB (h + 1) l _ _ ow (by omega) hl (by omega) (Or.inl (by omega))]
      refine m_less (V_le _ _ _ _ _ _) (hrl _) ?_
      rw [if_neg c3, if_neg c4] at hp
      simp only [hof, if_neg c3, if_neg c4] at hp
      exact hp
    · have f5 := f4 c4
      have c3 : ¬ t = 3 := by omega
      rw [show nI l - (1 : Int32) = nI (l - 1) from pk_sub (b := 1) f5]
      refine m_at ⟨vp_in_nI (by unfold atI; omega) (by omega), ?_⟩
      rw [nI_clamp (by unfold atI; omega), hB h (l - 1) _ _ ow (by omega) (by omega) (by omega) (Or.inr ⟨rfl, by omega⟩)]
      refine m_less (V_le _ _ _ _ _ _) (hrl _) ?_
      rw [if_neg c3, if_pos c4] at hp
      simp only [hof, if_pos c4] at hp
      exact hp
  have k20 : tk_X10_valueOf_20 st post Y m (nI w) (nI h) (nI o) (nI b) (nI l) (nI t) (nI e) (nI (bat (2 * t + e))) := by
    have hb2 : bat (2 * t + e) ≤ 2 := by rw [eb]; split <;> first | omega | (split <;> omega)
    have no : fe W h b l (2 * t + e) = false → post (-6 : Int32) := fun q => by rw [q] at hp; exact hp
    unfold tk_X10_valueOf_20
    refine m_canBe hw hm hw1 (by omega) ht (bI_el' (fun c1 => ?_) (fun c1 => ?_))
    · refine no ?_
      unfold fe
      rw [ed, c1]
      simp
    · rw [nI_ltI (by omega) (by omega), et4, el0]
      refine ⟨fun c2 => ?_, fun c2 => ⟨fun c3 => ?_, fun c3 => ⟨fun c4 => ?_, fun c4 => ?_⟩⟩⟩
      · refine no ?_
        unfold fe
        rw [decide_eq_false (show ¬ bat (2 * t + e) ≤ b by omega)]
        simp
      · refine k54 ?_
        unfold fe
        rw [ed, c1, decide_eq_true (show bat (2 * t + e) ≤ b by omega), decide_eq_true hd, decide_eq_true c3]
        rfl
      · refine k54 ?_
        unfold fe
        rw [ed, c1, decide_eq_true (show bat (2 * t + e) ≤ b by omega), decide_eq_true hd, decide_eq_true (show 1 ≤ l by omega)]
        simp
      · refine no ?_
        unfold fe
        rw [ed, c3, c4]
        simp
  unfold tp_X10_valueOf
  rw [e0, et3]
  refine ⟨fun c => ⟨fun c2 => ?_, fun c2 => ?_⟩, fun c => ?_⟩
  · rw [eb, if_neg c, if_neg c2] at k20
    exact k20
  · rw [eb, if_neg c, if_pos c2] at k20
    exact k20
  · rw [eb, if_pos c] at k20
    exact k20
end LY
