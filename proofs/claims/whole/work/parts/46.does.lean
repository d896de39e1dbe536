/-- the first from k on, within j, that p says; else k + j -/
def fsF (p : Nat → Bool) : Nat → Nat → Nat
  | 0, k => k
  | j + 1, k => if p k = true then k else fsF p j (k + 1)
theorem fsF_le (p : Nat → Bool) : ∀ j k, fsF p j k ≤ k + j
  | 0, k => Nat.le_refl _
  | j + 1, k => by
    unfold fsF
    split
    · omega
    · have := fsF_le p j (k + 1)
      omega
def pD (W : WD) (N : ND) (h l o b d : Nat) : Bool := fe W h b l d && decide (vV W N h l o b d = V W N h l o b)
def dsD (W : WD) (N : ND) (h l o b : Nat) : Nat := fsF (pD W N h l o b) 10 0
def cdD (d : Nat) : Int32 := if d < 10 then nI (d / 2 + 10 * (d % 2)) else -6
theorem dsD_le (W : WD) (N : ND) (h l o b : Nat) : dsD W N h l o b ≤ 10 := fsF_le _ 10 0
/-- what laying a way's table leaves -/
def BX (Y : TY) (m w : Nat) (W : WD) (N : ND) (Y' : TY) : Prop := ∃ g g2, Y' = sF (sF Y m 20 g2) m 19 g ∧ LX w (tA Y m 19) g ∧ LH W N w g 0 ∧ (∀ i, i ≠ w → g2 i = tA Y m 20 i) ∧ g2 w = 1
theorem BX.m {Y Y' : TY} {m w w2 : Nat} {W W2 : WD} {N : ND} (h : BX Y m w W N Y') (hm : MWP Y m w2 W2) : MWP Y' m w2 W2 := by
  obtain ⟨g, g2, rfl, -⟩ := h
  exact MWP_F (by decide) (MWP_F (by decide) hm)
theorem BX.n {Y Y' : TY} {m w : Nat} {W : WD} {N N2 : ND} (h : BX Y m w W N Y') (hn : MNP Y m N2) : MNP Y' m N2 := by
  obtain ⟨g, g2, rfl, -⟩ := h
  exact MNP_F (by decide) (MNP_F (by decide) hn)
theorem BX.laid {Y Y' : TY} {m w : Nat} {W : WD} {N : ND} (h : BX Y m w W N Y') : tA Y' m 20 w = 1 ∧ Laid Y' m w W N := by
  obtain ⟨g, g2, rfl, h1, h2, h3, h4⟩ := h
  refine ⟨?_, ?_⟩
  · rw [tA_other _ _ (by decide), tA_same]
    exact h4
  · unfold Laid
    rw [tA_same]
    exact h2
theorem BX.other {Y Y' : TY} {m w w2 : Nat} {W W2 : WD} {N : ND} (h : BX Y m w W N Y') (hw : w ≤ 1) (hw2 : w2 ≤ 1) (hne : w2 ≠ w) (h48 : hrs W2 ≤ 48) (hL : tA Y m 20 w2 = 0 ∨ (tA Y m 20 w2 = 1 ∧ Laid Y m w2 W2 N)) : tA Y' m 20 w2 = 0 ∨ (tA Y' m 20 w2 = 1 ∧ Laid Y' m w2 W2 N) := by
  obtain ⟨g, g2, rfl, h1, h2, h3, h4⟩ := h
  have e : tA (sF (sF Y m 20 g2) m 19 g) m 20 w2 = tA Y m 20 w2 := by
    rw [tA_other _ _ (by decide), tA_same]
    exact h3 w2 hne
  rw [e]
  rcases hL with hL | ⟨q1, q2⟩
  · exact Or.inl hL
  · refine Or.inr ⟨q1, ?_⟩
    unfold Laid at q2 ⊢
    rw [tA_same]
    intro h' l o b z1 z2 z3 z4 z5
    unfold LDn
    rw [h1 _ (by unfold atI; omega)]
    exact q2 h' l o b z1 z2 z3 z4 z5
theorem BX.tA {Y Y' : TY} {m w a s : Nat} {W : WD} {N : ND} (h : BX Y m w W N Y') (hs : a ≠ m ∨ (s ≠ 19 ∧ s ≠ 20)) : tA Y' a s = tA Y a s := by
  obtain ⟨g, g2, rfl, -⟩ := h
  rcases hs with hs | hs
  · rw [tA_obj _ _ hs, tA_obj _ _ hs]
  · rw [tA_other _ _ hs.1, tA_other _ _ hs.2]
theorem BX.tI {Y Y' : TY} {m w : Nat} {W : WD} {N : ND} (h : BX Y m w W N Y') : Y'.1 = Y.1 ∧ Y'.2.1 = Y.2.1 ∧ Y'.2.2.2 = Y.2.2.2 := by
  obtain ⟨g, g2, rfl, -⟩ := h
  exact ⟨rfl, rfl, rfl⟩
section DO
variable {st : TS} {Y : TY} {m w : Nat} {W : WD} {N : ND} {post : Int32 → TY → Prop}
theorem m_bestOf (hw : wfW W) (hm : MWP Y m w W) (hN : wfN N) (hn : MNP Y m N) (hw1 : w ≤ 1) (hL : tA Y m 20 w = 0 ∨ (tA Y m 20 w = 1 ∧ Laid Y m w W N)) {h o b l : Nat} (hh : h ≤ hrs W) (ho : o ≤ 20) (hb : b ≤ 24) (hl : l ≤ 4) (hp : ∀ Y', BX Y m w W N Y' → post (nI (V W N h l o b)) Y') : tp_X10_bestOf st post Y m (nI w) (nI h) (nI o) (nI b) (nI l) := by
  have h48 := hw.2.1
  unfold tp_X10_bestOf
  refine m_lay hw hm hN hn hw1 hL (fun g g2 h1 h2 h3 h4 => ?_)
  refine m_at ⟨vp_in_nI (by unfold atI; omega) (by omega), ?_⟩
  rw [nI_clamp (by unfold atI; omega), tA_same, h2 h l o b (Nat.zero_le _) hh hl ho hb]
  exact hp _ ⟨g, g2, rfl, h1, h2, h3, h4⟩
theorem m_doesOf (hw : wfW W) (hm : MWP Y m w W) (hN : wfN N) (hn : MNP Y m N) (hw1 : w ≤ 1) (hL : tA Y m 20 w = 0 ∨ (tA Y m 20 w = 1 ∧ Laid Y m w W N)) {h o b l : Nat} (hh : h < hrs W) (ho : o ≤ 20) (hb : b ≤ 24) (hl : l ≤ 4) (hp : ∀ Y', BX Y m w W N Y' → post (cdD (dsD W N h l o b)) Y') : tp_X10_doesOf st post Y m (nI w) (nI h) (nI o) (nI b) (nI l) := by
  have h48 := hw.2.1
  unfold tp_X10_doesOf
  refine m_bestOf hw hm hN hn hw1 hL (by omega) ho hb hl (fun Y' hx => ⟨10, ?_⟩)
  have hm' := hx.m hm
  have hn' := hx.n hn
  have hla := hx.laid.2
  have hV := V_le W N h l o b
  have key : ∀ j k, k + j = 9 → post (cdD (fsF (pD W N h l o b) (10 - dk k) (dk k))) Y' → tk_X10_doesOf_16 st post m (nI w) (nI h) (nI o) (nI b) (nI l) (j + 1) Y' (nI (V W N h l o b)) (nI k) := by
    intro j
    induction j with
    | zero =>
      intro k hk hp
      have : k = 9 := by omega
      subst this
      rw [tk_X10_doesOf_16]
      exact ⟨fun _ => hp, fun c => absurd (Int32.le_refl _) c⟩
    | succ j ih =>
      intro k hk hp
      rw [tk_X10_doesOf_16, show (9 : Int32) = nI 9 from rfl, nI_leI (by omega) (by omega)]
      refine ⟨fun c => by omega, fun _ => m_tried (by omega) ?_⟩
      have hdk : dk k ≤ 9 ∧ dk k ≠ 1 := by unfold dk; split <;> omega
      have e1 : nI (dk k / 2 + 10 * (dk k % 2)) / (10 : Int32) = nI (dk k % 2) := by
        rw [show (10 : Int32) = nI 10 from rfl, pk_div (by omega) (by omega) (by omega)]
        congr 1
        omega
      have e2 : nI (dk k / 2 + 10 * (dk k % 2)) - nI (dk k % 2) * (10 : Int32) = nI (dk k / 2) := by
        rw [show (10 : Int32) = nI 10 from rfl, pk_mul, pk_sub (by omega)]
        congr 1
        omega
      have e3 : 2 * (dk k / 2) + dk k % 2 = dk k := by omega
      rw [e1, e2]
      refine m_valueOf hw hm' hN hn' hw1 (by omega) ho hb hl (by omega) (by omega) (by omega) (fun h' l' o' b' q1 q2 q3 q4 _ => hla h' l' o' b' (Nat.zero_le _) q4 q3 q1 q2) ?_
      rw [e3]
      have hvv : vV W N h l o b (dk k) ≤ 1000000 := les_le (by split <;> first | exact les_le (V_le _ _ _ _ _ _) | exact V_le _ _ _ _ _ _)
      have e10 : 10 - dk k = (10 - dk k - 1) + 1 := by omega
      have nxt : pD W N h l o b (dk k) = false → ∀ x : Int32, x = nI k + (1 : Int32) → tk_X10_doesOf_16 st post m (nI w) (nI h) (nI o) (nI b) (nI l) (j + 1) Y' (nI (V W N h l o b)) x := by
        intro hf x ex
        rw [ex, show nI k + (1 : Int32) = nI (k + 1) from nI_1 k]
        refine ih (k + 1) (by omega) ?_
        rw [e10] at hp
        unfold fsF at hp
        rw [hf] at hp
        simp only [Bool.false_eq_true, if_false] at hp
        by_cases c0 : k = 0
        · subst c0
          have ef : pD W N h l o b 1 = false := by simp [pD, fe_1]
          have e5 : fsF (pD W N h l o b) 9 1 = fsF (pD W N h l o b) 8 2 := by
            show (if pD W N h l o b 1 = true then _ else _) = _
            rw [ef]
            simp
          have hp : post (cdD (fsF (pD W N h l o b) 9 1)) Y' := hp
          rw [e5] at hp
          exact hp
        · have e6 : dk (k + 1) = dk k + 1 := by simp [dk, c0]
          rw [e6, show 10 - (dk k + 1) = 10 - dk k - 1 by omega]
          exact hp
      by_cases cf : fe W h b l (dk k) = true
      · rw [if_pos cf, eqn (by omega) (by omega)]
        refine ⟨fun c => nxt (by simp [pD, c]), fun c => ?_⟩
        have ht : pD W N h l o b (dk k) = true := by simp [pD, c, cf]
        rw [e10] at hp
        unfold fsF at hp
        rw [if_pos ht] at hp
        unfold cdD at hp
        rw [if_pos (by omega)] at hp
        exact hp
      · rw [if_neg cf]
        refine ⟨fun _ => nxt (by simp [pD, cf]), fun c => ?_⟩
        simp (disch := omega) only [i_nI, i_lit, i_neg, i_eq] at c
        omega
  exact key 9 0 rfl (hp Y' hx)
end DO
