-- THE FIRST STATE
def pA (i : Nat) : Nat := [1, 16, 12, 8, 19, 18, 15, 14, 11, 10, 17, 13, 9, 6, 5, 7, 4, 2, 3, 0].getD i 0
def aA (M : List Nat) (i : Nat) : Nat := M.getD (pA i) 0
theorem pA_lt : ∀ i, i < 20 → pA i < 20 := by decide +kernel
theorem pA_inj : ∀ i, i < 20 → ∀ j, j < 20 → pA i = pA j → i = j := by decide +kernel
theorem aA_inj {M : List Nat} (hM : M.Nodup) (hl : M.length = 20) {i j : Nat} (hi : i < 20) (hj : j < 20) (h : aA M i = aA M j) : i = j := by
  have li := pA_lt i hi
  have lj := pA_lt j hj
  have ei : M[pA i]? = some (aA M i) := by
    unfold aA
    rw [List.getD_eq_getElem?_getD, List.getElem?_eq_getElem (by omega)]
    rfl
  have ej : M[pA j]? = some (aA M j) := by
    unfold aA
    rw [List.getD_eq_getElem?_getD, List.getElem?_eq_getElem (by omega)]
    rfl
  exact pA_inj i hi j hj ((List.getElem?_inj (by omega) hM).mp (by rw [ei, ej, h]))
def W00 : WD := (0, fun _ => 0, fun _ => 0, fun _ => 0)
def N00 : ND := (fun k => if k = 1 then 1 else if k = 2 then 2 else 6, fun k => if k = 1 then 200 else if k = 2 then 500 else 800)
def G00 : GD := (fun _ => W00, N00, fun _ => false, fun _ _ => W00, fun _ => N00, 0, fun _ => 0)
theorem wf00 : wfW W00 := ⟨Nat.zero_le _, Nat.zero_le _, fun k h => absurd h (Nat.not_lt_zero k)⟩
theorem wn00 : wfN N00 := by
  intro k h1 h3
  have : k = 1 ∨ k = 2 ∨ k = 3 := by omega
  rcases this with rfl | rfl | rfl <;> decide
section ST
variable {st : TS} {Y : TY} {m v c w0 w1 n i0 a0 a1 an i1 b0 b1 bn s p0 p1 d bo t : Nat}
theorem NewW.p {w : Nat} (h : NewW Y w) : WayP Y w W00 := ⟨wf00, h.2.1 0, h.2.1 1, fun k q => absurd q (Nat.not_lt_zero k), fun k q => absurd q (Nat.not_lt_zero k)⟩
theorem NewN.p (h : NewN Y n) : NapP Y n N00 := by
  refine ⟨wn00, fun k h1 h3 => ?_⟩
  rw [h.2.1, h.2.2]
  have : k = 1 ∨ k = 2 ∨ k = 3 := by omega
  rcases this with rfl | rfl | rfl <;> exact ⟨rfl, rfl⟩
theorem sa00 (hT : TT Y [m, v, bo, t, d, p1, p0, s, i1, bn, b1, b0, i0, an, a1, a0, c, n, w1, w0]) (h : NewV st Y v c w0 w1 n i0 a0 a1 an i1 b0 b1 bn s p0 p1 d bo t) : SA st (aA [m, v, bo, t, d, p1, p0, s, i1, bn, b1, b0, i0, an, a1, a0, c, n, w1, w0]) := by
  obtain ⟨h1, h2, h3, h4, h5, h6, h7, h8, h9, ha, hb, hc, hd, he, hf, hg, hh⟩ := h
  refine ⟨fun i j hi hj e => aA_inj hT.1 rfl hi hj e, h2, h3, h4, ha.2.2.2.1, hh.2.1, hh.2.2.1, fun w hw => ?_, fun k hk => ?_⟩
  · have : w = 0 ∨ w = 1 := by omega
    rcases this with rfl | rfl
    · exact ⟨ha.2.1, h7, he.2.1, he.2.2.1, he.2.2.2.1⟩
    · exact ⟨ha.2.2.1, h8, hf.2.1, hf.2.2.1, hf.2.2.2.1⟩
  · have : k = 0 ∨ k = 1 := by omega
    rcases this with rfl | rfl
    · refine ⟨h5, hb.2.2.2.1, fun w hw => ?_⟩
      have : w = 0 ∨ w = 1 := by omega
      rcases this with rfl | rfl
      · exact hb.2.1
      · exact hb.2.2.1
    · refine ⟨h6, hc.2.2.2.1, fun w hw => ?_⟩
      have : w = 0 ∨ w = 1 := by omega
      rcases this with rfl | rfl
      · exact hc.2.1
      · exact hc.2.2.1
theorem cl00 (h : NewV st Y v c w0 w1 n i0 a0 a1 an i1 b0 b1 bn s p0 p1 d bo t) (hm : tK Y m = 10) : Cl (aA [m, v, bo, t, d, p1, p0, s, i1, bn, b1, b0, i0, an, a1, a0, c, n, w1, w0]) Y G00 := by
  obtain ⟨h1, h2, h3, h4, h5, h6, h7, h8, h9, ha, hb, hc, hd, he, hf, hg, hh⟩ := h
  have pn : ∀ w, w < 2 → tP Y (aA [m, v, bo, t, d, p1, p0, s, i1, bn, b1, b0, i0, an, a1, a0, c, n, w1, w0] (13 + w)) = fun _ => none := fun w hw => by
    have : w = 0 ∨ w = 1 := by omega
    rcases this with rfl | rfl
    · exact he.2.2.2.2
    · exact hf.2.2.2.2
  refine ⟨⟨fun i hi => ?_, fun w hw => ?_, ha.2.2.2.2.2.2.p, ⟨fun w hw => ⟨fun i b hb => ?_, fun i j b hb _ => ?_⟩, fun w u hw hu _ i j b hb _ => ?_⟩, fun k hk => ⟨?_, fun z => by cases z⟩, ⟨Nat.zero_le _, fun k q => absurd q (Nat.not_lt_zero k), hg.2.1 0, fun k q => absurd q (Nat.not_lt_zero k)⟩⟩, fun w hw => ?_⟩
  · have : i = 0 ∨ i = 1 ∨ i = 2 ∨ i = 3 ∨ i = 4 ∨ i = 5 ∨ i = 6 ∨ i = 7 ∨ i = 8 ∨ i = 9 ∨ i = 10 ∨ i = 11 ∨ i = 12 ∨ i = 13 ∨ i = 14 ∨ i = 15 ∨ i = 16 ∨ i = 17 ∨ i = 18 ∨ i = 19 := by omega
    rcases this with rfl | rfl | rfl | rfl | rfl | rfl | rfl | rfl | rfl | rfl | rfl | rfl | rfl | rfl | rfl | rfl | rfl | rfl | rfl | rfl
    · exact h1
    · exact ha.1
    · exact hb.1
    · exact hc.1
    · exact ha.2.2.2.2.1.1
    · exact ha.2.2.2.2.2.1.1
    · exact hb.2.2.2.2.1.1
    · exact hb.2.2.2.2.2.1.1
    · exact hc.2.2.2.2.1.1
    · exact hc.2.2.2.2.2.1.1
    · exact ha.2.2.2.2.2.2.1
    · exact hb.2.2.2.2.2.2.1
    · exact hc.2.2.2.2.2.2.1
    · exact he.1
    · exact hf.1
    · exact hd
    · exact hg.1
    · exact hh.1
    · exact hh.2.2.2
    · exact hm
  · have : w = 0 ∨ w = 1 := by omega
    rcases this with rfl | rfl
    · exact ha.2.2.2.2.1.p
    · exact ha.2.2.2.2.2.1.p
  · rw [pn w hw] at hb
    cases hb
  · rw [pn w hw] at hb
    cases hb
  · rw [pn w hw] at hb
    cases hb
  · show tA Y v 2 k = 0
    rw [h9]
  · intro c l b _ _ hb
    rw [pn w hw] at hb
    cases hb
theorem mo00 (hI : ∀ t, tI Y m t = 0) (hA : ∀ s, tA Y m s = mF s) : Mo m Y G00 := by
  refine ⟨fun w hw => ⟨wf00, ⟨?_, ?_, fun k q => absurd q (Nat.not_lt_zero k), fun k q => absurd q (Nat.not_lt_zero k)⟩, Or.inl ?_⟩, wn00, fun k h1 h3 => ?_, ⟨Nat.zero_le _, fun k q => absurd q (Nat.not_lt_zero k), hI 10, fun k q => absurd q (Nat.not_lt_zero k)⟩, fun k hk => ⟨?_, fun z => by cases z⟩⟩
  · rw [hA]
    rfl
  · rw [hA]
    rfl
  · rw [hA]
    rfl
  · rw [hA, hA]
    have : k = 1 ∨ k = 2 ∨ k = 3 := by omega
    rcases this with rfl | rfl | rfl <;> exact ⟨rfl, rfl⟩
  · rw [hA]
    rfl
end ST
