-- THE BEST, as a mathematical value
def les (x r : Nat) : Nat := x * (1000000 - r) / 1000000
def bat (d : Nat) : Nat := if d % 2 = 0 then 0 else if d / 2 = 3 then 2 else 1
def hof (t : Nat) : Nat := if t = 4 then 0 else if t = 3 then 2 else 1
def rsk (W : WD) (N : ND) (h o d : Nat) : Nat := shp W h * blB N (d / 2) (d % 2) o
def fe (W : WD) (h b l d : Nat) : Bool := decide (d ≠ 1) && letB W h (d / 2) && decide (bat d ≤ b) && (decide (d / 2 ≠ 4) || decide (1 ≤ l))
def mx (f : Nat → Bool) (v : Nat → Nat) : Nat → Nat
  | 0 => 0
  | d + 1 => if f d = true ∧ mx f v d < v d then v d else mx f v d
def vd (W : WD) (N : ND) (h : Nat) (V1 V2 : Nat → Nat → Nat → Nat) (VL : Nat → Nat → Nat) (l o b d : Nat) : Nat :=
  les (if d / 2 = 3 then les (V2 l (owB W N h o (d / 2)) (b - bat d)) (rsk W N (h + 1) o d) else if d / 2 = 4 then VL (owB W N h o (d / 2)) (b - bat d) else V1 l (owB W N h o (d / 2)) (b - bat d)) (rsk W N h o d)
def stepV (W : WD) (N : ND) (h : Nat) (V1 V2 : Nat → Nat → Nat → Nat) : Nat → Nat → Nat → Nat
  | 0 => fun o b => mx (fe W h b 0) (vd W N h V1 V2 (fun _ _ => 0) 0 o b) 10
  | l + 1 => fun o b => mx (fe W h b (l + 1)) (vd W N h V1 V2 (stepV W N h V1 V2 l) (l + 1) o b) 10
def VT (W : WD) (N : ND) : Nat → (Nat → Nat → Nat → Nat) × (Nat → Nat → Nat → Nat)
  | 0 => (fun _ _ _ => 1000000, fun _ _ _ => 0)
  | k + 1 => (stepV W N (hrs W - (k + 1)) (VT W N k).1 (VT W N k).2, (VT W N k).1)
def V (W : WD) (N : ND) (h l o b : Nat) : Nat := (VT W N (hrs W - h)).1 l o b
def vV (W : WD) (N : ND) (h l o b d : Nat) : Nat :=
  les (if d / 2 = 3 then les (V W N (h + 2) l (owB W N h o (d / 2)) (b - bat d)) (rsk W N (h + 1) o d) else V W N (h + hof (d / 2)) (if d / 2 = 4 then l - 1 else l) (owB W N h o (d / 2)) (b - bat d)) (rsk W N h o d)
theorem mx_congr {f g : Nat → Bool} {v u : Nat → Nat} : ∀ {n : Nat}, (∀ d, d < n → f d = g d) → (∀ d, d < n → f d = true → v d = u d) → mx f v n = mx g u n
  | 0, _, _ => rfl
  | n + 1, h1, h2 => by
    have ih := mx_congr (f := f) (g := g) (v := v) (u := u) (n := n) (fun d hd => h1 d (by omega)) (fun d hd => h2 d (by omega))
    unfold mx
    rw [ih, ← h1 n (by omega)]
    by_cases c : f n = true
    · rw [h2 n (by omega) c]
    · simp [c]
theorem mx_le {f : Nat → Bool} {v : Nat → Nat} {M : Nat} : ∀ {n : Nat}, (∀ d, d < n → f d = true → v d ≤ M) → mx f v n ≤ M
  | 0, _ => Nat.zero_le _
  | n + 1, h => by
    have ih := mx_le (f := f) (v := v) (M := M) (n := n) (fun d hd => h d (by omega))
    unfold mx
    split
    · rename_i c
      exact h n (by omega) c.1
    · exact ih
theorem les_le {x r : Nat} (h : x ≤ 1000000) : les x r ≤ 1000000 := by
  unfold les
  have : x * (1000000 - r) ≤ 1000000 * 1000000 := Nat.mul_le_mul h (Nat.sub_le _ _)
  omega
theorem VT_le (W : WD) (N : ND) : ∀ k, (∀ l o b, (VT W N k).1 l o b ≤ 1000000) ∧ (∀ l o b, (VT W N k).2 l o b ≤ 1000000)
  | 0 => ⟨fun _ _ _ => Nat.le_refl _, fun _ _ _ => Nat.zero_le _⟩
  | k + 1 => by
    obtain ⟨i1, i2⟩ := VT_le W N k
    refine ⟨fun l => ?_, i1⟩
    induction l with
    | zero =>
      intro o b
      refine mx_le (fun d _ _ => les_le ?_)
      split
      · exact les_le (i2 _ _ _)
      · split
        · exact Nat.zero_le _
        · exact i1 _ _ _
    | succ l ih =>
      intro o b
      refine mx_le (fun d _ _ => les_le ?_)
      split
      · exact les_le (i2 _ _ _)
      · split
        · exact ih _ _
        · exact i1 _ _ _
theorem V_le (W : WD) (N : ND) (h l o b : Nat) : V W N h l o b ≤ 1000000 := (VT_le W N _).1 l o b
theorem V_end (W : WD) (N : ND) {h : Nat} (hh : hrs W ≤ h) (l o b : Nat) : V W N h l o b = 1000000 := by
  unfold V
  rw [show hrs W - h = 0 by omega]
  rfl
theorem fe_let {W : WD} {h b l d : Nat} (hf : fe W h b l d = true) : letB W h (d / 2) = true ∧ d ≠ 1 ∧ bat d ≤ b ∧ (d / 2 = 4 → 1 ≤ l) := by
  simp only [fe, Bool.and_eq_true, Bool.or_eq_true, decide_eq_true_eq] at hf
  obtain ⟨⟨⟨h1, h2⟩, h3⟩, h4⟩ := hf
  exact ⟨h2, h1, h3, fun q => by omega⟩
theorem let_h {W : WD} {h t : Nat} (hl : letB W h t = true) : h < hrs W ∧ (t = 3 → h + 1 < hrs W) := by
  simp only [letB, Bool.and_eq_true, Bool.or_eq_true, decide_eq_true_eq, Bool.not_eq_true', decide_eq_false_iff_not] at hl
  refine ⟨hl.1, fun q => ?_⟩
  rcases hl.2 with h2 | h2
  · omega
  · rcases h2.2 with h3 | h3
    · exact absurd q h3
    · exact h3.1
theorem V_eq (W : WD) (N : ND) {h : Nat} (hh : h < hrs W) (l o b : Nat) : V W N h l o b = mx (fe W h b l) (vV W N h l o b) 10 := by
  have e1 : hrs W - h = (hrs W - h - 1) + 1 := by omega
  have e2 : hrs W - ((hrs W - h - 1) + 1) = h := by omega
  have e3 : hrs W - h - 1 = hrs W - (h + 1) := by omega
  have eV1 : ∀ l o b, (VT W N (hrs W - h - 1)).1 l o b = V W N (h + 1) l o b := fun l o b => by unfold V; rw [e3]
  have eV2 : h + 1 < hrs W → ∀ l o b, (VT W N (hrs W - h - 1)).2 l o b = V W N (h + 2) l o b := fun h1 l o b => by
    rw [show hrs W - h - 1 = (hrs W - (h + 2)) + 1 by omega]
    rfl
  have eV : ∀ l o b, V W N h l o b = stepV W N h (VT W N (hrs W - h - 1)).1 (VT W N (hrs W - h - 1)).2 l o b := fun l o b => by
    unfold V
    rw [e1]
    show stepV W N (hrs W - ((hrs W - h - 1) + 1)) _ _ l o b = _
    rw [e2]
    simp only [Nat.add_sub_cancel]
  rw [eV]
  have core : ∀ (VL : Nat → Nat → Nat) (l : Nat), (1 ≤ l → ∀ o b, VL o b = V W N h (l - 1) o b) → mx (fe W h b l) (vd W N h (VT W N (hrs W - h - 1)).1 (VT W N (hrs W - h - 1)).2 VL l o b) 10 = mx (fe W h b l) (vV W N h l o b) 10 := by
    intro VL l hVL
    refine mx_congr (fun _ _ => rfl) (fun d _ hf => ?_)
    obtain ⟨f1, f2, f3, f4⟩ := fe_let hf
    obtain ⟨g1, g2⟩ := let_h f1
    unfold vd vV
    by_cases c3 : d / 2 = 3
    · rw [if_pos c3, if_pos c3, eV2 (g2 c3)]
    · rw [if_neg c3, if_neg c3]
      by_cases c4 : d / 2 = 4
      · rw [if_pos c4, if_pos c4, hVL (f4 c4)]
        simp [hof, c4]
      · rw [if_neg c4, if_neg c4, eV1]
        simp [hof, c3, c4]
  cases l with
  | zero => exact core _ 0 (fun q => by omega)
  | succ l => exact core _ (l + 1) (fun _ o b => (eV l o b).symm)
theorem fe_cap {W : WD} {h b l d : Nat} (hl : letB W h (d / 2) = true) (h4 : d / 2 = 4 → 1 ≤ l) : bat d ≤ hrs W - h + l := by
  obtain ⟨g1, g2⟩ := let_h hl
  unfold bat
  split
  · omega
  · split
    · rename_i c
      have := g2 c
      omega
    · omega
/-- what is above the hours and lies that are left changes nothing -/
theorem V_cap (W : WD) (N : ND) : ∀ (k l : Nat) (h o b c : Nat), hrs W - h = k → hrs W - h + l ≤ b → hrs W - h + l ≤ c → V W N h l o b = V W N h l o c := by
  intro k
  induction k using Nat.strongRecOn with
  | ind k ihk =>
    intro l
    induction l with
    | zero =>
      intro h o b c hk hb hc
      by_cases h0 : hrs W ≤ h
      · rw [V_end W N h0, V_end W N h0]
      rw [V_eq W N (by omega), V_eq W N (by omega)]
      refine mx_congr (fun d _ => ?_) (fun d _ hf => ?_)
      · simp only [fe]
        by_cases c1 : letB W h (d / 2) = true
        · by_cases c4 : d / 2 = 4
          · simp [c4]
          · have := fe_cap (b := b) (l := 0) c1 (fun q => absurd q c4)
            rw [decide_eq_true (show bat d ≤ b by omega), decide_eq_true (show bat d ≤ c by omega)]
        · simp [c1]
      · obtain ⟨f1, f2, f3, f4⟩ := fe_let hf
        obtain ⟨g1, g2⟩ := let_h f1
        have c4 : ¬ d / 2 = 4 := fun q => by have := f4 q; omega
        unfold vV
        by_cases c3 : d / 2 = 3
        · rw [if_pos c3, if_pos c3]
          have hb2 : bat d ≤ 2 := by unfold bat; split <;> first | omega | (split <;> omega)
          have := g2 c3
          rw [ihk (hrs W - (h + 2)) (by omega) 0 (h + 2) _ (b - bat d) (c - bat d) rfl (by omega) (by omega)]
        · rw [if_neg c3, if_neg c3]
          have hb1 : bat d ≤ 1 := by unfold bat; split <;> first | omega | simp [c3]
          have e : hof (d / 2) = 1 := by simp [hof, c3, c4]
          rw [e, if_neg c4, ihk (hrs W - (h + 1)) (by omega) 0 (h + 1) _ (b - bat d) (c - bat d) rfl (by omega) (by omega)]
    | succ l ihl =>
      intro h o b c hk hb hc
      by_cases h0 : hrs W ≤ h
      · rw [V_end W N h0, V_end W N h0]
      rw [V_eq W N (by omega), V_eq W N (by omega)]
      refine mx_congr (fun d _ => ?_) (fun d _ hf => ?_)
      · simp only [fe]
        by_cases c1 : letB W h (d / 2) = true
        · have := fe_cap (b := b) (l := l + 1) c1 (fun _ => by omega)
          rw [decide_eq_true (show bat d ≤ b by omega), decide_eq_true (show bat d ≤ c by omega)]
        · simp [c1]
      · obtain ⟨f1, f2, f3, f4⟩ := fe_let hf
        obtain ⟨g1, g2⟩ := let_h f1
        unfold vV
        by_cases c3 : d / 2 = 3
        · rw [if_pos c3, if_pos c3]
          have hb2 : bat d ≤ 2 := by unfold bat; split <;> first | omega | (split <;> omega)
          have := g2 c3
          rw [ihk (hrs W - (h + 2)) (by omega) (l + 1) (h + 2) _ (b - bat d) (c - bat d) rfl (by omega) (by omega)]
        · rw [if_neg c3, if_neg c3]
          have hb1 : bat d ≤ 1 := by unfold bat; split <;> first | omega | simp [c3]
          by_cases c4 : d / 2 = 4
          · have e : hof (d / 2) = 0 := by simp [hof, c4]
            rw [e, if_pos c4]
            show les (V W N h l _ _) _ = les (V W N h l _ _) _
            rw [ihl h _ (b - bat d) (c - bat d) hk (by omega) (by omega)]
          · have e : hof (d / 2) = 1 := by simp [hof, c3, c4]
            rw [e, if_neg c4, ihk (hrs W - (h + 1)) (by omega) (l + 1) (h + 1) _ (b - bat d) (c - bat d) rfl (by omega) (by omega)]
