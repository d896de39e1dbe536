section RN
variable {st : TS} {Y : TY} {post : Int32 → Prop}
theorem eqn {a b : Nat} (ha : a < 2147483648) (hb : b < 2147483648) : (nI a = nI b) = (a = b) := propext (nI_eq ha hb)
theorem c_owedBehind {a n : Nat} {W : WD} {N : ND} (hw : WayP Y a W) (hn : NapP Y n N) {h o t : Nat} (hh : h < 1000000) (ho : o ≤ 20) (ht : t ≤ 4) (hp : post (nI (owB W N h o t))) : tp_X2_owedBehind st post Y n a (nI h) (nI o) (nI t) := by
  unfold tp_X2_owedBehind
  rw [show (0 : Int32) = nI 0 from rfl, eqn (by omega) (by omega)]
  refine ⟨fun c1 => ?_, fun c1 => ?_⟩
  · refine p_within ?_
    have e : decide ((1 : Int32) ≤ nI t ∧ nI t ≤ 3) = decide (t ≤ 3) := by
      apply decide_eq_decide.mpr
      simp (disch := omega) only [i_nI, i_lit, i_le]
      omega
    rw [e]
    refine bI_el (fun c2 => ?_) (fun c2 => ?_)
    · have c2 := of_decide_eq_true c2
      obtain ⟨n1, n2⟩ := hn.2 t (by omega) c2
      have b1 := (hn.1 t (by omega) c2).1
      have et : (nI t).toNatClampNeg = t := nI_clamp (by omega)
      refine ⟨by rw [i_nI]; exact i_in (by omega) (by omega) (by omega), ?_⟩
      rw [et, n1]
      refine p_night (by omega) (bI_el' (fun c3 => ?_) (fun c3 => ?_))
      · unfold tk_X2_owedBehind_66
        simp (disch := omega) only [i_nI, i_lit, i_sub, i_lt, i_ite]
        have e2 : owB W N h o t = o - N.1 t := by simp [owB, c1, c2, c3]
        rw [e2, i_nI] at hp
        rw [show (if (((0 : Nat) : Int) < (o : Int) - (N.1 t : Int) - ((0 : Nat) : Int)) then (o : Int) - (N.1 t : Int) - ((0 : Nat) : Int) else ((0 : Nat) : Int)) = ((o - N.1 t : Nat) : Int) by split <;> omega]
        exact hp
      · unfold tk_X2_owedBehind_66
        simp (disch := omega) only [i_nI, i_lit, i_sub, i_lt, i_ite]
        have e2 : owB W N h o t = o - N.1 t - 1 := by simp [owB, c1, c2, c3]
        rw [e2, i_nI] at hp
        rw [show (if (((0 : Nat) : Int) < (o : Int) - (N.1 t : Int) - 1) then (o : Int) - (N.1 t : Int) - 1 else ((0 : Nat) : Int)) = ((o - N.1 t - 1 : Nat) : Int) by split <;> omega]
        exact hp
    · have c2 := of_decide_eq_false c2
      simp (disch := omega) only [i_nI, i_lit, i_sub, i_lt, i_ite]
      have e2 : owB W N h o t = o - 1 := by simp [owB, c1, c2]
      rw [e2, i_nI] at hp
      rw [show (if (((0 : Nat) : Int) < (o : Int) - 1) then (o : Int) - 1 else ((0 : Nat) : Int)) = ((o - 1 : Nat) : Int) by split <;> omega]
      exact hp
  · refine p_squallAt hw (by omega) (bI_el' (fun c3 => ?_) (fun c3 => ?_))
    · have c3 : ¬ (h < hrs W ∧ sql W h = 1) := by simpa using c3
      unfold tk_X2_owedBehind_21
      simp (disch := omega) only [i_nI, i_lit, i_add, i_lt, i_ite]
      have e2 : owB W N h o t = min 20 (o + 1) := by simp [owB, c1, c3]
      rw [e2, i_nI] at hp
      rw [show (if ((o : Int) + 1 < 20) then (o : Int) + 1 else 20) = ((min 20 (o + 1) : Nat) : Int) by split <;> omega]
      exact hp
    · have c3 : h < hrs W ∧ sql W h = 1 := by simpa using c3
      unfold tk_X2_owedBehind_21
      simp (disch := omega) only [i_nI, i_lit, i_add, i_lt, i_ite]
      have e2 : owB W N h o t = min 20 (o + 2) := by simp [owB, c1, c3]
      rw [e2, i_nI] at hp
      rw [show (if ((o : Int) + 2 < 20) then (o : Int) + 2 else 20) = ((min 20 (o + 2) : Nat) : Int) by split <;> omega]
      exact hp
theorem c_blindAlone {n : Nat} {N : ND} (hn : NapP Y n N) {o t : Nat} (ho : o ≤ 20) (ht : t ≤ 4) (hp : post (nI (blA N t o))) : tp_X2_blindAlone st post Y n (nI t) (nI o) := by
  unfold tp_X2_blindAlone
  intro x ex
  have hx : x = nI (o - 10) := by
    rw [ex]
    simp (disch := omega) only [i_nI, i_lit, i_sub, i_lt, i_ite]
    congr 1
    split <;> omega
  rw [hx, show (0 : Int32) = nI 0 from rfl, eqn (by omega) (by omega)]
  refine ⟨fun c1 => ?_, fun c1 => ?_⟩
  · refine p_within ?_
    have e : decide ((1 : Int32) ≤ nI t ∧ nI t ≤ 3) = decide (t ≤ 3) := by
      apply decide_eq_decide.mpr
      simp (disch := omega) only [i_nI, i_lit, i_le]
      omega
    rw [e]
    refine bI_el (fun c2 => ?_) (fun c2 => ?_)
    · have c2 := of_decide_eq_true c2
      obtain ⟨n1, n2⟩ := hn.2 t (by omega) c2
      have b1 := (hn.1 t (by omega) c2).2
      have et : (nI t).toNatClampNeg = t := nI_clamp (by omega)
      refine ⟨by rw [i_nI]; exact i_in (by omega) (by omega) (by omega), ?_⟩
      rw [et, n2]
      have e2 : blA N t o = min 1000 (N.2 t + 20 * (o - 10)) := by simp [blA, c1, c2]
      rw [e2, i_nI] at hp
      simp (disch := omega) only [i_nI, i_lit, i_mul, i_add, i_lt, i_ite]
      rw [show (if ((N.2 t : Int) + 20 * ((o - 10 : Nat) : Int) < 1000) then (N.2 t : Int) + 20 * ((o - 10 : Nat) : Int) else 1000) = ((min 1000 (N.2 t + 20 * (o - 10)) : Nat) : Int) by split <;> omega]
      exact hp
    · have c2 := of_decide_eq_false c2
      have e2 : blA N t o = 300 := by simp [blA, c1, c2]
      rw [e2] at hp
      exact hp
  · have e2 : blA N t o = 20 + 10 * (o - 10) := by simp [blA, c1]
    rw [e2] at hp
    rw [show (20 : Int32) = nI 20 from rfl, show (10 : Int32) = nI 10 from rfl, pk_mul, nI_add]
    exact hp
theorem c_blindOf {n : Nat} {N : ND} (hn : NapP Y n N) {o t b : Nat} (ho : o ≤ 20) (ht : t ≤ 4) (hb : b ≤ 1) (hp : post (nI (blB N t b o))) : tp_X2_blindOf st post Y n (nI (2 * t + b)) (nI o) := by
  unfold tp_X2_blindOf
  have e1 : nI (2 * t + b) / (2 : Int32) = nI t := by
    rw [show (2 : Int32) = nI 2 from rfl, pk_div (by omega) (by omega) (by omega)]
    congr 1
    omega
  have e2 : nI (2 * t + b) - nI t * (2 : Int32) = nI b := by
    simp (disch := omega) only [i_nI, i_lit, i_mul, i_sub]
    congr 1
    omega
  rw [e1, e2]
  refine c_blindAlone hn ho ht ?_
  have hA := blA_le (N := N) (t := t) ho
  rw [show (0 : Int32) = nI 0 from rfl, eqn (by omega) (by omega)]
  refine ⟨fun c x ex => ?_, fun c => ?_⟩
  · have hx : x = nI (600 - 40 * o) := by
      rw [ex]
      simp (disch := omega) only [i_nI, i_lit, i_sub, i_mul, i_lt, i_ite]
      congr 1
      split <;> omega
    have e3 : blB N t b o = blA N t o * (1000 - (600 - 40 * o)) / 1000 := by simp [blB, c]
    rw [e3] at hp
    have hm : blA N t o * (1000 - (600 - 40 * o)) ≤ 1000 * 1000 := Nat.mul_le_mul hA (by omega)
    rw [hx, show (1000 : Int32) = nI 1000 from rfl, pk_sub (by omega), pk_mul, pk_div (by omega) (by omega) (by omega)]
    exact hp
  · have e3 : blB N t b o = blA N t o := by simp [blB, c]
    rw [e3] at hp
    exact hp
-- the reference
theorem ix {w h : Nat} (k : Nat) (hk : (k : Nat) < 1000000) (hw : w ≤ 1) (hh : h < 1000000) : nI k * nI w + nI h = nI (k * w + h) := by rw [pk_mul, nI_add]
theorem m_isSquall {m w : Nat} {W : WD} (hw : wfW W) (hm : MWP Y m w W) (hw1 : w ≤ 1) {h : Nat} (hh : h < hrs W) (hp : post (bI (decide (sql W h = 1)))) : tp_X10_isSquall st post Y m (nI w) (nI h) := by
  have h48 := hw.2.1
  have hs := sql_le hw h
  unfold tp_X10_isSquall
  rw [show (48 : Int32) = nI 48 from rfl, ix 48 (by omega) hw1 (by omega), nI_clamp (by omega), (hm.2.2.2 h hh).2, show (1 : Int32) = nI 1 from rfl, eqn (by omega) (by omega)]
  refine ⟨vp_in_nI (by omega) (by omega), fun c => ?_, fun c => ?_⟩
  · exact bI_f hp (decide_eq_false c)
  · exact bI_t hp (decide_eq_true c)
theorem m_canBe {m w : Nat} {W : WD} (hw : wfW W) (hm : MWP Y m w W) (hw1 : w ≤ 1) {h t : Nat} (hh : h < 1000000) (ht : t ≤ 4) (hp : post (bI (letB W h t))) : tp_X10_canBe st post Y m (nI w) (nI h) (nI t) := by
  have h48 := hw.2.1
  unfold tp_X10_canBe
  have hin : vp_in (nI w) 2 := vp_in_nI (by omega) (by omega)
  have e0 : (nI t = 0) = (t = 0) := by rw [show (0 : Int32) = nI 0 from rfl, eqn (by omega) (by omega)]
  have e3 : (nI t = (3 : Int32)) = (t = 3) := by rw [show (3 : Int32) = nI 3 from rfl, eqn (by omega) (by omega)]
  have ew : (nI w).toNatClampNeg = w := nI_clamp (by omega)
  have ele : ∀ j, j < 2000000 → (nI (hrs W) ≤ nI j) = (hrs W ≤ j) := fun j hj => propext (nI_leI (by omega) (by omega))
  have key : h < hrs W → (t = 0 ∨ ¬ sql W h = 1) → tk_X10_canBe_25 st post Y m (nI w) (nI h) (nI t) := by
    intro c1 c2
    unfold tk_X10_canBe_25
    rw [e3, ew, hm.2.1, show nI h + (1 : Int32) = nI (h + 1) from nI_1 h, ele _ (by omega)]
    refine ⟨fun c3 => ?_, fun c3 => ⟨hin, fun c4 => ?_, fun c4 => ?_⟩⟩
    · refine bI_t hp ?_
      rcases c2 with c2 | c2 <;> simp [letB, c1, c2, c3]
    · refine bI_f hp ?_
      have c2 : ¬ sql W h = 1 := by omega
      simp [letB, c1, c2, c3]
      omega
    · have c2 : ¬ sql W h = 1 := by omega
      refine m_isSquall hw hm hw1 (by omega) (bI_el (fun c5 => ?_) (fun c5 => ?_))
      · have c5 := of_decide_eq_true c5
        refine bI_f hp ?_
        simp [letB, c1, c2, c3, c5]
      · have c5 := of_decide_eq_false c5
        refine bI_t hp ?_
        simp [letB, c1, c2, c3, c5]
        omega
  rw [ew, hm.2.1, ele _ (by omega), e0]
  refine ⟨hin, fun c1 => ?_, fun c1 => ?_⟩
  · refine bI_f hp ?_
    have : ¬ h < hrs W := by omega
    simp [letB, this]
  · have c1 : h < hrs W := by omega
    refine m_isSquall hw hm hw1 c1 (bI_el' (fun c2 => ?_) (fun c2 => ⟨fun c3 => ?_, fun c3 => ?_⟩))
    · exact key c1 (Or.inr (of_decide_eq_false c2))
    · exact key c1 (Or.inl c3)
    · refine bI_f hp ?_
      have c2 := of_decide_eq_true c2
      simp [letB, c1, c2, c3]
theorem m_clamp {m : Nat} {v1 v2 v3 v4 : Int32} {z : Int} (h1 : -1000 ≤ z) (h2 : z ≤ 1000) (hp : post (iI (if z < 0 then 0 else if 20 < z then 20 else z))) : tk_X10_owedBehind_69 st post Y m v1 v2 v3 v4 (iI z) := by
  unfold tk_X10_owedBehind_69
  simp (disch := omega) only [i_lit, i_le]
  refine ⟨fun c => ⟨fun c2 => ?_, fun c2 => ?_⟩, fun c => ?_⟩
  · rw [if_neg (by omega), if_neg (by omega)] at hp
    exact hp
  · rw [if_neg (by omega), if_pos (by omega)] at hp
    exact hp
  · rw [if_pos (by omega)] at hp
    exact hp
theorem m_owedBehind {m w : Nat} {W : WD} {N : ND} (hw : wfW W) (hm : MWP Y m w W) (hN : wfN N) (hn : MNP Y m N) (hw1 : w ≤ 1) {h o t : Nat} (hh : h < hrs W) (ho : o ≤ 20) (ht : t ≤ 4) (hp : post (nI (owB W N h o t))) : tp_X10_owedBehind st post Y m (nI w) (nI h) (nI o) (nI t) := by
  have h48 := hw.2.1
  unfold tp_X10_owedBehind
  have e0 : (nI t = 0) = (t = 0) := by rw [show (0 : Int32) = nI 0 from rfl, eqn (by omega) (by omega)]
  have e4 : (nI t = (4 : Int32)) = (t = 4) := by rw [show (4 : Int32) = nI 4 from rfl, eqn (by omega) (by omega)]
  rw [e0, e4]
  rw [i_nI] at hp
  refine ⟨fun c1 => ⟨fun c2 => ?_, fun c2 x ex => ?_⟩, fun c1 => ?_⟩
  · obtain ⟨n1, n2⟩ := hn t (by omega) (by omega)
    have b1 := (hN t (by omega) (by omega)).1
    have et : nI t - (1 : Int32) = nI (t - 1) := pk_sub (b := 1) (by omega)
    rw [et, nI_clamp (by omega), n1]
    refine ⟨vp_in_nI (by omega) (by omega), p_mnight (by omega) (bI_el' (fun c3 => ?_) (fun c3 => ?_))⟩
    · unfold tk_X10_owedBehind_65
      intro x ex
      rw [ex]
      simp only [i_nI, i_lit, i_add, i_sub]
      refine m_clamp (by omega) (by omega) ?_
      have e2 : owB W N h o t = o - N.1 t := by simp [owB, c1, c3]; omega
      rw [e2] at hp
      rw [show (if (o : Int) - ((N.1 t : Int) + 0) < 0 then (0 : Int) else if 20 < (o : Int) - ((N.1 t : Int) + 0) then 20 else (o : Int) - ((N.1 t : Int) + 0)) = ((o - N.1 t : Nat) : Int) by (split <;> first | omega | (split <;> omega))]
      exact hp
    · unfold tk_X10_owedBehind_65
      intro x ex
      rw [ex]
      simp only [i_nI, i_lit, i_add, i_sub]
      refine m_clamp (by omega) (by omega) ?_
      have e2 : owB W N h o t = o - N.1 t - 1 := by simp [owB, c1, c3]; omega
      rw [e2] at hp
      rw [show (if (o : Int) - ((N.1 t : Int) + 1) < 0 then (0 : Int) else if 20 < (o : Int) - ((N.1 t : Int) + 1) then 20 else (o : Int) - ((N.1 t : Int) + 1)) = ((o - N.1 t - 1 : Nat) : Int) by (split <;> first | omega | (split <;> omega))]
      exact hp
  · rw [ex]
    simp only [i_nI, i_lit, i_neg, i_add]
    refine m_clamp (by omega) (by omega) ?_
    have e2 : owB W N h o t = o - 1 := by simp [owB, c2]
    rw [e2] at hp
    rw [show (if (o : Int) + -1 < 0 then (0 : Int) else if 20 < (o : Int) + -1 then 20 else (o : Int) + -1) = ((o - 1 : Nat) : Int) by (split <;> first | omega | (split <;> omega))]
    exact hp
  · refine m_isSquall hw hm hw1 hh (bI_el' (fun c3 => ?_) (fun c3 => ?_))
    · have c3 := of_decide_eq_false c3
      unfold tk_X10_owedBehind_24
      intro x ex
      rw [ex]
      simp only [i_nI, i_lit, i_add]
      refine m_clamp (by omega) (by omega) ?_
      have e2 : owB W N h o t = min 20 (o + 1) := by simp [owB, c1, c3]
      rw [e2] at hp
      rw [show (if (o : Int) + 1 < 0 then (0 : Int) else if 20 < (o : Int) + 1 then 20 else (o : Int) + 1) = ((min 20 (o + 1) : Nat) : Int) by (split <;> first | omega | (split <;> omega))]
      exact hp
    · have c3 := of_decide_eq_true c3
      unfold tk_X10_owedBehind_24
      intro x ex
      rw [ex]
      simp only [i_nI, i_lit, i_add]
      refine m_clamp (by omega) (by omega) ?_
      have e2 : owB W N h o t = min 20 (o + 2) := by simp [owB, c1, c3, hh]
      rw [e2] at hp
      rw [show (if (o : Int) + 2 < 0 then (0 : Int) else if 20 < (o : Int) + 2 then 20 else (o : Int) + 2) = ((min 20 (o + 2) : Nat) : Int) by (split <;> first | omega | (split <;> omega))]
      exact hp
theorem m_blindOf {m : Nat} {N : ND} (hN : wfN N) (hn : MNP Y m N) {o t b : Nat} (ho : o ≤ 20) (ht : t ≤ 4) (hb : b ≤ 1) (hp : post (nI (blB N t b o))) : tp_X10_blindOf st post Y m (nI o) (nI t) (nI b) := by
  have hA := blA_le (N := N) (t := t) ho
  have k74 : tk_X10_blindOf_74 st post Y m (nI o) (nI t) (nI b) (nI (blA N t o)) := by
    unfold tk_X10_blindOf_74 tk_X10_blindOf_111
    intro x ex
    have eb : (nI b = 0) = (b = 0) := by rw [show (0 : Int32) = nI 0 from rfl, eqn (by omega) (by omega)]
    have hx : x = iI (600 - 40 * (o : Int)) := by
      rw [ex]
      simp only [i_nI, i_lit, i_mul, i_sub]
    have hm : blA N t o * (1000 - (600 - 40 * o)) ≤ 1000 * 1000 := Nat.mul_le_mul hA (by omega)
    rw [eb, hx]
    refine ⟨fun c => ⟨fun c2 => ?_, fun c2 => ?_⟩, fun c => ?_⟩
    · simp (disch := omega) only [i_lit, i_le] at c2
      have e3 : blB N t b o = blA N t o * (1000 - (600 - 40 * o)) / 1000 := by simp [blB, c]
      rw [e3] at hp
      rw [show iI (600 - 40 * (o : Int)) = nI (600 - 40 * o) by rw [i_nI]; congr 1; omega, show (1000 : Int32) = nI 1000 from rfl, pk_sub (by omega), pk_mul, pk_div (by omega) (by omega) (by omega)]
      exact hp
    · simp (disch := omega) only [i_lit, i_le] at c2
      have e3 : blB N t b o = blA N t o * (1000 - (600 - 40 * o)) / 1000 := by simp [blB, c]
      rw [e3, show 600 - 40 * o = 0 by omega] at hp
      rw [show (600 - 40 * o) = 0 by omega] at hm
      rw [show (0 : Int32) = nI 0 from rfl, show (1000 : Int32) = nI 1000 from rfl, pk_sub (by omega), pk_mul, pk_div (by omega) (by omega) (by omega)]
      exact hp
    · have e3 : blB N t b o = blA N t o := by simp [blB, c]
      rw [e3] at hp
      exact hp
  have k56 : ∀ z : Nat, z ≤ 100000 → min 1000 z = blA N t o → tk_X10_blindOf_56 st post Y m (nI o) (nI t) (nI b) (nI z) := by
    intro z hz e
    unfold tk_X10_blindOf_56
    rw [show (1000 : Int32) = nI 1000 from rfl, nI_leI (by omega) (by omega)]
    refine ⟨fun c => ?_, fun c => ?_⟩
    · rw [show z = blA N t o by omega]
      exact k74
    · rw [show (1000 : Nat) = blA N t o by omega]
      exact k74
  have k14 : tk_X10_blindOf_14 st post Y m (nI o) (nI t) (nI b) (nI (o - 10)) := by
    unfold tk_X10_blindOf_14
    have e0 : (nI t = 0) = (t = 0) := by rw [show (0 : Int32) = nI 0 from rfl, eqn (by omega) (by omega)]
    have e4 : (nI t = (4 : Int32)) = (t = 4) := by rw [show (4 : Int32) = nI 4 from rfl, eqn (by omega) (by omega)]
    rw [e0, e4]
    refine ⟨fun c1 => ⟨fun c2 => ?_, fun c2 => ?_⟩, fun c1 => ?_⟩
    · obtain ⟨n1, n2⟩ := hn t (by omega) (by omega)
      have b1 := (hN t (by omega) (by omega)).2
      have et : nI t - (1 : Int32) = nI (t - 1) := pk_sub (b := 1) (by omega)
      rw [et, nI_clamp (by omega), n2, show (20 : Int32) = nI 20 from rfl, pk_mul, nI_add]
      refine ⟨vp_in_nI (by omega) (by omega), k56 _ (by omega) ?_⟩
      have : t ≤ 3 := by omega
      simp [blA, c1, this]
    · refine k56 300 (by omega) ?_
      simp [blA, c2]
    · rw [show (20 : Int32) = nI 20 from rfl, show (10 : Int32) = nI 10 from rfl, pk_mul, nI_add]
      refine k56 _ (by omega) ?_
      simp only [blA, c1, if_true]
      omega
  unfold tp_X10_blindOf
  rw [show (10 : Int32) = nI 10 from rfl, nI_leI (by omega) (by omega)]
  refine ⟨fun c => ?_, fun c => ?_⟩
  · rw [show o - 10 = 0 by omega] at k14
    exact k14
  · rw [pk_sub (by omega)]
    exact k14
theorem m_riskOf {m w : Nat} {W : WD} {N : ND} (hw : wfW W) (hm : MWP Y m w W) (hN : wfN N) (hn : MNP Y m N) (hw1 : w ≤ 1) {h o t b : Nat} (hh : h < hrs W) (ho : o ≤ 20) (ht : t ≤ 4) (hb : b ≤ 1) (hp : post (nI (shp W h * blB N t b o))) : tp_X10_riskOf st post Y m (nI w) (nI h) (nI o) (nI t) (nI b) := by
  have h48 := hw.2.1
  unfold tp_X10_riskOf
  rw [show (48 : Int32) = nI 48 from rfl, ix 48 (by omega) hw1 (by omega), nI_clamp (by omega), (hm.2.2.2 h hh).1]
  refine ⟨vp_in_nI (by omega) (by omega), m_blindOf hN hn ho ht hb ?_⟩
  rw [pk_mul]
  exact hp
end RN
