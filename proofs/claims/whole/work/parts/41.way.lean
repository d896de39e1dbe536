-- THE MATHEMATICAL VALUES: a way (how many legs; hours, ships, squall of each), naps (give, deep by nap)
abbrev WD : Type := Nat × (Nat → Nat) × (Nat → Nat) × (Nat → Nat)
abbrev ND : Type := (Nat → Nat) × (Nat → Nat)
def hrF (lh : Nat → Nat) : Nat → Nat
  | 0 => 0
  | n + 1 => hrF lh n + lh n
def atF (lh f : Nat → Nat) : Nat → Nat → Nat
  | 0, _ => 0
  | n + 1, h => if h < hrF lh n then atF lh f n h else f n
def hrs (W : WD) : Nat := hrF W.2.1 W.1
def shp (W : WD) (h : Nat) : Nat := atF W.2.1 W.2.2.1 W.1 h
def sql (W : WD) (h : Nat) : Nat := atF W.2.1 W.2.2.2 W.1 h
def wfW (W : WD) : Prop := W.1 ≤ 8 ∧ hrs W ≤ 48 ∧ ∀ k, k < W.1 → 1 ≤ W.2.1 k ∧ W.2.1 k ≤ 24 ∧ W.2.2.1 k ≤ 500 ∧ W.2.2.2 k ≤ 1
def wfN (N : ND) : Prop := ∀ k, 1 ≤ k → k ≤ 3 → N.1 k ≤ 9 ∧ N.2 k ≤ 1000
theorem atF_le {lh f : Nat → Nat} {M : Nat} : ∀ {n h : Nat}, (∀ k, k < n → f k ≤ M) → atF lh f n h ≤ M
  | 0, _, _ => Nat.zero_le _
  | n + 1, h, hf => by
    unfold atF
    split
    · exact atF_le (fun k hk => hf k (by omega))
    · exact hf n (by omega)
theorem shp_le {W : WD} (hw : wfW W) (h : Nat) : shp W h ≤ 500 := atF_le (fun k hk => (hw.2.2 k hk).2.2.1)
theorem sql_le {W : WD} (hw : wfW W) (h : Nat) : sql W h ≤ 1 := atF_le (fun k hk => (hw.2.2 k hk).2.2.2)
def bI (b : Bool) : Int32 := if b then 1 else 0
theorem bI_el {b : Bool} {A B : Prop} (h1 : b = true → A) (h0 : b = false → B) : (¬ bI b = 0 → A) ∧ (bI b = 0 → B) := by
  cases b
  · exact ⟨fun q => absurd rfl q, fun _ => h0 rfl⟩
  · exact ⟨fun _ => h1 rfl, fun q => absurd q (by decide)⟩
theorem bI_el' {b : Bool} {A B : Prop} (h0 : b = false → B) (h1 : b = true → A) : (bI b = 0 → B) ∧ (¬ bI b = 0 → A) := ⟨(bI_el h1 h0).2, (bI_el h1 h0).1⟩
theorem bI_f {b : Bool} {post : Int32 → Prop} (hp : post (bI b)) (h : b = false) : post 0 := by
  subst h
  exact hp
theorem bI_t {b : Bool} {post : Int32 → Prop} (hp : post (bI b)) (h : b = true) : post 1 := by
  subst h
  exact hp
theorem bI_or (b : Bool) : bI b = 0 ∨ bI b = 1 := by cases b <;> simp [bI]
def letB (W : WD) (h t : Nat) : Bool := decide (h < hrs W) && (decide (t = 0) || (!decide (sql W h = 1) && (!decide (t = 3) || (decide (h + 1 < hrs W) && !decide (sql W (h + 1) = 1)))))
def nigB (h : Nat) : Bool := decide (12 ≤ h % 24)
def owB (W : WD) (N : ND) (h o t : Nat) : Nat := if t = 0 then min 20 (o + (if h < hrs W ∧ sql W h = 1 then 2 else 1)) else if t ≤ 3 then o - N.1 t - (if nigB h then 1 else 0) else o - 1
def blA (N : ND) (t o : Nat) : Nat := if t = 0 then 20 + 10 * (o - 10) else if t ≤ 3 then min 1000 (N.2 t + 20 * (o - 10)) else 300
def blB (N : ND) (t bell o : Nat) : Nat := if bell = 0 then blA N t o else blA N t o * (1000 - (600 - 40 * o)) / 1000
theorem blA_le {N : ND} {t o : Nat} (ho : o ≤ 20) : blA N t o ≤ 1000 := by
  unfold blA
  split
  · omega
  · split
    · exact Nat.min_le_left _ _
    · omega
theorem blB_le {N : ND} {t b o : Nat} (ho : o ≤ 20) : blB N t b o ≤ 1000 := by
  unfold blB
  have h := blA_le (N := N) (t := t) ho
  split
  · exact h
  · have : blA N t o * (1000 - (600 - 40 * o)) ≤ 1000 * 1000 := Nat.mul_le_mul h (by omega)
    omega
theorem owB_le {W : WD} {N : ND} {h o t : Nat} (ho : o ≤ 20) : owB W N h o t ≤ 20 := by
  unfold owB
  split
  · exact Nat.min_le_left _ _
  · split <;> omega
-- pictures
def WayP (Y : TY) (a : Nat) (W : WD) : Prop := wfW W ∧ tI Y a 0 = nI W.1 ∧ tI Y a 1 = nI (hrs W) ∧ (∀ k, k < W.1 → tA Y a 2 k = nI (W.2.1 k) ∧ tA Y a 3 k = nI (W.2.2.1 k) ∧ tA Y a 4 k = nI (W.2.2.2 k)) ∧ (∀ h, h < hrs W → tA Y a 5 h = nI (shp W h) ∧ tA Y a 6 h = nI (sql W h))
def NapP (Y : TY) (a : Nat) (N : ND) : Prop := wfN N ∧ ∀ k, 1 ≤ k → k ≤ 3 → tA Y a 0 k = nI (N.1 k) ∧ tA Y a 1 k = nI (N.2 k)
def MWP (Y : TY) (m w : Nat) (W : WD) : Prop := tA Y m 3 w = nI W.1 ∧ tA Y m 4 w = nI (hrs W) ∧ (∀ k, k < W.1 → tA Y m 0 (8 * w + k) = nI (W.2.1 k) ∧ tA Y m 1 (8 * w + k) = nI (W.2.2.1 k) ∧ tA Y m 2 (8 * w + k) = nI (W.2.2.2 k)) ∧ (∀ h, h < hrs W → tA Y m 5 (48 * w + h) = nI (shp W h) ∧ tA Y m 6 (48 * w + h) = nI (sql W h))
def MNP (Y : TY) (m : Nat) (N : ND) : Prop := ∀ k, 1 ≤ k → k ≤ 3 → tA Y m 7 (k - 1) = nI (N.1 k) ∧ tA Y m 8 (k - 1) = nI (N.2 k)
section RD
variable {st : TS} {Y : TY} {post : Int32 → Prop}
theorem p_within {v lo hi : Int32} (hp : post (bI (decide (lo ≤ v ∧ v ≤ hi)))) : tp_X9_within st post Y v lo hi := by
  refine ⟨fun c => ?_, fun c => ⟨fun c2 => ?_, fun c2 => ?_⟩⟩
  · have : ¬ (lo ≤ v ∧ v ≤ hi) := fun q => absurd q.1 (Int32.not_le.mpr c)
    simpa [bI, this] using hp
  · have : ¬ (lo ≤ v ∧ v ≤ hi) := fun q => absurd q.2 (Int32.not_le.mpr c2)
    simpa [bI, this] using hp
  · have : lo ≤ v ∧ v ≤ hi := ⟨Int32.not_lt.mp c, Int32.not_lt.mp c2⟩
    simpa [bI, this] using hp
theorem w_lt (a b : Int32) : (a.toInt64 < b.toInt64) = (a < b) := by
  rw [Int64.lt_iff_toInt_lt, Int32.lt_iff_toInt_lt, Int32.toInt_toInt64, Int32.toInt_toInt64]
theorem p_in {v lo hi : Int32} (hp : post (bI (decide (lo ≤ v ∧ v ≤ hi)))) : tp_X10_in st post Y v.toInt64 lo.toInt64 hi.toInt64 := by
  unfold tp_X10_in
  simp only [lgc_lt, lgc_gt, w_lt]
  exact p_within (st := st) (Y := Y) hp
theorem p_isWay {v : Int32} (hp : post (bI (decide (0 ≤ v ∧ v ≤ 1)))) : tp_X10_isWay st post Y v := p_in (lo := 0) (hi := 1) ⟨bI_or _, hp⟩
theorem p_isOwed {v : Int32} (hp : post (bI (decide (0 ≤ v ∧ v ≤ 20)))) : tp_X10_isOwed st post Y v := p_in (lo := 0) (hi := 20) ⟨bI_or _, hp⟩
theorem p_isBattery {v : Int32} (hp : post (bI (decide (0 ≤ v ∧ v ≤ 24)))) : tp_X10_isBattery st post Y v := p_in (lo := 0) (hi := 24) ⟨bI_or _, hp⟩
theorem p_isEnd {v : Int32} (hp : post (bI (decide (0 ≤ v ∧ v ≤ 1)))) : tp_X10_isEnd st post Y v := p_in (lo := 0) (hi := 1) ⟨bI_or _, hp⟩
theorem p_cOwed {v : Int32} (hp : post (bI (decide (0 ≤ v ∧ v ≤ 20)))) : tp_X9_isOwed st post Y v := p_within ⟨bI_or _, hp⟩
theorem p_cBattery {v : Int32} (hp : post (bI (decide (0 ≤ v ∧ v ≤ 24)))) : tp_X9_isBattery st post Y v := p_within ⟨bI_or _, hp⟩
theorem p_cThing {v : Int32} (hp : post (bI (decide (0 ≤ v ∧ v ≤ 4)))) : tp_X9_isThing st post Y v := p_within ⟨bI_or _, hp⟩
theorem p_night {h : Nat} (hh : h < 2147483648) (hp : post (bI (nigB h))) : tp_X9_isNight st post Y (nI h) := by
  unfold tp_X9_isNight
  simp (disch := omega) only [i_nI, i_lit, i_div, i_mul, i_sub, i_lt]
  refine ⟨fun c => ?_, fun c => ?_⟩
  · have : nigB h = false := by simp [nigB]; omega
    exact bI_f hp this
  · have : nigB h = true := by simp [nigB]; omega
    exact bI_t hp this
theorem p_mnight {h : Nat} (hh : h < 2147483648) (hp : post (bI (nigB h))) : tp_X10_isNight st post Y (nI h) := p_night (st := st) (Y := Y) hh hp
theorem p_hasHour {a : Nat} {W : WD} (hw : WayP Y a W) {h : Nat} (hh : h < 2147483648) (hp : post (bI (decide (h < hrs W)))) : tp_X8_hasHour st post Y a (nI h) := by
  have h48 := hw.1.2.1
  unfold tp_X8_hasHour
  rw [hw.2.2.1]
  simp (disch := omega) only [i_nI, i_lit, i_lt, i_le]
  refine ⟨fun c => by omega, fun _ => ⟨fun c => ?_, fun c => ?_⟩⟩
  · have : ¬ h < hrs W := by omega
    exact bI_f hp (decide_eq_false this)
  · have : h < hrs W := by omega
    exact bI_t hp (decide_eq_true this)
theorem p_shipsAt {a : Nat} {W : WD} (hw : WayP Y a W) {h : Nat} (hh : h < 2147483648) (hp : post (nI (if h < hrs W then shp W h else 0))) : tp_X8_shipsAt st post Y a (nI h) := by
  have h48 := hw.1.2.1
  unfold tp_X8_shipsAt
  rw [hw.2.2.1]
  simp (disch := omega) only [i_nI, i_lit, i_lt, i_le, i_cl]
  refine ⟨fun c => by omega, fun _ => ⟨fun c => ?_, fun c => ⟨i_in (by omega) (by omega) (by omega), ?_⟩⟩⟩
  · have : ¬ h < hrs W := by omega
    rw [if_neg this] at hp
    exact hp
  · have hlt : h < hrs W := by omega
    rw [if_pos hlt] at hp
    rw [show ((h : Int).toNat) = h from Int.toNat_natCast h, (hw.2.2.2.2 h hlt).1]
    exact hp
theorem p_squallAt {a : Nat} {W : WD} (hw : WayP Y a W) {h : Nat} (hh : h < 2147483648) (hp : post (bI (decide (h < hrs W) && decide (sql W h = 1)))) : tp_X8_squallAt st post Y a (nI h) := by
  have h48 := hw.1.2.1
  have hs := sql_le hw.1 h
  unfold tp_X8_squallAt
  rw [hw.2.2.1]
  simp (disch := omega) only [i_nI, i_lit, i_lt, i_le, i_cl]
  refine ⟨fun c => by omega, fun _ => ⟨fun c => ?_, fun c => ⟨i_in (by omega) (by omega) (by omega), ?_⟩⟩⟩
  · have : ¬ h < hrs W := by omega
    exact bI_f hp (by simp [this])
  · have hlt : h < hrs W := by omega
    rw [show ((h : Int).toNat) = h from Int.toNat_natCast h, (hw.2.2.2.2 h hlt).2]
    simp (disch := omega) only [i_nI, i_eq]
    refine ⟨fun c => ?_, fun c => ?_⟩
    · have : ¬ sql W h = 1 := by omega
      exact bI_f hp (by simp [this])
    · have : sql W h = 1 := by omega
      exact bI_t hp (by simp [this, hlt])
theorem p_lets {a : Nat} {W : WD} (hw : WayP Y a W) {h t : Nat} (hh : h < 1000000) (ht : t ≤ 4) (hp : post (bI (letB W h t))) : tp_X8_lets st post Y a (nI h) (nI t) := by
  unfold tp_X8_lets
  refine p_hasHour hw (by omega) (bI_el (fun c1 => ?_) (fun c1 => ?_))
  · have c1 := of_decide_eq_true c1
    have e1 : nI h + (1 : Int32) = nI (h + 1) := nI_1 h
    have e0 : (nI t = 0) = (t = 0) := by
      simp (disch := omega) only [i_nI, i_lit, i_eq]
      apply propext; omega
    have e3 : (nI t = (3 : Int32)) = (t = 3) := by
      simp (disch := omega) only [i_nI, i_lit, i_eq]
      apply propext; omega
    rw [e1, e0, e3]
    refine ⟨fun c2 => ?_, fun c2 => by simpa [letB, c1, c2, bI] using hp⟩
    refine p_squallAt hw (by omega) (bI_el' (fun c3 => ⟨fun c4 => ?_, fun c4 => ?_⟩) (fun c3 => ?_))
    · have c3 : ¬ sql W h = 1 := by simpa [c1] using c3
      simpa [letB, c1, c2, c3, c4, bI] using hp
    · have c3 : ¬ sql W h = 1 := by simpa [c1] using c3
      refine p_hasHour hw (by omega) (bI_el' (fun c5 => ?_) (fun c5 => ?_))
      · have c5 := of_decide_eq_false c5
        simpa [letB, c1, c2, c3, c4, c5, bI] using hp
      · have c5 := of_decide_eq_true c5
        refine p_squallAt hw (by omega) (bI_el (fun c6 => ?_) (fun c6 => ?_))
        · have c6 : sql W (h + 1) = 1 := by simpa [c5] using c6
          simpa [letB, c1, c2, c3, c4, c5, c6, bI] using hp
        · have c6 : ¬ sql W (h + 1) = 1 := by simpa [c5] using c6
          simpa [letB, c1, c2, c3, c4, c5, c6, bI] using hp
    · have c3 : sql W h = 1 := by simpa [c1] using c3
      simpa [letB, c1, c2, c3, bI] using hp
  · have c1 := of_decide_eq_false c1
    simpa [letB, c1, bI] using hp
end RD
