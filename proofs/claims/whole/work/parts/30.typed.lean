-- THE TYPED STATE: kinds, ints by object and slot, arrays by owner and slot, the boat's way, the plans' planes
abbrev TY : Type := (Nat → Nat) × (Nat → Nat → Int32) × (Nat → Nat → Nat → Int32) × (Nat → Option Nat) × (Nat → Nat → Option Nat)
abbrev TS : Type := (Nat → Nat → Nat) × (Nat → Nat → Nat → Option Nat)
def tK (Y : TY) (a : Nat) : Nat := Y.1 a
def tI (Y : TY) (a s : Nat) : Int32 := Y.2.1 a s
def tA (Y : TY) (a s : Nat) : Nat → Int32 := Y.2.2.1 a s
def tW (Y : TY) (a : Nat) : Option Nat := Y.2.2.2.1 a
def tP (Y : TY) (a : Nat) : Nat → Option Nat := Y.2.2.2.2 a
def sI (Y : TY) (a s : Nat) (v : Int32) : TY := (Y.1, va_up Y.2.1 a (upd (Y.2.1 a) s v), Y.2.2.1, Y.2.2.2.1, Y.2.2.2.2)
def sF (Y : TY) (a s : Nat) (g : Nat → Int32) : TY := (Y.1, Y.2.1, va_up Y.2.2.1 a (va_up (Y.2.2.1 a) s g), Y.2.2.2.1, Y.2.2.2.2)
def sW (Y : TY) (a : Nat) (r : Option Nat) : TY := (Y.1, Y.2.1, Y.2.2.1, va_up Y.2.2.2.1 a r, Y.2.2.2.2)
/-- a new plane q of the plan a at the place i -/
def sN (Y : TY) (a i q : Nat) : TY := (va_up Y.1 q 5, va_up Y.2.1 q (upd (fun _ => 0) 0 49), va_up Y.2.2.1 q (fun _ _ => 0), Y.2.2.2.1, va_up Y.2.2.2.2 a (va_up (Y.2.2.2.2 a) i (some q)))
theorem tI_sI (Y : TY) (a s b t : Nat) (v : Int32) : tI (sI Y a s v) b t = if b = a ∧ t = s then v else tI Y b t := by
  by_cases h : b = a
  · subst h
    by_cases h2 : t = s
    · simp [tI, sI, va_up, upd, h2]
    · simp [tI, sI, va_up, upd, h2]
  · simp [tI, sI, va_up, h]
theorem tA_sF (Y : TY) (a s b t : Nat) (g : Nat → Int32) : tA (sF Y a s g) b t = if b = a ∧ t = s then g else tA Y b t := by
  by_cases h : b = a
  · subst h
    by_cases h2 : t = s
    · simp [tA, sF, va_up, h2]
    · simp [tA, sF, va_up, h2]
  · simp [tA, sF, va_up, h]
theorem tW_sW (Y : TY) (a b : Nat) (r : Option Nat) : tW (sW Y a r) b = if b = a then r else tW Y b := rfl
theorem tK_sI (Y : TY) (a s b : Nat) (v : Int32) : tK (sI Y a s v) b = tK Y b := rfl
theorem tK_sF (Y : TY) (a s b : Nat) (g : Nat → Int32) : tK (sF Y a s g) b = tK Y b := rfl
theorem tK_sW (Y : TY) (a b : Nat) (r : Option Nat) : tK (sW Y a r) b = tK Y b := rfl
theorem tA_sI (Y : TY) (a s : Nat) (v : Int32) (b t : Nat) : tA (sI Y a s v) b t = tA Y b t := rfl
theorem tA_sW (Y : TY) (a : Nat) (r : Option Nat) (b t : Nat) : tA (sW Y a r) b t = tA Y b t := rfl
theorem tI_sF (Y : TY) (a s : Nat) (g : Nat → Int32) (b t : Nat) : tI (sF Y a s g) b t = tI Y b t := rfl
theorem tI_sW (Y : TY) (a : Nat) (r : Option Nat) (b t : Nat) : tI (sW Y a r) b t = tI Y b t := rfl
theorem tW_sI (Y : TY) (a s : Nat) (v : Int32) (b : Nat) : tW (sI Y a s v) b = tW Y b := rfl
theorem tW_sF (Y : TY) (a s : Nat) (g : Nat → Int32) (b : Nat) : tW (sF Y a s g) b = tW Y b := rfl
theorem tP_sI (Y : TY) (a s : Nat) (v : Int32) (b : Nat) : tP (sI Y a s v) b = tP Y b := rfl
theorem tP_sF (Y : TY) (a s : Nat) (g : Nat → Int32) (b : Nat) : tP (sF Y a s g) b = tP Y b := rfl
theorem tP_sW (Y : TY) (a : Nat) (r : Option Nat) (b : Nat) : tP (sW Y a r) b = tP Y b := rfl
def tob (st : TS) (aa : Nat → Nat → Nat) (Y : TY) (a : Nat) : AE := match tK Y a with
  | 0 => .inr (0, [.ref (st.1 a 0), .ref (st.1 a 1), va_rf (tW Y a), .int (tI Y a 3), .int (tI Y a 4), .int (tI Y a 5)])
  | 1 => .inr (1, [.ref (aa a 0), .ref (st.1 a 1)])
  | 2 => .inr (2, [.ref (aa a 0), .ref (aa a 1)])
  | 3 => .inr (3, [.int (tI Y a 0), .ref (aa a 1)])
  | 4 => .inr (4, [.ref (st.1 a 0), .ref (st.1 a 1), .ref (st.1 a 2), .ref (aa a 3)])
  | 5 => .inr (5, [.int (tI Y a 0), .ref (aa a 1)])
  | 6 => .inr (6, [.ref (aa a 0), .ref (aa a 1), .ref (aa a 2)])
  | 7 => .inr (7, [.int (tI Y a 0), .ref (aa a 1), .ref (aa a 2)])
  | 8 => .inr (8, [.int (tI Y a 0), .int (tI Y a 1), .ref (aa a 2), .ref (aa a 3), .ref (aa a 4), .ref (aa a 5), .ref (aa a 6)])
  | 9 => .inr (9, [.ref (st.1 a 0), .ref (aa a 1), .ref (aa a 2), .ref (aa a 3), .ref (st.1 a 4), .ref (st.1 a 5)])
  | _ => .inr (10, [.ref (aa a 0), .ref (aa a 1), .ref (aa a 2), .ref (aa a 3), .ref (aa a 4), .ref (aa a 5), .ref (aa a 6), .ref (aa a 7), .ref (aa a 8), .ref (aa a 9), .int (tI Y a 10), .ref (aa a 11), .ref (aa a 12), .ref (aa a 13), .int (tI Y a 14), .int (tI Y a 15), .int (tI Y a 16), .int (tI Y a 17), .int (tI Y a 18), .ref (aa a 19), .ref (aa a 20), .ref (aa a 21), .int (tI Y a 22), .ref (aa a 23), .ref (aa a 24), .int (tI Y a 25), .int (tI Y a 26)])
def isA (k s : Nat) : Bool := match k with
  | 0 => false
  | 1 => [0].contains s
  | 2 => [0, 1].contains s
  | 3 => [1].contains s
  | 4 => [3].contains s
  | 5 => [1].contains s
  | 6 => [0, 1, 2].contains s
  | 7 => [1, 2].contains s
  | 8 => [2, 3, 4, 5, 6].contains s
  | 9 => [1, 2, 3].contains s
  | 10 => [0, 1, 2, 3, 4, 5, 6, 7, 8, 9, 11, 12, 13, 19, 20, 21, 23, 24].contains s
  | _ => false
def tar (st : TS) (Y : TY) (a s : Nat) : AE := match tK Y a, s with
  | 1, 0 => .inl (5, 2, qA (st.2 a 0))
  | 2, 0 => .inl (0, 4, .inl (tA Y a 0))
  | 2, 1 => .inl (0, 4, .inl (tA Y a 1))
  | 3, 1 => .inl (0, 60, .inl (tA Y a 1))
  | 4, 3 => .inl (4, 125, qA (tP Y a))
  | 5, 1 => .inl (0, 1029, .inl (tA Y a 1))
  | 6, 0 => .inl (0, 210, .inl (tA Y a 0))
  | 6, 1 => .inl (0, 210, .inl (tA Y a 1))
  | 6, 2 => .inl (0, 210, .inl (tA Y a 2))
  | 7, 1 => .inl (0, 60, .inl (tA Y a 1))
  | 7, 2 => .inl (0, 60, .inl (tA Y a 2))
  | 8, 2 => .inl (0, 8, .inl (tA Y a 2))
  | 8, 3 => .inl (0, 8, .inl (tA Y a 3))
  | 8, 4 => .inl (0, 8, .inl (tA Y a 4))
  | 8, 5 => .inl (0, 48, .inl (tA Y a 5))
  | 8, 6 => .inl (0, 48, .inl (tA Y a 6))
  | 9, 1 => .inl (2, 2, qA (st.2 a 1))
  | 9, 2 => .inl (1, 2, .inl (tA Y a 2))
  | 9, 3 => .inl (3, 2, qA (st.2 a 3))
  | 10, 0 => .inl (0, 16, .inl (tA Y a 0))
  | 10, 1 => .inl (0, 16, .inl (tA Y a 1))
  | 10, 2 => .inl (0, 16, .inl (tA Y a 2))
  | 10, 3 => .inl (0, 2, .inl (tA Y a 3))
  | 10, 4 => .inl (0, 2, .inl (tA Y a 4))
  | 10, 5 => .inl (0, 96, .inl (tA Y a 5))
  | 10, 6 => .inl (0, 96, .inl (tA Y a 6))
  | 10, 7 => .inl (0, 3, .inl (tA Y a 7))
  | 10, 8 => .inl (0, 3, .inl (tA Y a 8))
  | 10, 9 => .inl (0, 60, .inl (tA Y a 9))
  | 10, 11 => .inl (0, 130, .inl (tA Y a 11))
  | 10, 12 => .inl (0, 130, .inl (tA Y a 12))
  | 10, 13 => .inl (0, 130, .inl (tA Y a 13))
  | 10, 19 => .inl (0, 257250, .inl (tA Y a 19))
  | 10, 20 => .inl (1, 2, .inl (tA Y a 20))
  | 10, 21 => .inl (0, 2, .inl (tA Y a 21))
  | 10, 23 => .inl (0, 120, .inl (tA Y a 23))
  | 10, 24 => .inl (1, 2, .inl (tA Y a 24))
  | _, _ => .inl (0, 0, .inl (fun _ => 0))
def twf (st : TS) (Y : TY) : Prop := (∀ a : Nat, tK Y a = 0 → tK Y (st.1 a 0) = 2 ∧ tK Y (st.1 a 1) = 7 ∧ (∀ b : Nat, tW Y a = some b → tK Y b = 8)) ∧ (∀ a : Nat, tK Y a = 1 → (∀ i b : Nat, st.2 a 0 i = some b → tK Y b = 8) ∧ tK Y (st.1 a 1) = 2) ∧ (∀ a : Nat, tK Y a = 4 → tK Y (st.1 a 0) = 8 ∧ tK Y (st.1 a 1) = 2 ∧ tK Y (st.1 a 2) = 6 ∧ (∀ i b : Nat, tP Y a i = some b → tK Y b = 5)) ∧ (∀ a : Nat, tK Y a = 9 → tK Y (st.1 a 0) = 1 ∧ (∀ i b : Nat, st.2 a 1 i = some b → tK Y b = 1) ∧ (∀ i b : Nat, st.2 a 3 i = some b → tK Y b = 4) ∧ tK Y (st.1 a 4) = 3 ∧ tK Y (st.1 a 5) = 0)
def Rel (st : TS) (aa : Nat → Nat → Nat) (Y : TY) (X : Hp) : Prop := (∀ a, tK Y a < 11 → Hs X a (tob st aa Y a)) ∧ (∀ a s, isA (tK Y a) s = true → Hs X (aa a s) (tar st Y a s)) ∧ (∀ a s b t, isA (tK Y a) s = true → isA (tK Y b) t = true → aa a s = aa b t → a = b ∧ s = t) ∧ twf st Y
theorem tob_r (st : TS) (aa : Nat → Nat → Nat) (Y : TY) (a : Nat) : ∃ o, tob st aa Y a = .inr o := by
  unfold tob
  split <;> exact ⟨_, rfl⟩
theorem tar_l (st : TS) (Y : TY) (a s : Nat) : ∃ o, tar st Y a s = .inl o := by
  unfold tar
  split <;> exact ⟨_, rfl⟩
theorem isA_lt {k s : Nat} (h : isA k s = true) : k < 11 := by
  unfold isA at h
  split at h <;> first | decide | cases h
theorem Hs_up {X : Hp} {a : Nat} {e : AE} (h : a ∈ X.1) : Hs (hput X a e) a e := ⟨h, by simp [hput, va_up]⟩
theorem Hs_ne {X : Hp} {a b : Nat} {e e' : AE} (h : Hs X b e') (hn : b ≠ a) : Hs (hput X a e) b e' := ⟨h.1, by simp [hput, va_up, hn]; exact h.2⟩
theorem Hs_one {X : Hp} {a : Nat} {e e' : AE} (h : Hs X a e) (h' : Hs X a e') : e = e' := h.2.symm.trans h'.2
theorem Rel.apart {st : TS} {aa : Nat → Nat → Nat} {Y : TY} {X : Hp} (R : Rel st aa Y X) {a b s : Nat} (ha : tK Y a < 11) (hb : isA (tK Y b) s = true) : aa b s ≠ a := by
  intro h
  have h1 := R.1 a ha
  have h2 := R.2.1 b s hb
  rw [h] at h2
  obtain ⟨o, ho⟩ := tob_r st aa Y a
  obtain ⟨o2, ho2⟩ := tar_l st Y b s
  have h3 := Hs_one h1 h2
  rw [ho, ho2] at h3
  cases h3
theorem tob_sI {st : TS} {aa : Nat → Nat → Nat} {Y : TY} {a b s : Nat} {v : Int32} (h : b ≠ a) : tob st aa (sI Y a s v) b = tob st aa Y b := by
  have e1 : ∀ t, tI (sI Y a s v) b t = tI Y b t := fun t => by rw [tI_sI, if_neg (fun q => h q.1)]
  unfold tob
  simp only [e1, tK_sI, tW_sI]
theorem Rel.putI {st : TS} {aa : Nat → Nat → Nat} {Y : TY} {X : Hp} (R : Rel st aa Y X) {a s : Nat} {v : Int32} (ha : tK Y a < 11) : Rel st aa (sI Y a s v) (hput X a (tob st aa (sI Y a s v) a)) := by
  refine ⟨fun b hb => ?_, fun b t hb => ?_, R.2.2.1, R.2.2.2⟩
  · by_cases h : b = a
    · subst h
      exact Hs_up (R.1 b ha).1
    · rw [tob_sI h]
      exact Hs_ne (R.1 b hb) h
  · exact Hs_ne (R.2.1 b t hb) (R.apart ha hb)
theorem Rel.putW {st : TS} {aa : Nat → Nat → Nat} {Y : TY} {X : Hp} (R : Rel st aa Y X) {a : Nat} {r : Option Nat} (ha : tK Y a = 0) (hr : ∀ b, r = some b → tK Y b = 8) : Rel st aa (sW Y a r) (hput X a (tob st aa (sW Y a r) a)) := by
  refine ⟨fun b hb => ?_, fun b t hb => ?_, R.2.2.1, ?_⟩
  · by_cases h : b = a
    · subst h
      exact Hs_up (R.1 b (by rw [ha]; decide)).1
    · have e1 : tob st aa (sW Y a r) b = tob st aa Y b := by
        have e2 : tW (sW Y a r) b = tW Y b := by rw [tW_sW, if_neg h]
        unfold tob
        simp only [tI_sW, tK_sW, e2]
      rw [e1]
      exact Hs_ne (R.1 b hb) h
  · exact Hs_ne (R.2.1 b t hb) (R.apart (by rw [ha]; decide) hb)
  · obtain ⟨h0, h1⟩ := R.2.2.2
    refine ⟨fun b hb => ⟨(h0 b hb).1, (h0 b hb).2.1, fun c hc => ?_⟩, h1⟩
    rw [tW_sW] at hc
    by_cases h : b = a
    · rw [if_pos h] at hc
      exact hr c hc
    · rw [if_neg h] at hc
      exact (h0 b hb).2.2 c hc
theorem tar_sF {st : TS} {Y : TY} {a b s t : Nat} {g : Nat → Int32} (h : ¬ (b = a ∧ t = s)) : tar st (sF Y a s g) b t = tar st Y b t := by
  have e1 : tA (sF Y a s g) b t = tA Y b t := by rw [tA_sF, if_neg h]
  unfold tar
  simp only [tK_sF, tP_sF]
  split <;> first | rfl | rw [e1]
theorem Rel.putF {st : TS} {aa : Nat → Nat → Nat} {Y : TY} {X : Hp} (R : Rel st aa Y X) {a s : Nat} {g : Nat → Int32} (ha : isA (tK Y a) s = true) : Rel st aa (sF Y a s g) (hput X (aa a s) (tar st (sF Y a s g) a s)) := by
  refine ⟨fun b hb => ?_, fun b t hb => ?_, R.2.2.1, R.2.2.2⟩
  · exact Hs_ne (R.1 b hb) (fun q => R.apart hb ha q.symm)
  · by_cases h : b = a ∧ t = s
    · obtain ⟨rfl, rfl⟩ := h
      exact Hs_up (R.2.1 b t ha).1
    · rw [tar_sF h]
      exact Hs_ne (R.2.1 b t hb) (fun q => h (R.2.2.1 b t a s hb ha q))
section TYR
variable {st : TS} {aa : Nat → Nat → Nat} {Y : TY} {X X1 : Hp} {a : Nat}
theorem ob_0 (R : Rel st aa Y X) (hk : tK Y a = 0) : Hs X a (.inr (0, [.ref (st.1 a 0), .ref (st.1 a 1), va_rf (tW Y a), .int (tI Y a 3), .int (tI Y a 4), .int (tI Y a 5)])) := by
  have h := R.1 a (by rw [hk]; decide)
  unfold tob at h
  rw [hk] at h
  exact h
theorem pu_0_3 {v : Int32} (R : Rel st aa Y X) (hk : tK Y a = 0) (e : X1 = hput X a (.inr (0, [.ref (st.1 a 0), .ref (st.1 a 1), va_rf (tW Y a), .int (tI Y a 3), .int (tI Y a 4), .int (tI Y a 5)].set 3 (.int v)))) : Rel st aa (sI Y a 3 v) X1 := by
  rw [e]
  have h := R.putI (s := 3) (v := v) (show tK Y a < 11 by rw [hk]; decide)
  have e2 : tob st aa (sI Y a 3 v) a = .inr (0, [.ref (st.1 a 0), .ref (st.1 a 1), va_rf (tW Y a), .int (tI Y a 3), .int (tI Y a 4), .int (tI Y a 5)].set 3 (.int v)) := by
    unfold tob
    rw [tK_sI, hk]
    simp [tI_sI, tW_sI]
  rw [e2] at h
  exact h
theorem pu_0_4 {v : Int32} (R : Rel st aa Y X) (hk : tK Y a = 0) (e : X1 = hput X a (.inr (0, [.ref (st.1 a 0), .ref (st.1 a 1), va_rf (tW Y a), .int (tI Y a 3), .int (tI Y a 4), .int (tI Y a 5)].set 4 (.int v)))) : Rel st aa (sI Y a 4 v) X1 := by
  rw [e]
  have h := R.putI (s := 4) (v := v) (show tK Y a < 11 by rw [hk]; decide)
  have e2 : tob st aa (sI Y a 4 v) a = .inr (0, [.ref (st.1 a 0), .ref (st.1 a 1), va_rf (tW Y a), .int (tI Y a 3), .int (tI Y a 4), .int (tI Y a 5)].set 4 (.int v)) := by
    unfold tob
    rw [tK_sI, hk]
    simp [tI_sI, tW_sI]
  rw [e2] at h
  exact h
theorem pu_0_5 {v : Int32} (R : Rel st aa Y X) (hk : tK Y a = 0) (e : X1 = hput X a (.inr (0, [.ref (st.1 a 0), .ref (st.1 a 1), va_rf (tW Y a), .int (tI Y a 3), .int (tI Y a 4), .int (tI Y a 5)].set 5 (.int v)))) : Rel st aa (sI Y a 5 v) X1 := by
  rw [e]
  have h := R.putI (s := 5) (v := v) (show tK Y a < 11 by rw [hk]; decide)
  have e2 : tob st aa (sI Y a 5 v) a = .inr (0, [.ref (st.1 a 0), .ref (st.1 a 1), va_rf (tW Y a), .int (tI Y a 3), .int (tI Y a 4), .int (tI Y a 5)].set 5 (.int v)) := by
    unfold tob
    rw [tK_sI, hk]
    simp [tI_sI, tW_sI]
  rw [e2] at h
  exact h
theorem ob_1 (R : Rel st aa Y X) (hk : tK Y a = 1) : Hs X a (.inr (1, [.ref (aa a 0), .ref (st.1 a 1)])) := by
  have h := R.1 a (by rw [hk]; decide)
  unfold tob at h
  rw [hk] at h
  exact h
theorem ar_1_0 (R : Rel st aa Y X) (hk : tK Y a = 1) : Hs X (aa a 0) (.inl (5, 2, qA (st.2 a 0))) := by
  have h := R.2.1 a 0 (by rw [hk]; decide)
  unfold tar at h
  rw [hk] at h
  exact h
theorem ob_2 (R : Rel st aa Y X) (hk : tK Y a = 2) : Hs X a (.inr (2, [.ref (aa a 0), .ref (aa a 1)])) := by
  have h := R.1 a (by rw [hk]; decide)
  unfold tob at h
  rw [hk] at h
  exact h
theorem ar_2_0 (R : Rel st aa Y X) (hk : tK Y a = 2) : Hs X (aa a 0) (.inl (0, 4, .inl (tA Y a 0))) := by
  have h := R.2.1 a 0 (by rw [hk]; decide)
  unfold tar at h
  rw [hk] at h
  exact h
theorem as_2_0 {g : Nat → Int32} (R : Rel st aa Y X) (hk : tK Y a = 2) (e : X1 = hput X (aa a 0) (.inl (0, 4, .inl g))) : Rel st aa (sF Y a 0 g) X1 := by
  rw [e]
  have h := R.putF (s := 0) (g := g) (show isA (tK Y a) 0 = true by rw [hk]; decide)
  have e2 : tar st (sF Y a 0 g) a 0 = .inl (0, 4, .inl g) := by
    unfold tar
    rw [tK_sF, hk]
    simp [tA_sF]
  rw [e2] at h
  exact h
theorem ar_2_1 (R : Rel st aa Y X) (hk : tK Y a = 2) : Hs X (aa a 1) (.inl (0, 4, .inl (tA Y a 1))) := by
  have h := R.2.1 a 1 (by rw [hk]; decide)
  unfold tar at h
  rw [hk] at h
  exact h
theorem as_2_1 {g : Nat → Int32} (R : Rel st aa Y X) (hk : tK Y a = 2) (e : X1 = hput X (aa a 1) (.inl (0, 4, .inl g))) : Rel st aa (sF Y a 1 g) X1 := by
  rw [e]
  have h := R.putF (s := 1) (g := g) (show isA (tK Y a) 1 = true by rw [hk]; decide)
  have e2 : tar st (sF Y a 1 g) a 1 = .inl (0, 4, .inl g) := by
    unfold tar
    rw [tK_sF, hk]
    simp [tA_sF]
  rw [e2] at h
  exact h
theorem ob_3 (R : Rel st aa Y X) (hk : tK Y a = 3) : Hs X a (.inr (3, [.int (tI Y a 0), .ref (aa a 1)])) := by
  have h := R.1 a (by rw [hk]; decide)
  unfold tob at h
  rw [hk] at h
  exact h
theorem pu_3_0 {v : Int32} (R : Rel st aa Y X) (hk : tK Y a = 3) (e : X1 = hput X a (.inr (3, [.int (tI Y a 0), .ref (aa a 1)].set 0 (.int v)))) : Rel st aa (sI Y a 0 v) X1 := by
  rw [e]
  have h := R.putI (s := 0) (v := v) (show tK Y a < 11 by rw [hk]; decide)
  have e2 : tob st aa (sI Y a 0 v) a = .inr (3, [.int (tI Y a 0), .ref (aa a 1)].set 0 (.int v)) := by
    unfold tob
    rw [tK_sI, hk]
    simp [tI_sI, tW_sI]
  rw [e2] at h
  exact h
theorem ar_3_1 (R : Rel st aa Y X) (hk : tK Y a = 3) : Hs X (aa a 1) (.inl (0, 60, .inl (tA Y a 1))) := by
  have h := R.2.1 a 1 (by rw [hk]; decide)
  unfold tar at h
  rw [hk] at h
  exact h
theorem as_3_1 {g : Nat → Int32} (R : Rel st aa Y X) (hk : tK Y a = 3) (e : X1 = hput X (aa a 1) (.inl (0, 60, .inl g))) : Rel st aa (sF Y a 1 g) X1 := by
  rw [e]
  have h := R.putF (s := 1) (g := g) (show isA (tK Y a) 1 = true by rw [hk]; decide)
  have e2 : tar st (sF Y a 1 g) a 1 = .inl (0, 60, .inl g) := by
    unfold tar
    rw [tK_sF, hk]
    simp [tA_sF]
  rw [e2] at h
  exact h
theorem ob_4 (R : Rel st aa Y X) (hk : tK Y a = 4) : Hs X a (.inr (4, [.ref (st.1 a 0), .ref (st.1 a 1), .ref (st.1 a 2), .ref (aa a 3)])) := by
  have h := R.1 a (by rw [hk]; decide)
  unfold tob at h
  rw [hk] at h
  exact h
theorem ar_4_3 (R : Rel st aa Y X) (hk : tK Y a = 4) : Hs X (aa a 3) (.inl (4, 125, qA (tP Y a))) := by
  have h := R.2.1 a 3 (by rw [hk]; decide)
  unfold tar at h
  rw [hk] at h
  exact h
theorem ob_5 (R : Rel st aa Y X) (hk : tK Y a = 5) : Hs X a (.inr (5, [.int (tI Y a 0), .ref (aa a 1)])) := by
  have h := R.1 a (by rw [hk]; decide)
  unfold tob at h
  rw [hk] at h
  exact h
theorem pu_5_0 {v : Int32} (R : Rel st aa Y X) (hk : tK Y a = 5) (e : X1 = hput X a (.inr (5, [.int (tI Y a 0), .ref (aa a 1)].set 0 (.int v)))) : Rel st aa (sI Y a 0 v) X1 := by
  rw [e]
  have h := R.putI (s := 0) (v := v) (show tK Y a < 11 by rw [hk]; decide)
  have e2 : tob st aa (sI Y a 0 v) a = .inr (5, [.int (tI Y a 0), .ref (aa a 1)].set 0 (.int v)) := by
    unfold tob
    rw [tK_sI, hk]
    simp [tI_sI, tW_sI]
  rw [e2] at h
  exact h
theorem ar_5_1 (R : Rel st aa Y X) (hk : tK Y a = 5) : Hs X (aa a 1) (.inl (0, 1029, .inl (tA Y a 1))) := by
  have h := R.2.1 a 1 (by rw [hk]; decide)
  unfold tar at h
  rw [hk] at h
  exact h
theorem as_5_1 {g : Nat → Int32} (R : Rel st aa Y X) (hk : tK Y a = 5) (e : X1 = hput X (aa a 1) (.inl (0, 1029, .inl g))) : Rel st aa (sF Y a 1 g) X1 := by
  rw [e]
  have h := R.putF (s := 1) (g := g) (show isA (tK Y a) 1 = true by rw [hk]; decide)
  have e2 : tar st (sF Y a 1 g) a 1 = .inl (0, 1029, .inl g) := by
    unfold tar
    rw [tK_sF, hk]
    simp [tA_sF]
  rw [e2] at h
  exact h
theorem ob_6 (R : Rel st aa Y X) (hk : tK Y a = 6) : Hs X a (.inr (6, [.ref (aa a 0), .ref (aa a 1), .ref (aa a 2)])) := by
  have h := R.1 a (by rw [hk]; decide)
  unfold tob at h
  rw [hk] at h
  exact h
theorem ar_6_0 (R : Rel st aa Y X) (hk : tK Y a = 6) : Hs X (aa a 0) (.inl (0, 210, .inl (tA Y a 0))) := by
  have h := R.2.1 a 0 (by rw [hk]; decide)
  unfold tar at h
  rw [hk] at h
  exact h
theorem as_6_0 {g : Nat → Int32} (R : Rel st aa Y X) (hk : tK Y a = 6) (e : X1 = hput X (aa a 0) (.inl (0, 210, .inl g))) : Rel st aa (sF Y a 0 g) X1 := by
  rw [e]
  have h := R.putF (s := 0) (g := g) (show isA (tK Y a) 0 = true by rw [hk]; decide)
  have e2 : tar st (sF Y a 0 g) a 0 = .inl (0, 210, .inl g) := by
    unfold tar
    rw [tK_sF, hk]
    simp [tA_sF]
  rw [e2] at h
  exact h
theorem ar_6_1 (R : Rel st aa Y X) (hk : tK Y a = 6) : Hs X (aa a 1) (.inl (0, 210, .inl (tA Y a 1))) := by
  have h := R.2.1 a 1 (by rw [hk]; decide)
  unfold tar at h
  rw [hk] at h
  exact h
theorem as_6_1 {g : Nat → Int32} (R : Rel st aa Y X) (hk : tK Y a = 6) (e : X1 = hput X (aa a 1) (.inl (0, 210, .inl g))) : Rel st aa (sF Y a 1 g) X1 := by
  rw [e]
  have h := R.putF (s := 1) (g := g) (show isA (tK Y a) 1 = true by rw [hk]; decide)
  have e2 : tar st (sF Y a 1 g) a 1 = .inl (0, 210, .inl g) := by
    unfold tar
    rw [tK_sF, hk]
    simp [tA_sF]
  rw [e2] at h
  exact h
theorem ar_6_2 (R : Rel st aa Y X) (hk : tK Y a = 6) : Hs X (aa a 2) (.inl (0, 210, .inl (tA Y a 2))) := by
  have h := R.2.1 a 2 (by rw [hk]; decide)
  unfold tar at h
  rw [hk] at h
  exact h
theorem as_6_2 {g : Nat → Int32} (R : Rel st aa Y X) (hk : tK Y a = 6) (e : X1 = hput X (aa a 2) (.inl (0, 210, .inl g))) : Rel st aa (sF Y a 2 g) X1 := by
  rw [e]
  have h := R.putF (s := 2) (g := g) (show isA (tK Y a) 2 = true by rw [hk]; decide)
  have e2 : tar st (sF Y a 2 g) a 2 = .inl (0, 210, .inl g) := by
    unfold tar
    rw [tK_sF, hk]
    simp [tA_sF]
  rw [e2] at h
  exact h
theorem ob_7 (R : Rel st aa Y X) (hk : tK Y a = 7) : Hs X a (.inr (7, [.int (tI Y a 0), .ref (aa a 1), .ref (aa a 2)])) := by
  have h := R.1 a (by rw [hk]; decide)
  unfold tob at h
  rw [hk] at h
  exact h
theorem pu_7_0 {v : Int32} (R : Rel st aa Y X) (hk : tK Y a = 7) (e : X1 = hput X a (.inr (7, [.int (tI Y a 0), .ref (aa a 1), .ref (aa a 2)].set 0 (.int v)))) : Rel st aa (sI Y a 0 v) X1 := by
  rw [e]
  have h := R.putI (s := 0) (v := v) (show tK Y a < 11 by rw [hk]; decide)
  have e2 : tob st aa (sI Y a 0 v) a = .inr (7, [.int (tI Y a 0), .ref (aa a 1), .ref (aa a 2)].set 0 (.int v)) := by
    unfold tob
    rw [tK_sI, hk]
    simp [tI_sI, tW_sI]
  rw [e2] at h
  exact h
theorem ar_7_1 (R : Rel st aa Y X) (hk : tK Y a = 7) : Hs X (aa a 1) (.inl (0, 60, .inl (tA Y a 1))) := by
  have h := R.2.1 a 1 (by rw [hk]; decide)
  unfold tar at h
  rw [hk] at h
  exact h
theorem as_7_1 {g : Nat → Int32} (R : Rel st aa Y X) (hk : tK Y a = 7) (e : X1 = hput X (aa a 1) (.inl (0, 60, .inl g))) : Rel st aa (sF Y a 1 g) X1 := by
  rw [e]
  have h := R.putF (s := 1) (g := g) (show isA (tK Y a) 1 = true by rw [hk]; decide)
  have e2 : tar st (sF Y a 1 g) a 1 = .inl (0, 60, .inl g) := by
    unfold tar
    rw [tK_sF, hk]
    simp [tA_sF]
  rw [e2] at h
  exact h
theorem ar_7_2 (R : Rel st aa Y X) (hk : tK Y a = 7) : Hs X (aa a 2) (.inl (0, 60, .inl (tA Y a 2))) := by
  have h := R.2.1 a 2 (by rw [hk]; decide)
  unfold tar at h
  rw [hk] at h
  exact h
theorem as_7_2 {g : Nat → Int32} (R : Rel st aa Y X) (hk : tK Y a = 7) (e : X1 = hput X (aa a 2) (.inl (0, 60, .inl g))) : Rel st aa (sF Y a 2 g) X1 := by
  rw [e]
  have h := R.putF (s := 2) (g := g) (show isA (tK Y a) 2 = true by rw [hk]; decide)
  have e2 : tar st (sF Y a 2 g) a 2 = .inl (0, 60, .inl g) := by
    unfold tar
    rw [tK_sF, hk]
    simp [tA_sF]
  rw [e2] at h
  exact h
theorem ob_8 (R : Rel st aa Y X) (hk : tK Y a = 8) : Hs X a (.inr (8, [.int (tI Y a 0), .int (tI Y a 1), .ref (aa a 2), .ref (aa a 3), .ref (aa a 4), .ref (aa a 5), .ref (aa a 6)])) := by
  have h := R.1 a (by rw [hk]; decide)
  unfold tob at h
  rw [hk] at h
  exact h
theorem pu_8_0 {v : Int32} (R : Rel st aa Y X) (hk : tK Y a = 8) (e : X1 = hput X a (.inr (8, [.int (tI Y a 0), .int (tI Y a 1), .ref (aa a 2), .ref (aa a 3), .ref (aa a 4), .ref (aa a 5), .ref (aa a 6)].set 0 (.int v)))) : Rel st aa (sI Y a 0 v) X1 := by
  rw [e]
  have h := R.putI (s := 0) (v := v) (show tK Y a < 11 by rw [hk]; decide)
  have e2 : tob st aa (sI Y a 0 v) a = .inr (8, [.int (tI Y a 0), .int (tI Y a 1), .ref (aa a 2), .ref (aa a 3), .ref (aa a 4), .ref (aa a 5), .ref (aa a 6)].set 0 (.int v)) := by
    unfold tob
    rw [tK_sI, hk]
    simp [tI_sI, tW_sI]
  rw [e2] at h
  exact h
theorem pu_8_1 {v : Int32} (R : Rel st aa Y X) (hk : tK Y a = 8) (e : X1 = hput X a (.inr (8, [.int (tI Y a 0), .int (tI Y a 1), .ref (aa a 2), .ref (aa a 3), .ref (aa a 4), .ref (aa a 5), .ref (aa a 6)].set 1 (.int v)))) : Rel st aa (sI Y a 1 v) X1 := by
  rw [e]
  have h := R.putI (s := 1) (v := v) (show tK Y a < 11 by rw [hk]; decide)
  have e2 : tob st aa (sI Y a 1 v) a = .inr (8, [.int (tI Y a 0), .int (tI Y a 1), .ref (aa a 2), .ref (aa a 3), .ref (aa a 4), .ref (aa a 5), .ref (aa a 6)].set 1 (.int v)) := by
    unfold tob
    rw [tK_sI, hk]
    simp [tI_sI, tW_sI]
  rw [e2] at h
  exact h
theorem ar_8_2 (R : Rel st aa Y X) (hk : tK Y a = 8) : Hs X (aa a 2) (.inl (0, 8, .inl (tA Y a 2))) := by
  have h := R.2.1 a 2 (by rw [hk]; decide)
  unfold tar at h
  rw [hk] at h
  exact h
theorem as_8_2 {g : Nat → Int32} (R : Rel st aa Y X) (hk : tK Y a = 8) (e : X1 = hput X (aa a 2) (.inl (0, 8, .inl g))) : Rel st aa (sF Y a 2 g) X1 := by
  rw [e]
  have h := R.putF (s := 2) (g := g) (show isA (tK Y a) 2 = true by rw [hk]; decide)
  have e2 : tar st (sF Y a 2 g) a 2 = .inl (0, 8, .inl g) := by
    unfold tar
    rw [tK_sF, hk]
    simp [tA_sF]
  rw [e2] at h
  exact h
theorem ar_8_3 (R : Rel st aa Y X) (hk : tK Y a = 8) : Hs X (aa a 3) (.inl (0, 8, .inl (tA Y a 3))) := by
  have h := R.2.1 a 3 (by rw [hk]; decide)
  unfold tar at h
  rw [hk] at h
  exact h
theorem as_8_3 {g : Nat → Int32} (R : Rel st aa Y X) (hk : tK Y a = 8) (e : X1 = hput X (aa a 3) (.inl (0, 8, .inl g))) : Rel st aa (sF Y a 3 g) X1 := by
  rw [e]
  have h := R.putF (s := 3) (g := g) (show isA (tK Y a) 3 = true by rw [hk]; decide)
  have e2 : tar st (sF Y a 3 g) a 3 = .inl (0, 8, .inl g) := by
    unfold tar
    rw [tK_sF, hk]
    simp [tA_sF]
  rw [e2] at h
  exact h
theorem ar_8_4 (R : Rel st aa Y X) (hk : tK Y a = 8) : Hs X (aa a 4) (.inl (0, 8, .inl (tA Y a 4))) := by
  have h := R.2.1 a 4 (by rw [hk]; decide)
  unfold tar at h
  rw [hk] at h
  exact h
theorem as_8_4 {g : Nat → Int32} (R : Rel st aa Y X) (hk : tK Y a = 8) (e : X1 = hput X (aa a 4) (.inl (0, 8, .inl g))) : Rel st aa (sF Y a 4 g) X1 := by
  rw [e]
  have h := R.putF (s := 4) (g := g) (show isA (tK Y a) 4 = true by rw [hk]; decide)
  have e2 : tar st (sF Y a 4 g) a 4 = .inl (0, 8, .inl g) := by
    unfold tar
    rw [tK_sF, hk]
    simp [tA_sF]
  rw [e2] at h
  exact h
theorem ar_8_5 (R : Rel st aa Y X) (hk : tK Y a = 8) : Hs X (aa a 5) (.inl (0, 48, .inl (tA Y a 5))) := by
  have h := R.2.1 a 5 (by rw [hk]; decide)
  unfold tar at h
  rw [hk] at h
  exact h
theorem as_8_5 {g : Nat → Int32} (R : Rel st aa Y X) (hk : tK Y a = 8) (e : X1 = hput X (aa a 5) (.inl (0, 48, .inl g))) : Rel st aa (sF Y a 5 g) X1 := by
  rw [e]
  have h := R.putF (s := 5) (g := g) (show isA (tK Y a) 5 = true by rw [hk]; decide)
  have e2 : tar st (sF Y a 5 g) a 5 = .inl (0, 48, .inl g) := by
    unfold tar
    rw [tK_sF, hk]
    simp [tA_sF]
  rw [e2] at h
  exact h
theorem ar_8_6 (R : Rel st aa Y X) (hk : tK Y a = 8) : Hs X (aa a 6) (.inl (0, 48, .inl (tA Y a 6))) := by
  have h := R.2.1 a 6 (by rw [hk]; decide)
  unfold tar at h
  rw [hk] at h
  exact h
theorem as_8_6 {g : Nat → Int32} (R : Rel st aa Y X) (hk : tK Y a = 8) (e : X1 = hput X (aa a 6) (.inl (0, 48, .inl g))) : Rel st aa (sF Y a 6 g) X1 := by
  rw [e]
  have h := R.putF (s := 6) (g := g) (show isA (tK Y a) 6 = true by rw [hk]; decide)
  have e2 : tar st (sF Y a 6 g) a 6 = .inl (0, 48, .inl g) := by
    unfold tar
    rw [tK_sF, hk]
    simp [tA_sF]
  rw [e2] at h
  exact h
theorem ob_9 (R : Rel st aa Y X) (hk : tK Y a = 9) : Hs X a (.inr (9, [.ref (st.1 a 0), .ref (aa a 1), .ref (aa a 2), .ref (aa a 3), .ref (st.1 a 4), .ref (st.1 a 5)])) := by
  have h := R.1 a (by rw [hk]; decide)
  unfold tob at h
  rw [hk] at h
  exact h
theorem ar_9_1 (R : Rel st aa Y X) (hk : tK Y a = 9) : Hs X (aa a 1) (.inl (2, 2, qA (st.2 a 1))) := by
  have h := R.2.1 a 1 (by rw [hk]; decide)
  unfold tar at h
  rw [hk] at h
  exact h
theorem ar_9_2 (R : Rel st aa Y X) (hk : tK Y a = 9) : Hs X (aa a 2) (.inl (1, 2, .inl (tA Y a 2))) := by
  have h := R.2.1 a 2 (by rw [hk]; decide)
  unfold tar at h
  rw [hk] at h
  exact h
theorem as_9_2 {g : Nat → Int32} (R : Rel st aa Y X) (hk : tK Y a = 9) (e : X1 = hput X (aa a 2) (.inl (1, 2, .inl g))) : Rel st aa (sF Y a 2 g) X1 := by
  rw [e]
  have h := R.putF (s := 2) (g := g) (show isA (tK Y a) 2 = true by rw [hk]; decide)
  have e2 : tar st (sF Y a 2 g) a 2 = .inl (1, 2, .inl g) := by
    unfold tar
    rw [tK_sF, hk]
    simp [tA_sF]
  rw [e2] at h
  exact h
theorem ar_9_3 (R : Rel st aa Y X) (hk : tK Y a = 9) : Hs X (aa a 3) (.inl (3, 2, qA (st.2 a 3))) := by
  have h := R.2.1 a 3 (by rw [hk]; decide)
  unfold tar at h
  rw [hk] at h
  exact h
theorem ob_10 (R : Rel st aa Y X) (hk : tK Y a = 10) : Hs X a (.inr (10, [.ref (aa a 0), .ref (aa a 1), .ref (aa a 2), .ref (aa a 3), .ref (aa a 4), .ref (aa a 5), .ref (aa a 6), .ref (aa a 7), .ref (aa a 8), .ref (aa a 9), .int (tI Y a 10), .ref (aa a 11), .ref (aa a 12), .ref (aa a 13), .int (tI Y a 14), .int (tI Y a 15), .int (tI Y a 16), .int (tI Y a 17), .int (tI Y a 18), .ref (aa a 19), .ref (aa a 20), .ref (aa a 21), .int (tI Y a 22), .ref (aa a 23), .ref (aa a 24), .int (tI Y a 25), .int (tI Y a 26)])) := by
  have h := R.1 a (by rw [hk]; decide)
  unfold tob at h
  rw [hk] at h
  exact h
theorem ar_10_0 (R : Rel st aa Y X) (hk : tK Y a = 10) : Hs X (aa a 0) (.inl (0, 16, .inl (tA Y a 0))) := by
  have h := R.2.1 a 0 (by rw [hk]; decide)
  unfold tar at h
  rw [hk] at h
  exact h
theorem as_10_0 {g : Nat → Int32} (R : Rel st aa Y X) (hk : tK Y a = 10) (e : X1 = hput X (aa a 0) (.inl (0, 16, .inl g))) : Rel st aa (sF Y a 0 g) X1 := by
  rw [e]
  have h := R.putF (s := 0) (g := g) (show isA (tK Y a) 0 = true by rw [hk]; decide)
  have e2 : tar st (sF Y a 0 g) a 0 = .inl (0, 16, .inl g) := by
    unfold tar
    rw [tK_sF, hk]
    simp [tA_sF]
  rw [e2] at h
  exact h
theorem ar_10_1 (R : Rel st aa Y X) (hk : tK Y a = 10) : Hs X (aa a 1) (.inl (0, 16, .inl (tA Y a 1))) := by
  have h := R.2.1 a 1 (by rw [hk]; decide)
  unfold tar at h
  rw [hk] at h
  exact h
theorem as_10_1 {g : Nat → Int32} (R : Rel st aa Y X) (hk : tK Y a = 10) (e : X1 = hput X (aa a 1) (.inl (0, 16, .inl g))) : Rel st aa (sF Y a 1 g) X1 := by
  rw [e]
  have h := R.putF (s := 1) (g := g) (show isA (tK Y a) 1 = true by rw [hk]; decide)
  have e2 : tar st (sF Y a 1 g) a 1 = .inl (0, 16, .inl g) := by
    unfold tar
    rw [tK_sF, hk]
    simp [tA_sF]
  rw [e2] at h
  exact h
theorem ar_10_2 (R : Rel st aa Y X) (hk : tK Y a = 10) : Hs X (aa a 2) (.inl (0, 16, .inl (tA Y a 2))) := by
  have h := R.2.1 a 2 (by rw [hk]; decide)
  unfold tar at h
  rw [hk] at h
  exact h
theorem as_10_2 {g : Nat → Int32} (R : Rel st aa Y X) (hk : tK Y a = 10) (e : X1 = hput X (aa a 2) (.inl (0, 16, .inl g))) : Rel st aa (sF Y a 2 g) X1 := by
  rw [e]
  have h := R.putF (s := 2) (g := g) (show isA (tK Y a) 2 = true by rw [hk]; decide)
  have e2 : tar st (sF Y a 2 g) a 2 = .inl (0, 16, .inl g) := by
    unfold tar
    rw [tK_sF, hk]
    simp [tA_sF]
  rw [e2] at h
  exact h
theorem ar_10_3 (R : Rel st aa Y X) (hk : tK Y a = 10) : Hs X (aa a 3) (.inl (0, 2, .inl (tA Y a 3))) := by
  have h := R.2.1 a 3 (by rw [hk]; decide)
  unfold tar at h
  rw [hk] at h
  exact h
theorem as_10_3 {g : Nat → Int32} (R : Rel st aa Y X) (hk : tK Y a = 10) (e : X1 = hput X (aa a 3) (.inl (0, 2, .inl g))) : Rel st aa (sF Y a 3 g) X1 := by
  rw [e]
  have h := R.putF (s := 3) (g := g) (show isA (tK Y a) 3 = true by rw [hk]; decide)
  have e2 : tar st (sF Y a 3 g) a 3 = .inl (0, 2, .inl g) := by
    unfold tar
    rw [tK_sF, hk]
    simp [tA_sF]
  rw [e2] at h
  exact h
theorem ar_10_4 (R : Rel st aa Y X) (hk : tK Y a = 10) : Hs X (aa a 4) (.inl (0, 2, .inl (tA Y a 4))) := by
  have h := R.2.1 a 4 (by rw [hk]; decide)
  unfold tar at h
  rw [hk] at h
  exact h
theorem as_10_4 {g : Nat → Int32} (R : Rel st aa Y X) (hk : tK Y a = 10) (e : X1 = hput X (aa a 4) (.inl (0, 2, .inl g))) : Rel st aa (sF Y a 4 g) X1 := by
  rw [e]
  have h := R.putF (s := 4) (g := g) (show isA (tK Y a) 4 = true by rw [hk]; decide)
  have e2 : tar st (sF Y a 4 g) a 4 = .inl (0, 2, .inl g) := by
    unfold tar
    rw [tK_sF, hk]
    simp [tA_sF]
  rw [e2] at h
  exact h
theorem ar_10_5 (R : Rel st aa Y X) (hk : tK Y a = 10) : Hs X (aa a 5) (.inl (0, 96, .inl (tA Y a 5))) := by
  have h := R.2.1 a 5 (by rw [hk]; decide)
  unfold tar at h
  rw [hk] at h
  exact h
theorem as_10_5 {g : Nat → Int32} (R : Rel st aa Y X) (hk : tK Y a = 10) (e : X1 = hput X (aa a 5) (.inl (0, 96, .inl g))) : Rel st aa (sF Y a 5 g) X1 := by
  rw [e]
  have h := R.putF (s := 5) (g := g) (show isA (tK Y a) 5 = true by rw [hk]; decide)
  have e2 : tar st (sF Y a 5 g) a 5 = .inl (0, 96, .inl g) := by
    unfold tar
    rw [tK_sF, hk]
    simp [tA_sF]
  rw [e2] at h
  exact h
theorem ar_10_6 (R : Rel st aa Y X) (hk : tK Y a = 10) : Hs X (aa a 6) (.inl (0, 96, .inl (tA Y a 6))) := by
  have h := R.2.1 a 6 (by rw [hk]; decide)
  unfold tar at h
  rw [hk] at h
  exact h
theorem as_10_6 {g : Nat → Int32} (R : Rel st aa Y X) (hk : tK Y a = 10) (e : X1 = hput X (aa a 6) (.inl (0, 96, .inl g))) : Rel st aa (sF Y a 6 g) X1 := by
  rw [e]
  have h := R.putF (s := 6) (g := g) (show isA (tK Y a) 6 = true by rw [hk]; decide)
  have e2 : tar st (sF Y a 6 g) a 6 = .inl (0, 96, .inl g) := by
    unfold tar
    rw [tK_sF, hk]
    simp [tA_sF]
  rw [e2] at h
  exact h
theorem ar_10_7 (R : Rel st aa Y X) (hk : tK Y a = 10) : Hs X (aa a 7) (.inl (0, 3, .inl (tA Y a 7))) := by
  have h := R.2.1 a 7 (by rw [hk]; decide)
  unfold tar at h
  rw [hk] at h
  exact h
theorem as_10_7 {g : Nat → Int32} (R : Rel st aa Y X) (hk : tK Y a = 10) (e : X1 = hput X (aa a 7) (.inl (0, 3, .inl g))) : Rel st aa (sF Y a 7 g) X1 := by
  rw [e]
  have h := R.putF (s := 7) (g := g) (show isA (tK Y a) 7 = true by rw [hk]; decide)
  have e2 : tar st (sF Y a 7 g) a 7 = .inl (0, 3, .inl g) := by
    unfold tar
    rw [tK_sF, hk]
    simp [tA_sF]
  rw [e2] at h
  exact h
theorem ar_10_8 (R : Rel st aa Y X) (hk : tK Y a = 10) : Hs X (aa a 8) (.inl (0, 3, .inl (tA Y a 8))) := by
  have h := R.2.1 a 8 (by rw [hk]; decide)
  unfold tar at h
  rw [hk] at h
  exact h
theorem as_10_8 {g : Nat → Int32} (R : Rel st aa Y X) (hk : tK Y a = 10) (e : X1 = hput X (aa a 8) (.inl (0, 3, .inl g))) : Rel st aa (sF Y a 8 g) X1 := by
  rw [e]
  have h := R.putF (s := 8) (g := g) (show isA (tK Y a) 8 = true by rw [hk]; decide)
  have e2 : tar st (sF Y a 8 g) a 8 = .inl (0, 3, .inl g) := by
    unfold tar
    rw [tK_sF, hk]
    simp [tA_sF]
  rw [e2] at h
  exact h
theorem ar_10_9 (R : Rel st aa Y X) (hk : tK Y a = 10) : Hs X (aa a 9) (.inl (0, 60, .inl (tA Y a 9))) := by
  have h := R.2.1 a 9 (by rw [hk]; decide)
  unfold tar at h
  rw [hk] at h
  exact h
theorem as_10_9 {g : Nat → Int32} (R : Rel st aa Y X) (hk : tK Y a = 10) (e : X1 = hput X (aa a 9) (.inl (0, 60, .inl g))) : Rel st aa (sF Y a 9 g) X1 := by
  rw [e]
  have h := R.putF (s := 9) (g := g) (show isA (tK Y a) 9 = true by rw [hk]; decide)
  have e2 : tar st (sF Y a 9 g) a 9 = .inl (0, 60, .inl g) := by
    unfold tar
    rw [tK_sF, hk]
    simp [tA_sF]
  rw [e2] at h
  exact h
theorem pu_10_10 {v : Int32} (R : Rel st aa Y X) (hk : tK Y a = 10) (e : X1 = hput X a (.inr (10, [.ref (aa a 0), .ref (aa a 1), .ref (aa a 2), .ref (aa a 3), .ref (aa a 4), .ref (aa a 5), .ref (aa a 6), .ref (aa a 7), .ref (aa a 8), .ref (aa a 9), .int (tI Y a 10), .ref (aa a 11), .ref (aa a 12), .ref (aa a 13), .int (tI Y a 14), .int (tI Y a 15), .int (tI Y a 16), .int (tI Y a 17), .int (tI Y a 18), .ref (aa a 19), .ref (aa a 20), .ref (aa a 21), .int (tI Y a 22), .ref (aa a 23), .ref (aa a 24), .int (tI Y a 25), .int (tI Y a 26)].set 10 (.int v)))) : Rel st aa (sI Y a 10 v) X1 := by
  rw [e]
  have h := R.putI (s := 10) (v := v) (show tK Y a < 11 by rw [hk]; decide)
  have e2 : tob st aa (sI Y a 10 v) a = .inr (10, [.ref (aa a 0), .ref (aa a 1), .ref (aa a 2), .ref (aa a 3), .ref (aa a 4), .ref (aa a 5), .ref (aa a 6), .ref (aa a 7), .ref (aa a 8), .ref (aa a 9), .int (tI Y a 10), .ref (aa a 11), .ref (aa a 12), .ref (aa a 13), .int (tI Y a 14), .int (tI Y a 15), .int (tI Y a 16), .int (tI Y a 17), .int (tI Y a 18), .ref (aa a 19), .ref (aa a 20), .ref (aa a 21), .int (tI Y a 22), .ref (aa a 23), .ref (aa a 24), .int (tI Y a 25), .int (tI Y a 26)].set 10 (.int v)) := by
    unfold tob
    rw [tK_sI, hk]
    simp [tI_sI, tW_sI]
  rw [e2] at h
  exact h
theorem ar_10_11 (R : Rel st aa Y X) (hk : tK Y a = 10) : Hs X (aa a 11) (.inl (0, 130, .inl (tA Y a 11))) := by
  have h := R.2.1 a 11 (by rw [hk]; decide)
  unfold tar at h
  rw [hk] at h
  exact h
theorem as_10_11 {g : Nat → Int32} (R : Rel st aa Y X) (hk : tK Y a = 10) (e : X1 = hput X (aa a 11) (.inl (0, 130, .inl g))) : Rel st aa (sF Y a 11 g) X1 := by
  rw [e]
  have h := R.putF (s := 11) (g := g) (show isA (tK Y a) 11 = true by rw [hk]; decide)
  have e2 : tar st (sF Y a 11 g) a 11 = .inl (0, 130, .inl g) := by
    unfold tar
    rw [tK_sF, hk]
    simp [tA_sF]
  rw [e2] at h
  exact h
theorem ar_10_12 (R : Rel st aa Y X) (hk : tK Y a = 10) : Hs X (aa a 12) (.inl (0, 130, .inl (tA Y a 12))) := by
  have h := R.2.1 a 12 (by rw [hk]; decide)
  unfold tar at h
  rw [hk] at h
  exact h
theorem as_10_12 {g : Nat → Int32} (R : Rel st aa Y X) (hk : tK Y a = 10) (e : X1 = hput X (aa a 12) (.inl (0, 130, .inl g))) : Rel st aa (sF Y a 12 g) X1 := by
  rw [e]
  have h := R.putF (s := 12) (g := g) (show isA (tK Y a) 12 = true by rw [hk]; decide)
  have e2 : tar st (sF Y a 12 g) a 12 = .inl (0, 130, .inl g) := by
    unfold tar
    rw [tK_sF, hk]
    simp [tA_sF]
  rw [e2] at h
  exact h
theorem ar_10_13 (R : Rel st aa Y X) (hk : tK Y a = 10) : Hs X (aa a 13) (.inl (0, 130, .inl (tA Y a 13))) := by
  have h := R.2.1 a 13 (by rw [hk]; decide)
  unfold tar at h
  rw [hk] at h
  exact h
theorem as_10_13 {g : Nat → Int32} (R : Rel st aa Y X) (hk : tK Y a = 10) (e : X1 = hput X (aa a 13) (.inl (0, 130, .inl g))) : Rel st aa (sF Y a 13 g) X1 := by
  rw [e]
  have h := R.putF (s := 13) (g := g) (show isA (tK Y a) 13 = true by rw [hk]; decide)
  have e2 : tar st (sF Y a 13 g) a 13 = .inl (0, 130, .inl g) := by
    unfold tar
    rw [tK_sF, hk]
    simp [tA_sF]
  rw [e2] at h
  exact h
theorem pu_10_14 {v : Int32} (R : Rel st aa Y X) (hk : tK Y a = 10) (e : X1 = hput X a (.inr (10, [.ref (aa a 0), .ref (aa a 1), .ref (aa a 2), .ref (aa a 3), .ref (aa a 4), .ref (aa a 5), .ref (aa a 6), .ref (aa a 7), .ref (aa a 8), .ref (aa a 9), .int (tI Y a 10), .ref (aa a 11), .ref (aa a 12), .ref (aa a 13), .int (tI Y a 14), .int (tI Y a 15), .int (tI Y a 16), .int (tI Y a 17), .int (tI Y a 18), .ref (aa a 19), .ref (aa a 20), .ref (aa a 21), .int (tI Y a 22), .ref (aa a 23), .ref (aa a 24), .int (tI Y a 25), .int (tI Y a 26)].set 14 (.int v)))) : Rel st aa (sI Y a 14 v) X1 := by
  rw [e]
  have h := R.putI (s := 14) (v := v) (show tK Y a < 11 by rw [hk]; decide)
  have e2 : tob st aa (sI Y a 14 v) a = .inr (10, [.ref (aa a 0), .ref (aa a 1), .ref (aa a 2), .ref (aa a 3), .ref (aa a 4), .ref (aa a 5), .ref (aa a 6), .ref (aa a 7), .ref (aa a 8), .ref (aa a 9), .int (tI Y a 10), .ref (aa a 11), .ref (aa a 12), .ref (aa a 13), .int (tI Y a 14), .int (tI Y a 15), .int (tI Y a 16), .int (tI Y a 17), .int (tI Y a 18), .ref (aa a 19), .ref (aa a 20), .ref (aa a 21), .int (tI Y a 22), .ref (aa a 23), .ref (aa a 24), .int (tI Y a 25), .int (tI Y a 26)].set 14 (.int v)) := by
    unfold tob
    rw [tK_sI, hk]
    simp [tI_sI, tW_sI]
  rw [e2] at h
  exact h
theorem pu_10_15 {v : Int32} (R : Rel st aa Y X) (hk : tK Y a = 10) (e : X1 = hput X a (.inr (10, [.ref (aa a 0), .ref (aa a 1), .ref (aa a 2), .ref (aa a 3), .ref (aa a 4), .ref (aa a 5), .ref (aa a 6), .ref (aa a 7), .ref (aa a 8), .ref (aa a 9), .int (tI Y a 10), .ref (aa a 11), .ref (aa a 12), .ref (aa a 13), .int (tI Y a 14), .int (tI Y a 15), .int (tI Y a 16), .int (tI Y a 17), .int (tI Y a 18), .ref (aa a 19), .ref (aa a 20), .ref (aa a 21), .int (tI Y a 22), .ref (aa a 23), .ref (aa a 24), .int (tI Y a 25), .int (tI Y a 26)].set 15 (.int v)))) : Rel st aa (sI Y a 15 v) X1 := by
  rw [e]
  have h := R.putI (s := 15) (v := v) (show tK Y a < 11 by rw [hk]; decide)
  have e2 : tob st aa (sI Y a 15 v) a = .inr (10, [.ref (aa a 0), .ref (aa a 1), .ref (aa a 2), .ref (aa a 3), .ref (aa a 4), .ref (aa a 5), .ref (aa a 6), .ref (aa a 7), .ref (aa a 8), .ref (aa a 9), .int (tI Y a 10), .ref (aa a 11), .ref (aa a 12), .ref (aa a 13), .int (tI Y a 14), .int (tI Y a 15), .int (tI Y a 16), .int (tI Y a 17), .int (tI Y a 18), .ref (aa a 19), .ref (aa a 20), .ref (aa a 21), .int (tI Y a 22), .ref (aa a 23), .ref (aa a 24), .int (tI Y a 25), .int (tI Y a 26)].set 15 (.int v)) := by
    unfold tob
    rw [tK_sI, hk]
    simp [tI_sI, tW_sI]
  rw [e2] at h
  exact h
theorem pu_10_16 {v : Int32} (R : Rel st aa Y X) (hk : tK Y a = 10) (e : X1 = hput X a (.inr (10, [.ref (aa a 0), .ref (aa a 1), .ref (aa a 2), .ref (aa a 3), .ref (aa a 4), .ref (aa a 5), .ref (aa a 6), .ref (aa a 7), .ref (aa a 8), .ref (aa a 9), .int (tI Y a 10), .ref (aa a 11), .ref (aa a 12), .ref (aa a 13), .int (tI Y a 14), .int (tI Y a 15), .int (tI Y a 16), .int (tI Y a 17), .int (tI Y a 18), .ref (aa a 19), .ref (aa a 20), .ref (aa a 21), .int (tI Y a 22), .ref (aa a 23), .ref (aa a 24), .int (tI Y a 25), .int (tI Y a 26)].set 16 (.int v)))) : Rel st aa (sI Y a 16 v) X1 := by
  rw [e]
  have h := R.putI (s := 16) (v := v) (show tK Y a < 11 by rw [hk]; decide)
  have e2 : tob st aa (sI Y a 16 v) a = .inr (10, [.ref (aa a 0), .ref (aa a 1), .ref (aa a 2), .ref (aa a 3), .ref (aa a 4), .ref (aa a 5), .ref (aa a 6), .ref (aa a 7), .ref (aa a 8), .ref (aa a 9), .int (tI Y a 10), .ref (aa a 11), .ref (aa a 12), .ref (aa a 13), .int (tI Y a 14), .int (tI Y a 15), .int (tI Y a 16), .int (tI Y a 17), .int (tI Y a 18), .ref (aa a 19), .ref (aa a 20), .ref (aa a 21), .int (tI Y a 22), .ref (aa a 23), .ref (aa a 24), .int (tI Y a 25), .int (tI Y a 26)].set 16 (.int v)) := by
    unfold tob
    rw [tK_sI, hk]
    simp [tI_sI, tW_sI]
  rw [e2] at h
  exact h
theorem pu_10_17 {v : Int32} (R : Rel st aa Y X) (hk : tK Y a = 10) (e : X1 = hput X a (.inr (10, [.ref (aa a 0), .ref (aa a 1), .ref (aa a 2), .ref (aa a 3), .ref (aa a 4), .ref (aa a 5), .ref (aa a 6), .ref (aa a 7), .ref (aa a 8), .ref (aa a 9), .int (tI Y a 10), .ref (aa a 11), .ref (aa a 12), .ref (aa a 13), .int (tI Y a 14), .int (tI Y a 15), .int (tI Y a 16), .int (tI Y a 17), .int (tI Y a 18), .ref (aa a 19), .ref (aa a 20), .ref (aa a 21), .int (tI Y a 22), .ref (aa a 23), .ref (aa a 24), .int (tI Y a 25), .int (tI Y a 26)].set 17 (.int v)))) : Rel st aa (sI Y a 17 v) X1 := by
  rw [e]
  have h := R.putI (s := 17) (v := v) (show tK Y a < 11 by rw [hk]; decide)
  have e2 : tob st aa (sI Y a 17 v) a = .inr (10, [.ref (aa a 0), .ref (aa a 1), .ref (aa a 2), .ref (aa a 3), .ref (aa a 4), .ref (aa a 5), .ref (aa a 6), .ref (aa a 7), .ref (aa a 8), .ref (aa a 9), .int (tI Y a 10), .ref (aa a 11), .ref (aa a 12), .ref (aa a 13), .int (tI Y a 14), .int (tI Y a 15), .int (tI Y a 16), .int (tI Y a 17), .int (tI Y a 18), .ref (aa a 19), .ref (aa a 20), .ref (aa a 21), .int (tI Y a 22), .ref (aa a 23), .ref (aa a 24), .int (tI Y a 25), .int (tI Y a 26)].set 17 (.int v)) := by
    unfold tob
    rw [tK_sI, hk]
    simp [tI_sI, tW_sI]
  rw [e2] at h
  exact h
theorem pu_10_18 {v : Int32} (R : Rel st aa Y X) (hk : tK Y a = 10) (e : X1 = hput X a (.inr (10, [.ref (aa a 0), .ref (aa a 1), .ref (aa a 2), .ref (aa a 3), .ref (aa a 4), .ref (aa a 5), .ref (aa a 6), .ref (aa a 7), .ref (aa a 8), .ref (aa a 9), .int (tI Y a 10), .ref (aa a 11), .ref (aa a 12), .ref (aa a 13), .int (tI Y a 14), .int (tI Y a 15), .int (tI Y a 16), .int (tI Y a 17), .int (tI Y a 18), .ref (aa a 19), .ref (aa a 20), .ref (aa a 21), .int (tI Y a 22), .ref (aa a 23), .ref (aa a 24), .int (tI Y a 25), .int (tI Y a 26)].set 18 (.int v)))) : Rel st aa (sI Y a 18 v) X1 := by
  rw [e]
  have h := R.putI (s := 18) (v := v) (show tK Y a < 11 by rw [hk]; decide)
  have e2 : tob st aa (sI Y a 18 v) a = .inr (10, [.ref (aa a 0), .ref (aa a 1), .ref (aa a 2), .ref (aa a 3), .ref (aa a 4), .ref (aa a 5), .ref (aa a 6), .ref (aa a 7), .ref (aa a 8), .ref (aa a 9), .int (tI Y a 10), .ref (aa a 11), .ref (aa a 12), .ref (aa a 13), .int (tI Y a 14), .int (tI Y a 15), .int (tI Y a 16), .int (tI Y a 17), .int (tI Y a 18), .ref (aa a 19), .ref (aa a 20), .ref (aa a 21), .int (tI Y a 22), .ref (aa a 23), .ref (aa a 24), .int (tI Y a 25), .int (tI Y a 26)].set 18 (.int v)) := by
    unfold tob
    rw [tK_sI, hk]
    simp [tI_sI, tW_sI]
  rw [e2] at h
  exact h
theorem ar_10_19 (R : Rel st aa Y X) (hk : tK Y a = 10) : Hs X (aa a 19) (.inl (0, 257250, .inl (tA Y a 19))) := by
  have h := R.2.1 a 19 (by rw [hk]; decide)
  unfold tar at h
  rw [hk] at h
  exact h
theorem as_10_19 {g : Nat → Int32} (R : Rel st aa Y X) (hk : tK Y a = 10) (e : X1 = hput X (aa a 19) (.inl (0, 257250, .inl g))) : Rel st aa (sF Y a 19 g) X1 := by
  rw [e]
  have h := R.putF (s := 19) (g := g) (show isA (tK Y a) 19 = true by rw [hk]; decide)
  have e2 : tar st (sF Y a 19 g) a 19 = .inl (0, 257250, .inl g) := by
    unfold tar
    rw [tK_sF, hk]
    simp [tA_sF]
  rw [e2] at h
  exact h
theorem ar_10_20 (R : Rel st aa Y X) (hk : tK Y a = 10) : Hs X (aa a 20) (.inl (1, 2, .inl (tA Y a 20))) := by
  have h := R.2.1 a 20 (by rw [hk]; decide)
  unfold tar at h
  rw [hk] at h
  exact h
theorem as_10_20 {g : Nat → Int32} (R : Rel st aa Y X) (hk : tK Y a = 10) (e : X1 = hput X (aa a 20) (.inl (1, 2, .inl g))) : Rel st aa (sF Y a 20 g) X1 := by
  rw [e]
  have h := R.putF (s := 20) (g := g) (show isA (tK Y a) 20 = true by rw [hk]; decide)
  have e2 : tar st (sF Y a 20 g) a 20 = .inl (1, 2, .inl g) := by
    unfold tar
    rw [tK_sF, hk]
    simp [tA_sF]
  rw [e2] at h
  exact h
theorem ar_10_21 (R : Rel st aa Y X) (hk : tK Y a = 10) : Hs X (aa a 21) (.inl (0, 2, .inl (tA Y a 21))) := by
  have h := R.2.1 a 21 (by rw [hk]; decide)
  unfold tar at h
  rw [hk] at h
  exact h
theorem as_10_21 {g : Nat → Int32} (R : Rel st aa Y X) (hk : tK Y a = 10) (e : X1 = hput X (aa a 21) (.inl (0, 2, .inl g))) : Rel st aa (sF Y a 21 g) X1 := by
  rw [e]
  have h := R.putF (s := 21) (g := g) (show isA (tK Y a) 21 = true by rw [hk]; decide)
  have e2 : tar st (sF Y a 21 g) a 21 = .inl (0, 2, .inl g) := by
    unfold tar
    rw [tK_sF, hk]
    simp [tA_sF]
  rw [e2] at h
  exact h
theorem pu_10_22 {v : Int32} (R : Rel st aa Y X) (hk : tK Y a = 10) (e : X1 = hput X a (.inr (10, [.ref (aa a 0), .ref (aa a 1), .ref (aa a 2), .ref (aa a 3), .ref (aa a 4), .ref (aa a 5), .ref (aa a 6), .ref (aa a 7), .ref (aa a 8), .ref (aa a 9), .int (tI Y a 10), .ref (aa a 11), .ref (aa a 12), .ref (aa a 13), .int (tI Y a 14), .int (tI Y a 15), .int (tI Y a 16), .int (tI Y a 17), .int (tI Y a 18), .ref (aa a 19), .ref (aa a 20), .ref (aa a 21), .int (tI Y a 22), .ref (aa a 23), .ref (aa a 24), .int (tI Y a 25), .int (tI Y a 26)].set 22 (.int v)))) : Rel st aa (sI Y a 22 v) X1 := by
  rw [e]
  have h := R.putI (s := 22) (v := v) (show tK Y a < 11 by rw [hk]; decide)
  have e2 : tob st aa (sI Y a 22 v) a = .inr (10, [.ref (aa a 0), .ref (aa a 1), .ref (aa a 2), .ref (aa a 3), .ref (aa a 4), .ref (aa a 5), .ref (aa a 6), .ref (aa a 7), .ref (aa a 8), .ref (aa a 9), .int (tI Y a 10), .ref (aa a 11), .ref (aa a 12), .ref (aa a 13), .int (tI Y a 14), .int (tI Y a 15), .int (tI Y a 16), .int (tI Y a 17), .int (tI Y a 18), .ref (aa a 19), .ref (aa a 20), .ref (aa a 21), .int (tI Y a 22), .ref (aa a 23), .ref (aa a 24), .int (tI Y a 25), .int (tI Y a 26)].set 22 (.int v)) := by
    unfold tob
    rw [tK_sI, hk]
    simp [tI_sI, tW_sI]
  rw [e2] at h
  exact h
theorem ar_10_23 (R : Rel st aa Y X) (hk : tK Y a = 10) : Hs X (aa a 23) (.inl (0, 120, .inl (tA Y a 23))) := by
  have h := R.2.1 a 23 (by rw [hk]; decide)
  unfold tar at h
  rw [hk] at h
  exact h
theorem as_10_23 {g : Nat → Int32} (R : Rel st aa Y X) (hk : tK Y a = 10) (e : X1 = hput X (aa a 23) (.inl (0, 120, .inl g))) : Rel st aa (sF Y a 23 g) X1 := by
  rw [e]
  have h := R.putF (s := 23) (g := g) (show isA (tK Y a) 23 = true by rw [hk]; decide)
  have e2 : tar st (sF Y a 23 g) a 23 = .inl (0, 120, .inl g) := by
    unfold tar
    rw [tK_sF, hk]
    simp [tA_sF]
  rw [e2] at h
  exact h
theorem ar_10_24 (R : Rel st aa Y X) (hk : tK Y a = 10) : Hs X (aa a 24) (.inl (1, 2, .inl (tA Y a 24))) := by
  have h := R.2.1 a 24 (by rw [hk]; decide)
  unfold tar at h
  rw [hk] at h
  exact h
theorem as_10_24 {g : Nat → Int32} (R : Rel st aa Y X) (hk : tK Y a = 10) (e : X1 = hput X (aa a 24) (.inl (1, 2, .inl g))) : Rel st aa (sF Y a 24 g) X1 := by
  rw [e]
  have h := R.putF (s := 24) (g := g) (show isA (tK Y a) 24 = true by rw [hk]; decide)
  have e2 : tar st (sF Y a 24 g) a 24 = .inl (1, 2, .inl g) := by
    unfold tar
    rw [tK_sF, hk]
    simp [tA_sF]
  rw [e2] at h
  exact h
theorem pu_10_25 {v : Int32} (R : Rel st aa Y X) (hk : tK Y a = 10) (e : X1 = hput X a (.inr (10, [.ref (aa a 0), .ref (aa a 1), .ref (aa a 2), .ref (aa a 3), .ref (aa a 4), .ref (aa a 5), .ref (aa a 6), .ref (aa a 7), .ref (aa a 8), .ref (aa a 9), .int (tI Y a 10), .ref (aa a 11), .ref (aa a 12), .ref (aa a 13), .int (tI Y a 14), .int (tI Y a 15), .int (tI Y a 16), .int (tI Y a 17), .int (tI Y a 18), .ref (aa a 19), .ref (aa a 20), .ref (aa a 21), .int (tI Y a 22), .ref (aa a 23), .ref (aa a 24), .int (tI Y a 25), .int (tI Y a 26)].set 25 (.int v)))) : Rel st aa (sI Y a 25 v) X1 := by
  rw [e]
  have h := R.putI (s := 25) (v := v) (show tK Y a < 11 by rw [hk]; decide)
  have e2 : tob st aa (sI Y a 25 v) a = .inr (10, [.ref (aa a 0), .ref (aa a 1), .ref (aa a 2), .ref (aa a 3), .ref (aa a 4), .ref (aa a 5), .ref (aa a 6), .ref (aa a 7), .ref (aa a 8), .ref (aa a 9), .int (tI Y a 10), .ref (aa a 11), .ref (aa a 12), .ref (aa a 13), .int (tI Y a 14), .int (tI Y a 15), .int (tI Y a 16), .int (tI Y a 17), .int (tI Y a 18), .ref (aa a 19), .ref (aa a 20), .ref (aa a 21), .int (tI Y a 22), .ref (aa a 23), .ref (aa a 24), .int (tI Y a 25), .int (tI Y a 26)].set 25 (.int v)) := by
    unfold tob
    rw [tK_sI, hk]
    simp [tI_sI, tW_sI]
  rw [e2] at h
  exact h
theorem pu_10_26 {v : Int32} (R : Rel st aa Y X) (hk : tK Y a = 10) (e : X1 = hput X a (.inr (10, [.ref (aa a 0), .ref (aa a 1), .ref (aa a 2), .ref (aa a 3), .ref (aa a 4), .ref (aa a 5), .ref (aa a 6), .ref (aa a 7), .ref (aa a 8), .ref (aa a 9), .int (tI Y a 10), .ref (aa a 11), .ref (aa a 12), .ref (aa a 13), .int (tI Y a 14), .int (tI Y a 15), .int (tI Y a 16), .int (tI Y a 17), .int (tI Y a 18), .ref (aa a 19), .ref (aa a 20), .ref (aa a 21), .int (tI Y a 22), .ref (aa a 23), .ref (aa a 24), .int (tI Y a 25), .int (tI Y a 26)].set 26 (.int v)))) : Rel st aa (sI Y a 26 v) X1 := by
  rw [e]
  have h := R.putI (s := 26) (v := v) (show tK Y a < 11 by rw [hk]; decide)
  have e2 : tob st aa (sI Y a 26 v) a = .inr (10, [.ref (aa a 0), .ref (aa a 1), .ref (aa a 2), .ref (aa a 3), .ref (aa a 4), .ref (aa a 5), .ref (aa a 6), .ref (aa a 7), .ref (aa a 8), .ref (aa a 9), .int (tI Y a 10), .ref (aa a 11), .ref (aa a 12), .ref (aa a 13), .int (tI Y a 14), .int (tI Y a 15), .int (tI Y a 16), .int (tI Y a 17), .int (tI Y a 18), .ref (aa a 19), .ref (aa a 20), .ref (aa a 21), .int (tI Y a 22), .ref (aa a 23), .ref (aa a 24), .int (tI Y a 25), .int (tI Y a 26)].set 26 (.int v)) := by
    unfold tob
    rw [tK_sI, hk]
    simp [tI_sI, tW_sI]
  rw [e2] at h
  exact h
theorem pw_0 {r : Option Nat} (R : Rel st aa Y X) (hk : tK Y a = 0) (hr : ∀ b, r = some b → tK Y b = 8) (e : X1 = hput X a (.inr (0, [.ref (st.1 a 0), .ref (st.1 a 1), va_rf (tW Y a), .int (tI Y a 3), .int (tI Y a 4), .int (tI Y a 5)].set 2 (va_rf r)))) : Rel st aa (sW Y a r) X1 := by
  rw [e]
  have h := R.putW (r := r) hk hr
  have e2 : tob st aa (sW Y a r) a = .inr (0, [.ref (st.1 a 0), .ref (st.1 a 1), va_rf (tW Y a), .int (tI Y a 3), .int (tI Y a 4), .int (tI Y a 5)].set 2 (va_rf r)) := by
    unfold tob
    rw [tK_sW, hk]
    simp [tI_sW, tW_sW]
  rw [e2] at h
  exact h
theorem wf_0_0 (R : Rel st aa Y X) (hk : tK Y a = 0) : tK Y (st.1 a 0) = 2 := (R.2.2.2.1 a hk).1
theorem wf_0_1 (R : Rel st aa Y X) (hk : tK Y a = 0) : tK Y (st.1 a 1) = 7 := (R.2.2.2.1 a hk).2.1
theorem wf_0_2 (R : Rel st aa Y X) (hk : tK Y a = 0) {b : Nat} (h : tW Y a = some b) : tK Y b = 8 := (R.2.2.2.1 a hk).2.2 b h
theorem wf_1_0 (R : Rel st aa Y X) (hk : tK Y a = 1) {i b : Nat} (h : st.2 a 0 i = some b) : tK Y b = 8 := (R.2.2.2.2.1 a hk).1 i b h
theorem wf_1_1 (R : Rel st aa Y X) (hk : tK Y a = 1) : tK Y (st.1 a 1) = 2 := (R.2.2.2.2.1 a hk).2
theorem wf_4_0 (R : Rel st aa Y X) (hk : tK Y a = 4) : tK Y (st.1 a 0) = 8 := (R.2.2.2.2.2.1 a hk).1
theorem wf_4_1 (R : Rel st aa Y X) (hk : tK Y a = 4) : tK Y (st.1 a 1) = 2 := (R.2.2.2.2.2.1 a hk).2.1
theorem wf_4_2 (R : Rel st aa Y X) (hk : tK Y a = 4) : tK Y (st.1 a 2) = 6 := (R.2.2.2.2.2.1 a hk).2.2.1
theorem wf_4_3 (R : Rel st aa Y X) (hk : tK Y a = 4) {i b : Nat} (h : tP Y a i = some b) : tK Y b = 5 := (R.2.2.2.2.2.1 a hk).2.2.2 i b h
theorem wf_9_0 (R : Rel st aa Y X) (hk : tK Y a = 9) : tK Y (st.1 a 0) = 1 := (R.2.2.2.2.2.2 a hk).1
theorem wf_9_1 (R : Rel st aa Y X) (hk : tK Y a = 9) {i b : Nat} (h : st.2 a 1 i = some b) : tK Y b = 1 := (R.2.2.2.2.2.2 a hk).2.1 i b h
theorem wf_9_3 (R : Rel st aa Y X) (hk : tK Y a = 9) {i b : Nat} (h : st.2 a 3 i = some b) : tK Y b = 4 := (R.2.2.2.2.2.2 a hk).2.2.1 i b h
theorem wf_9_4 (R : Rel st aa Y X) (hk : tK Y a = 9) : tK Y (st.1 a 4) = 3 := (R.2.2.2.2.2.2 a hk).2.2.2.1
theorem wf_9_5 (R : Rel st aa Y X) (hk : tK Y a = 9) : tK Y (st.1 a 5) = 0 := (R.2.2.2.2.2.2 a hk).2.2.2.2
end TYR
