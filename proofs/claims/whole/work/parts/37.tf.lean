def tp_X10_in (st : TS) (post : Int32 → Prop) (Y : TY) (v0 : Int64) (v2 : Int64) (v4 : Int64) : Prop := ((lg_cmp v0 v2) < 0 → post (0 : Int32)) ∧ (¬ (lg_cmp v0 v2) < 0 → (0 < (lg_cmp v0 v4) → post (0 : Int32)) ∧ (¬ 0 < (lg_cmp v0 v4) → post (1 : Int32)))
set_option maxHeartbeats 4000000 in
set_option maxRecDepth 100000 in
theorem t_X10_in {st : TS} {aa : Nat → Nat → Nat} {Y : TY} {X : Hp} {postT : Int32 → Prop} {post : Int32 → Prop} {v0 : Int64} {v2 : Int64} {v4 : Int64} (R : Rel st aa Y X)  (h : tp_X10_in st postT Y v0 v2 v4) (hp : ∀ (r : Int32) , postT r → post r ) : wp_X10_in post X v0 v2 v4 := by
  unfold tp_X10_in at h
  unfold wp_X10_in
  refine ⟨fun c1 => ?_, fun c1 => ?_⟩
  · have h := h.1 c1
    exact hp _ h
  · have h := h.2 c1
    refine ⟨fun c2 => ?_, fun c2 => ?_⟩
    · have h := h.1 c2
      exact hp _ h
    · have h := h.2 c2
      exact hp _ h
def tp_X10_isWay (st : TS) (post : Int32 → Prop) (Y : TY) (v0 : Int32) : Prop := tp_X10_in st (fun r1 => (r1 = 0 ∨ r1 = 1) ∧ post r1) Y (v0.toInt64) (0 : Int64) (1 : Int64)
set_option maxHeartbeats 4000000 in
set_option maxRecDepth 100000 in
theorem t_X10_isWay {st : TS} {aa : Nat → Nat → Nat} {Y : TY} {X : Hp} {postT : Int32 → Prop} {post : Int32 → Prop} {v0 : Int32} (R : Rel st aa Y X)  (h : tp_X10_isWay st postT Y v0) (hp : ∀ (r : Int32) , postT r → post r ) : wp_X10_isWay post X v0 := by
  unfold tp_X10_isWay at h
  unfold wp_X10_isWay
  refine t_X10_in R  h (fun r1 h => ?_)
  obtain ⟨hz, h⟩ := h
  exact ⟨hz, hp _ h⟩
def tp_X10_isOwed (st : TS) (post : Int32 → Prop) (Y : TY) (v0 : Int32) : Prop := tp_X10_in st (fun r1 => (r1 = 0 ∨ r1 = 1) ∧ post r1) Y (v0.toInt64) (0 : Int64) (20 : Int64)
set_option maxHeartbeats 4000000 in
set_option maxRecDepth 100000 in
theorem t_X10_isOwed {st : TS} {aa : Nat → Nat → Nat} {Y : TY} {X : Hp} {postT : Int32 → Prop} {post : Int32 → Prop} {v0 : Int32} (R : Rel st aa Y X)  (h : tp_X10_isOwed st postT Y v0) (hp : ∀ (r : Int32) , postT r → post r ) : wp_X10_isOwed post X v0 := by
  unfold tp_X10_isOwed at h
  unfold wp_X10_isOwed
  refine t_X10_in R  h (fun r1 h => ?_)
  obtain ⟨hz, h⟩ := h
  exact ⟨hz, hp _ h⟩
def tp_X10_isBattery (st : TS) (post : Int32 → Prop) (Y : TY) (v0 : Int32) : Prop := tp_X10_in st (fun r1 => (r1 = 0 ∨ r1 = 1) ∧ post r1) Y (v0.toInt64) (0 : Int64) (24 : Int64)
set_option maxHeartbeats 4000000 in
set_option maxRecDepth 100000 in
theorem t_X10_isBattery {st : TS} {aa : Nat → Nat → Nat} {Y : TY} {X : Hp} {postT : Int32 → Prop} {post : Int32 → Prop} {v0 : Int32} (R : Rel st aa Y X)  (h : tp_X10_isBattery st postT Y v0) (hp : ∀ (r : Int32) , postT r → post r ) : wp_X10_isBattery post X v0 := by
  unfold tp_X10_isBattery at h
  unfold wp_X10_isBattery
  refine t_X10_in R  h (fun r1 h => ?_)
  obtain ⟨hz, h⟩ := h
  exact ⟨hz, hp _ h⟩
def tp_X10_isEnd (st : TS) (post : Int32 → Prop) (Y : TY) (v0 : Int32) : Prop := tp_X10_in st (fun r1 => (r1 = 0 ∨ r1 = 1) ∧ post r1) Y (v0.toInt64) (0 : Int64) (1 : Int64)
set_option maxHeartbeats 4000000 in
set_option maxRecDepth 100000 in
theorem t_X10_isEnd {st : TS} {aa : Nat → Nat → Nat} {Y : TY} {X : Hp} {postT : Int32 → Prop} {post : Int32 → Prop} {v0 : Int32} (R : Rel st aa Y X)  (h : tp_X10_isEnd st postT Y v0) (hp : ∀ (r : Int32) , postT r → post r ) : wp_X10_isEnd post X v0 := by
  unfold tp_X10_isEnd at h
  unfold wp_X10_isEnd
  refine t_X10_in R  h (fun r1 h => ?_)
  obtain ⟨hz, h⟩ := h
  exact ⟨hz, hp _ h⟩
def tk_X10_layHours_17 (st : TS) (post : TY → Prop) (v0 : Nat) (v1 : Int32) (r_4 : TY → Int32 → Int32 → Prop) : Nat → TY → Int32 → Int32 → Int32 → Prop
  | 0, _, _, _, _ => False
  | k + 1, Y, b17_2, b17_3, b17_4 => vp_in (((8 : Int32) * v1) + b17_3) 16 ∧ ((tA Y v0 0 (((8 : Int32) * v1) + b17_3).toNatClampNeg) ≤ b17_4 → ∀ x7 : Int32, x7 = b17_3 + (1 : Int32) → r_4 Y b17_2 x7) ∧ (¬ (tA Y v0 0 (((8 : Int32) * v1) + b17_3).toNatClampNeg) ≤ b17_4 → vp_in (((8 : Int32) * v1) + b17_3) 16 ∧ vp_in (((48 : Int32) * v1) + b17_2) 96 ∧ ∀ Y8 : TY, Y8 = sF Y v0 5 (upd (tA Y v0 5) (((48 : Int32) * v1) + b17_2).toNatClampNeg (tA Y v0 1 (((8 : Int32) * v1) + b17_3).toNatClampNeg)) → vp_in (((8 : Int32) * v1) + b17_3) 16 ∧ vp_in (((48 : Int32) * v1) + b17_2) 96 ∧ ∀ Y9 : TY, Y9 = sF Y8 v0 6 (upd (tA Y8 v0 6) (((48 : Int32) * v1) + b17_2).toNatClampNeg (tA Y8 v0 2 (((8 : Int32) * v1) + b17_3).toNatClampNeg)) → ∀ x10 : Int32, x10 = b17_2 + (1 : Int32) → ∀ x11 : Int32, x11 = b17_4 + (1 : Int32) → (tk_X10_layHours_17 st post v0 v1 r_4 k) Y9 x10 b17_3 x11)
def tk_X10_layHours_4 (st : TS) (post : TY → Prop) (v0 : Nat) (v1 : Int32)  : Nat → TY → Int32 → Int32 → Prop
  | 0, _, _, _ => False
  | k + 1, Y, b4_2, b4_3 => vp_in v1 2 ∧ ((tA Y v0 3 v1.toNatClampNeg) ≤ b4_3 → vp_in v1 2 ∧ ∀ Y3 : TY, Y3 = sF Y v0 4 (upd (tA Y v0 4) v1.toNatClampNeg b4_2) → vp_in v1 2 ∧ ∀ Y4 : TY, Y4 = sF Y3 v0 20 (upd (tA Y3 v0 20) v1.toNatClampNeg (vp_nar .boolean (0 : Int32))) → post Y4) ∧ (¬ (tA Y v0 3 v1.toNatClampNeg) ≤ b4_3 → ∃ n5 : Nat, tk_X10_layHours_17 st post v0 v1 (tk_X10_layHours_4 st post v0 v1 k) n5 Y b4_2 b4_3 (0 : Int32))
def tp_X10_layHours (st : TS) (post : TY → Prop) (Y : TY) (v0 : Nat) (v1 : Int32) : Prop := ∃ n1 : Nat, tk_X10_layHours_4 st post v0 v1 n1 Y (0 : Int32) (0 : Int32)
set_option maxHeartbeats 4000000 in
set_option maxRecDepth 100000 in
theorem t_X10_layHours {st : TS} {aa : Nat → Nat → Nat} {Y : TY} {X : Hp} {postT : TY → Prop} {post : Hp → Prop} {v0 : Nat} {v1 : Int32} (R : Rel st aa Y X) (hk_v0 : tK Y v0 = 10) (h : tp_X10_layHours st postT Y v0 v1) (hp : ∀ (Y' : TY) (X' : Hp), postT Y' → Rel st aa Y' X' → (∀ a, tK Y' a = tK Y a) → post X') : wp_X10_layHours post X v0 v1 := by
  unfold tp_X10_layHours at h
  unfold wp_X10_layHours
  have hE0 : ∀ a, tK Y a = tK Y a := fun a => rfl
  obtain ⟨Y0, hY0⟩ : ∃ Z : TY, Z = Y := ⟨_, rfl⟩
  have hE0 : ∀ a, tK Y a = tK Y0 a := by rw [hY0]; exact hE0
  rw [← hY0] at hp
  have J_4 : ∀ (n : Nat) (Y : TY) (b4_2 : Int32) (b4_3 : Int32), ∀ (X : Hp) (_ : tk_X10_layHours_4 st postT v0 v1  n Y b4_2 b4_3), Rel st aa Y X → (∀ a, tK Y a = tK Y0 a) → tK Y v0 = 10 → bk_X10_layHours_4 post v0 v1  n X b4_2 b4_3 := by
    intro n
    induction n with
    | zero =>
      intro Y b4_2 b4_3 X h R hE0 hk_v0 
      rw [tk_X10_layHours_4] at h
      exact h.elim
    | succ n_4 ih_4 =>
      have J_17 : ∀ (n : Nat) (Y : TY) (b17_2 : Int32) (b17_3 : Int32) (b17_4 : Int32), ∀ (X : Hp) (_ : tk_X10_layHours_17 st postT v0 v1 (tk_X10_layHours_4 st postT v0 v1 n_4) n Y b17_2 b17_3 b17_4), Rel st aa Y X → (∀ a, tK Y a = tK Y0 a) → tK Y v0 = 10 → bk_X10_layHours_17 post v0 v1 (bk_X10_layHours_4 post v0 v1 n_4) n X b17_2 b17_3 b17_4 := by
        intro n
        induction n with
        | zero =>
          intro Y b17_2 b17_3 b17_4 X h R hE0 hk_v0 
          rw [tk_X10_layHours_17] at h
          exact h.elim
        | succ n_17 ih_17 =>
          intro Y b17_2 b17_3 b17_4 X h R hE0 hk_v0 
          rw [tk_X10_layHours_17] at h
          rw [bk_X10_layHours_17]
          refine ⟨_, _, ob_10 R hk_v0, rfl, ?_⟩
          refine ⟨_, _, ar_10_0 R hk_v0, h.1, ?_⟩
          have h := h.2
          refine ⟨fun c6 => ?_, fun c6 => ?_⟩
          · have h := h.1 c6
            intro x7 ex7
            have h := h x7 ex7
            exact ih_4 _ _ _ _ h R hE0 (hk_v0) 
          · have h := h.2 c6
            refine ⟨_, _, ob_10 R hk_v0, rfl, ?_⟩
            refine ⟨_, _, ob_10 R hk_v0, rfl, ?_⟩
            refine ⟨_, _, ar_10_1 R hk_v0, h.1, ?_⟩
            have h := h.2
            refine ⟨_, _, ar_10_5 R hk_v0, h.1, fun X1 e1 => ?_⟩
            have h := h.2 _ rfl
            have R := as_10_5 R hk_v0 e1
            refine ⟨_, _, ob_10 R hk_v0, rfl, ?_⟩
            refine ⟨_, _, ob_10 R hk_v0, rfl, ?_⟩
            refine ⟨_, _, ar_10_2 R hk_v0, h.1, ?_⟩
            have h := h.2
            refine ⟨_, _, ar_10_6 R hk_v0, h.1, fun X1 e1 => ?_⟩
            have h := h.2 _ rfl
            have R := as_10_6 R hk_v0 e1
            intro x10 ex10
            have h := h x10 ex10
            intro x11 ex11
            have h := h x11 ex11
            exact ih_17 _ _ _ _ _ h R hE0 (hk_v0) 
      intro Y b4_2 b4_3 X h R hE0 hk_v0 
      rw [tk_X10_layHours_4] at h
      rw [bk_X10_layHours_4]
      refine ⟨_, _, ob_10 R hk_v0, rfl, ?_⟩
      refine ⟨_, _, ar_10_3 R hk_v0, h.1, ?_⟩
      have h := h.2
      refine ⟨fun c2 => ?_, fun c2 => ?_⟩
      · have h := h.1 c2
        refine ⟨_, _, ob_10 R hk_v0, rfl, ?_⟩
        refine ⟨_, _, ar_10_4 R hk_v0, h.1, fun X1 e1 => ?_⟩
        have h := h.2 _ rfl
        have R := as_10_4 R hk_v0 e1
        refine ⟨_, _, ob_10 R hk_v0, rfl, ?_⟩
        refine ⟨_, _, ar_10_20 R hk_v0, h.1, fun X1 e1 => ?_⟩
        have h := h.2 _ rfl
        have R := as_10_20 R hk_v0 e1
        exact hp _ _ h R hE0
      · have h := h.2 c2
        obtain ⟨n5, h⟩ := h
        exact ⟨n5, J_17 n5 _ _ _ _ _ h R hE0 (hk_v0) ⟩
  obtain ⟨n1, h⟩ := h
  exact ⟨n1, J_4 n1 _ _ _ _ h R hE0 (hk_v0) ⟩
def tp_X10_leg (st : TS) (post : Int32 → TY → Prop) (Y : TY) (v0 : Nat) (v1 : Int32) (v2 : Int32) (v3 : Int32) (v4 : Int32) : Prop := tp_X10_isWay st (fun r1 => (¬ r1 = 0 → tp_X10_in st (fun r3 => (r3 = 0 → post (-2 : Int32) Y) ∧ (¬ r3 = 0 → tp_X10_in st (fun r5 => (r5 = 0 → post (-2 : Int32) Y) ∧ (¬ r5 = 0 → tp_X10_isEnd st (fun r7 => (¬ r7 = 0 → vp_in v1 2 ∧ ((tA Y v0 3 v1.toNatClampNeg) = (8 : Int32) → post (-4 : Int32) Y) ∧ (¬ (tA Y v0 3 v1.toNatClampNeg) = (8 : Int32) → vp_in v1 2 ∧ (((tA Y v0 4 v1.toNatClampNeg) + v2) ≤ (48 : Int32) → vp_in v1 2 ∧ ∀ x11 : Int32, x11 = (((8 : Int32) * v1) + (tA Y v0 3 v1.toNatClampNeg)) → vp_in x11 16 ∧ ∀ Y12 : TY, Y12 = sF Y v0 0 (upd (tA Y v0 0) x11.toNatClampNeg v2) → vp_in x11 16 ∧ ∀ Y13 : TY, Y13 = sF Y12 v0 1 (upd (tA Y12 v0 1) x11.toNatClampNeg v3) → vp_in x11 16 ∧ ∀ Y14 : TY, Y14 = sF Y13 v0 2 (upd (tA Y13 v0 2) x11.toNatClampNeg v4) → vp_in v1 2 ∧ vp_in v1 2 ∧ ∀ Y15 : TY, Y15 = sF Y14 v0 3 (upd (tA Y14 v0 3) v1.toNatClampNeg ((tA Y14 v0 3 v1.toNatClampNeg) + (1 : Int32))) → tp_X10_layHours st (fun Y16 => vp_in v1 2 ∧ post (tA Y16 v0 4 v1.toNatClampNeg) Y16) Y15 v0 v1) ∧ (¬ ((tA Y v0 4 v1.toNatClampNeg) + v2) ≤ (48 : Int32) → post (-4 : Int32) Y))) ∧ (r7 = 0 → post (-2 : Int32) Y)) Y v4)) Y (v3.toInt64) (0 : Int64) (500 : Int64))) Y (v2.toInt64) (1 : Int64) (24 : Int64)) ∧ (r1 = 0 → post (-1 : Int32) Y)) Y v1
set_option maxHeartbeats 4000000 in
set_option maxRecDepth 100000 in
theorem t_X10_leg {st : TS} {aa : Nat → Nat → Nat} {Y : TY} {X : Hp} {postT : Int32 → TY → Prop} {post : Int32 → Hp → Prop} {v0 : Nat} {v1 : Int32} {v2 : Int32} {v3 : Int32} {v4 : Int32} (R : Rel st aa Y X) (hk_v0 : tK Y v0 = 10) (h : tp_X10_leg st postT Y v0 v1 v2 v3 v4) (hp : ∀ (r : Int32) (Y' : TY) (X' : Hp), postT r Y' → Rel st aa Y' X' → (∀ a, tK Y' a = tK Y a) → post r X') : wp_X10_leg post X v0 v1 v2 v3 v4 := by
  unfold tp_X10_leg at h
  unfold wp_X10_leg
  have hE0 : ∀ a, tK Y a = tK Y a := fun a => rfl
  obtain ⟨Y0, hY0⟩ : ∃ Z : TY, Z = Y := ⟨_, rfl⟩
  have hE0 : ∀ a, tK Y a = tK Y0 a := by rw [hY0]; exact hE0
  rw [← hY0] at hp
  refine t_X10_isWay R  h (fun r1 h => ?_)
  refine ⟨fun c2 => ?_, fun c2 => ?_⟩
  · have h := h.1 c2
    refine t_X10_in R  h (fun r3 h => ?_)
    refine ⟨fun c4 => ?_, fun c4 => ?_⟩
    · have h := h.1 c4
      exact hp _ _ _ h R hE0
    · have h := h.2 c4
      refine t_X10_in R  h (fun r5 h => ?_)
      refine ⟨fun c6 => ?_, fun c6 => ?_⟩
      · have h := h.1 c6
        exact hp _ _ _ h R hE0
      · have h := h.2 c6
        refine t_X10_isEnd R  h (fun r7 h => ?_)
        refine ⟨fun c8 => ?_, fun c8 => ?_⟩
        · have h := h.1 c8
          refine ⟨_, _, ob_10 R hk_v0, rfl, ?_⟩
          refine ⟨_, _, ar_10_3 R hk_v0, h.1, ?_⟩
          have h := h.2
          refine ⟨fun c9 => ?_, fun c9 => ?_⟩
          · have h := h.1 c9
            exact hp _ _ _ h R hE0
          · have h := h.2 c9
            refine ⟨_, _, ob_10 R hk_v0, rfl, ?_⟩
            refine ⟨_, _, ar_10_4 R hk_v0, h.1, ?_⟩
            have h := h.2
            refine ⟨fun c10 => ?_, fun c10 => ?_⟩
            · have h := h.1 c10
              refine ⟨_, _, ob_10 R hk_v0, rfl, ?_⟩
              refine ⟨_, _, ar_10_3 R hk_v0, h.1, ?_⟩
              have h := h.2
              intro x11 ex11
              have h := h x11 ex11
              refine ⟨_, _, ob_10 R hk_v0, rfl, ?_⟩
              refine ⟨_, _, ar_10_0 R hk_v0, h.1, fun X1 e1 => ?_⟩
              have h := h.2 _ rfl
              have R := as_10_0 R hk_v0 e1
              refine ⟨_, _, ob_10 R hk_v0, rfl, ?_⟩
              refine ⟨_, _, ar_10_1 R hk_v0, h.1, fun X1 e1 => ?_⟩
              have h := h.2 _ rfl
              have R := as_10_1 R hk_v0 e1
              refine ⟨_, _, ob_10 R hk_v0, rfl, ?_⟩
              refine ⟨_, _, ar_10_2 R hk_v0, h.1, fun X1 e1 => ?_⟩
              have h := h.2 _ rfl
              have R := as_10_2 R hk_v0 e1
              refine ⟨_, _, ob_10 R hk_v0, rfl, ?_⟩
              refine ⟨_, _, ar_10_3 R hk_v0, h.1, ?_⟩
              have h := h.2
              refine ⟨_, _, ar_10_3 R hk_v0, h.1, fun X1 e1 => ?_⟩
              have h := h.2 _ rfl
              have R := as_10_3 R hk_v0 e1
              refine ⟨_, ob_10 R hk_v0, t_X10_layHours R hk_v0 h (fun Y X h R hE => ?_)⟩
              have hk_v0 := (hE _).trans hk_v0
              have hE0 := fun a => (hE a).trans (hE0 a)
              refine ⟨_, _, ob_10 R hk_v0, rfl, ?_⟩
              refine ⟨_, _, ar_10_4 R hk_v0, h.1, ?_⟩
              have h := h.2
              exact hp _ _ _ h R hE0
            · have h := h.2 c10
              exact hp _ _ _ h R hE0
        · have h := h.2 c8
          exact hp _ _ _ h R hE0
  · have h := h.2 c2
    exact hp _ _ _ h R hE0
def tp_X10_cut (st : TS) (post : Int32 → TY → Prop) (Y : TY) (v0 : Nat) (v1 : Int32) : Prop := tp_X10_isWay st (fun r1 => (¬ r1 = 0 → vp_in v1 2 ∧ (¬ (tA Y v0 3 v1.toNatClampNeg) = 0 → vp_in v1 2 ∧ vp_in v1 2 ∧ ∀ Y4 : TY, Y4 = sF Y v0 3 (upd (tA Y v0 3) v1.toNatClampNeg ((tA Y v0 3 v1.toNatClampNeg) - (1 : Int32))) → tp_X10_layHours st (fun Y5 => vp_in v1 2 ∧ post (tA Y5 v0 3 v1.toNatClampNeg) Y5) Y4 v0 v1) ∧ ((tA Y v0 3 v1.toNatClampNeg) = 0 → post (-5 : Int32) Y)) ∧ (r1 = 0 → post (-1 : Int32) Y)) Y v1
set_option maxHeartbeats 4000000 in
set_option maxRecDepth 100000 in
theorem t_X10_cut {st : TS} {aa : Nat → Nat → Nat} {Y : TY} {X : Hp} {postT : Int32 → TY → Prop} {post : Int32 → Hp → Prop} {v0 : Nat} {v1 : Int32} (R : Rel st aa Y X) (hk_v0 : tK Y v0 = 10) (h : tp_X10_cut st postT Y v0 v1) (hp : ∀ (r : Int32) (Y' : TY) (X' : Hp), postT r Y' → Rel st aa Y' X' → (∀ a, tK Y' a = tK Y a) → post r X') : wp_X10_cut post X v0 v1 := by
  unfold tp_X10_cut at h
  unfold wp_X10_cut
  have hE0 : ∀ a, tK Y a = tK Y a := fun a => rfl
  obtain ⟨Y0, hY0⟩ : ∃ Z : TY, Z = Y := ⟨_, rfl⟩
  have hE0 : ∀ a, tK Y a = tK Y0 a := by rw [hY0]; exact hE0
  rw [← hY0] at hp
  refine t_X10_isWay R  h (fun r1 h => ?_)
  refine ⟨fun c2 => ?_, fun c2 => ?_⟩
  · have h := h.1 c2
    refine ⟨_, _, ob_10 R hk_v0, rfl, ?_⟩
    refine ⟨_, _, ar_10_3 R hk_v0, h.1, ?_⟩
    have h := h.2
    refine ⟨fun c3 => ?_, fun c3 => ?_⟩
    · have h := h.1 c3
      refine ⟨_, _, ob_10 R hk_v0, rfl, ?_⟩
      refine ⟨_, _, ar_10_3 R hk_v0, h.1, ?_⟩
      have h := h.2
      refine ⟨_, _, ar_10_3 R hk_v0, h.1, fun X1 e1 => ?_⟩
      have h := h.2 _ rfl
      have R := as_10_3 R hk_v0 e1
      refine ⟨_, ob_10 R hk_v0, t_X10_layHours R hk_v0 h (fun Y X h R hE => ?_)⟩
      have hk_v0 := (hE _).trans hk_v0
      have hE0 := fun a => (hE a).trans (hE0 a)
      refine ⟨_, _, ob_10 R hk_v0, rfl, ?_⟩
      refine ⟨_, _, ar_10_3 R hk_v0, h.1, ?_⟩
      have h := h.2
      exact hp _ _ _ h R hE0
    · have h := h.2 c3
      exact hp _ _ _ h R hE0
  · have h := h.2 c2
    exact hp _ _ _ h R hE0
def tk_X10_about_33 (st : TS) (post : Int32 → Prop) (Y : TY) (v0 : Nat) (v1 : Int32) (v2 : Int32) (v3 : Int32)  : Nat → Int32 → Int32 → Prop
  | 0, _, _ => False
  | k + 1, b33_4, b33_5 => (v2 ≤ b33_5 → ∀ x7 : Int32, x7 = (((8 : Int32) * v1) + v2) → (v3 = (0 : Int32) → vp_in x7 16 ∧ post (tA Y v0 0 x7.toNatClampNeg)) ∧ (v3 = (1 : Int32) → vp_in x7 16 ∧ post (tA Y v0 1 x7.toNatClampNeg)) ∧ (v3 = (2 : Int32) → vp_in x7 16 ∧ post (tA Y v0 2 x7.toNatClampNeg)) ∧ (v3 = (3 : Int32) → post b33_4) ∧ (¬ v3 = (0 : Int32) ∧ ¬ v3 = (1 : Int32) ∧ ¬ v3 = (2 : Int32) ∧ ¬ v3 = (3 : Int32) → post (-2 : Int32))) ∧ (¬ v2 ≤ b33_5 → vp_in (((8 : Int32) * v1) + b33_5) 16 ∧ ∀ x13 : Int32, x13 = (b33_4 + (tA Y v0 0 (((8 : Int32) * v1) + b33_5).toNatClampNeg)) → ∀ x14 : Int32, x14 = b33_5 + (1 : Int32) → (tk_X10_about_33 st post Y v0 v1 v2 v3 k) x13 x14)
def tp_X10_about (st : TS) (post : Int32 → Prop) (Y : TY) (v0 : Nat) (v1 : Int32) (v2 : Int32) (v3 : Int32) : Prop := tp_X10_isWay st (fun r1 => (r1 = 0 → post (-1 : Int32)) ∧ (¬ r1 = 0 → vp_in v1 2 ∧ tp_X10_in st (fun r3 => (¬ r3 = 0 → ∃ n5 : Nat, tk_X10_about_33 st post Y v0 v1 v2 v3 n5 (0 : Int32) (0 : Int32)) ∧ (r3 = 0 → post (-1 : Int32))) Y (v2.toInt64) (0 : Int64) (((tA Y v0 3 v1.toNatClampNeg) - (1 : Int32)).toInt64))) Y v1
set_option maxHeartbeats 4000000 in
set_option maxRecDepth 100000 in
theorem t_X10_about {st : TS} {aa : Nat → Nat → Nat} {Y : TY} {X : Hp} {postT : Int32 → Prop} {post : Int32 → Prop} {v0 : Nat} {v1 : Int32} {v2 : Int32} {v3 : Int32} (R : Rel st aa Y X) (hk_v0 : tK Y v0 = 10) (h : tp_X10_about st postT Y v0 v1 v2 v3) (hp : ∀ (r : Int32) , postT r → post r ) : wp_X10_about post X v0 v1 v2 v3 := by
  unfold tp_X10_about at h
  unfold wp_X10_about
  have J_33 : ∀ (n : Nat) (b33_4 : Int32) (b33_5 : Int32), ∀ (_ : tk_X10_about_33 st postT Y v0 v1 v2 v3  n b33_4 b33_5), bk_X10_about_33 post X v0 v1 v2 v3  n b33_4 b33_5 := by
    intro n
    induction n with
    | zero =>
      intro b33_4 b33_5 h  
      rw [tk_X10_about_33] at h
      exact h.elim
    | succ n_33 ih_33 =>
      intro b33_4 b33_5 h  
      rw [tk_X10_about_33] at h
      rw [bk_X10_about_33]
      refine ⟨fun c6 => ?_, fun c6 => ?_⟩
      · have h := h.1 c6
        intro x7 ex7
        have h := h x7 ex7
        refine ⟨fun c8 => ?_, fun c9 => ?_, fun c10 => ?_, fun c11 => ?_, fun c12 => ?_⟩
        · have h := h.1 c8
          refine ⟨_, _, ob_10 R hk_v0, rfl, ?_⟩
          refine ⟨_, _, ar_10_0 R hk_v0, h.1, ?_⟩
          have h := h.2
          exact hp _ h
        · have h := h.2.1 c9
          refine ⟨_, _, ob_10 R hk_v0, rfl, ?_⟩
          refine ⟨_, _, ar_10_1 R hk_v0, h.1, ?_⟩
          have h := h.2
          exact hp _ h
        · have h := h.2.2.1 c10
          refine ⟨_, _, ob_10 R hk_v0, rfl, ?_⟩
          refine ⟨_, _, ar_10_2 R hk_v0, h.1, ?_⟩
          have h := h.2
          exact hp _ h
        · have h := h.2.2.2.1 c11
          exact hp _ h
        · have h := h.2.2.2.2 c12
          exact hp _ h
      · have h := h.2 c6
        refine ⟨_, _, ob_10 R hk_v0, rfl, ?_⟩
        refine ⟨_, _, ar_10_0 R hk_v0, h.1, ?_⟩
        have h := h.2
        intro x13 ex13
        have h := h x13 ex13
        intro x14 ex14
        have h := h x14 ex14
        exact ih_33 _ _ h  
  refine t_X10_isWay R  h (fun r1 h => ?_)
  refine ⟨fun c2 => ?_, fun c2 => ?_⟩
  · have h := h.1 c2
    exact hp _ h
  · have h := h.2 c2
    refine ⟨_, _, ob_10 R hk_v0, rfl, ?_⟩
    refine ⟨_, _, ar_10_3 R hk_v0, h.1, ?_⟩
    have h := h.2
    refine t_X10_in R  h (fun r3 h => ?_)
    refine ⟨fun c4 => ?_, fun c4 => ?_⟩
    · have h := h.1 c4
      obtain ⟨n5, h⟩ := h
      exact ⟨n5, J_33 n5 _ _ h  ⟩
    · have h := h.2 c4
      exact hp _ h
def tk_X10_nap_94 (st : TS) (post : Int32 → TY → Prop) (v0 : Nat) (v1 : Int32) (v2 : Int32) (v3 : Int32)  (Y : TY) (b94_4 : Int32) : Prop := vp_in (0 : Int32) 2 ∧ ∀ Y12 : TY, Y12 = sF Y v0 20 (upd (tA Y v0 20) (0 : Int32).toNatClampNeg (vp_nar .boolean (0 : Int32))) → vp_in (1 : Int32) 2 ∧ ∀ Y13 : TY, Y13 = sF Y12 v0 20 (upd (tA Y12 v0 20) (1 : Int32).toNatClampNeg (vp_nar .boolean (0 : Int32))) → post b94_4 Y13
def tk_X10_nap_67 (st : TS) (post : Int32 → TY → Prop) (v0 : Nat) (v1 : Int32) (v2 : Int32) (v3 : Int32)  (Y : TY) (b67_s0 : Int32) : Prop := (¬ v2 = 0 → vp_in (v1 - (1 : Int32)) 3 ∧ ∀ Y10 : TY, Y10 = sF Y v0 8 (upd (tA Y v0 8) (v1 - (1 : Int32)).toNatClampNeg v3) → tk_X10_nap_94 st post v0 v1 v2 v3 Y10 b67_s0) ∧ (v2 = 0 → vp_in (v1 - (1 : Int32)) 3 ∧ ∀ Y11 : TY, Y11 = sF Y v0 7 (upd (tA Y v0 7) (v1 - (1 : Int32)).toNatClampNeg v3) → tk_X10_nap_94 st post v0 v1 v2 v3 Y11 b67_s0)
def tk_X10_nap_35 (st : TS) (post : Int32 → TY → Prop) (v0 : Nat) (v1 : Int32) (v2 : Int32) (v3 : Int32)  (Y : TY) (b35_s0 : Int64) (b35_s1 : Int64) (b35_s2 : Int64) : Prop := tp_X10_in st (fun r6 => (¬ r6 = 0 → (¬ v2 = 0 → vp_in (v1 - (1 : Int32)) 3 ∧ tk_X10_nap_67 st post v0 v1 v2 v3 Y ((tA Y v0 8 (v1 - (1 : Int32)).toNatClampNeg))) ∧ (v2 = 0 → vp_in (v1 - (1 : Int32)) 3 ∧ tk_X10_nap_67 st post v0 v1 v2 v3 Y ((tA Y v0 7 (v1 - (1 : Int32)).toNatClampNeg)))) ∧ (r6 = 0 → post (-2 : Int32) Y)) Y b35_s2 b35_s1 b35_s0
def tp_X10_nap (st : TS) (post : Int32 → TY → Prop) (Y : TY) (v0 : Nat) (v1 : Int32) (v2 : Int32) (v3 : Int32) : Prop := tp_X10_in st (fun r1 => (r1 = 0 → post (-2 : Int32) Y) ∧ (¬ r1 = 0 → tp_X10_isEnd st (fun r3 => (r3 = 0 → post (-2 : Int32) Y) ∧ (¬ r3 = 0 → (¬ v2 = 0 → tk_X10_nap_35 st post v0 v1 v2 v3 Y (1000 : Int64) (0 : Int64) ((v3.toInt64))) ∧ (v2 = 0 → tk_X10_nap_35 st post v0 v1 v2 v3 Y (9 : Int64) (0 : Int64) ((v3.toInt64))))) Y v2)) Y (v1.toInt64) (1 : Int64) (3 : Int64)
set_option maxHeartbeats 4000000 in
set_option maxRecDepth 100000 in
theorem t_X10_nap {st : TS} {aa : Nat → Nat → Nat} {Y : TY} {X : Hp} {postT : Int32 → TY → Prop} {post : Int32 → Hp → Prop} {v0 : Nat} {v1 : Int32} {v2 : Int32} {v3 : Int32} (R : Rel st aa Y X) (hk_v0 : tK Y v0 = 10) (h : tp_X10_nap st postT Y v0 v1 v2 v3) (hp : ∀ (r : Int32) (Y' : TY) (X' : Hp), postT r Y' → Rel st aa Y' X' → (∀ a, tK Y' a = tK Y a) → post r X') : wp_X10_nap post X v0 v1 v2 v3 := by
  unfold tp_X10_nap at h
  unfold wp_X10_nap
  have hE0 : ∀ a, tK Y a = tK Y a := fun a => rfl
  obtain ⟨Y0, hY0⟩ : ∃ Z : TY, Z = Y := ⟨_, rfl⟩
  have hE0 : ∀ a, tK Y a = tK Y0 a := by rw [hY0]; exact hE0
  rw [← hY0] at hp
  have J_94 : ∀ (Y : TY) (b94_4 : Int32), ∀ (X : Hp) (_ : tk_X10_nap_94 st postT v0 v1 v2 v3  Y b94_4), Rel st aa Y X → (∀ a, tK Y a = tK Y0 a) → tK Y v0 = 10 → bk_X10_nap_94 post v0 v1 v2 v3  X b94_4 := by
    intro Y b94_4 X h R hE0 hk_v0 
    unfold tk_X10_nap_94 at h
    unfold bk_X10_nap_94
    refine ⟨_, _, ob_10 R hk_v0, rfl, ?_⟩
    refine ⟨_, _, ar_10_20 R hk_v0, h.1, fun X1 e1 => ?_⟩
    have h := h.2 _ rfl
    have R := as_10_20 R hk_v0 e1
    refine ⟨_, _, ob_10 R hk_v0, rfl, ?_⟩
    refine ⟨_, _, ar_10_20 R hk_v0, h.1, fun X1 e1 => ?_⟩
    have h := h.2 _ rfl
    have R := as_10_20 R hk_v0 e1
    exact hp _ _ _ h R hE0
  have J_67 : ∀ (Y : TY) (b67_s0 : Int32), ∀ (X : Hp) (_ : tk_X10_nap_67 st postT v0 v1 v2 v3  Y b67_s0), Rel st aa Y X → (∀ a, tK Y a = tK Y0 a) → tK Y v0 = 10 → bk_X10_nap_67 post v0 v1 v2 v3  X b67_s0 := by
    intro Y b67_s0 X h R hE0 hk_v0 
    unfold tk_X10_nap_67 at h
    unfold bk_X10_nap_67
    refine ⟨fun c9 => ?_, fun c9 => ?_⟩
    · have h := h.1 c9
      refine ⟨_, _, ob_10 R hk_v0, rfl, ?_⟩
      refine ⟨_, _, ar_10_8 R hk_v0, h.1, fun X1 e1 => ?_⟩
      have h := h.2 _ rfl
      have R := as_10_8 R hk_v0 e1
      exact J_94 _ _ _ h R hE0 (hk_v0) 
    · have h := h.2 c9
      refine ⟨_, _, ob_10 R hk_v0, rfl, ?_⟩
      refine ⟨_, _, ar_10_7 R hk_v0, h.1, fun X1 e1 => ?_⟩
      have h := h.2 _ rfl
      have R := as_10_7 R hk_v0 e1
      exact J_94 _ _ _ h R hE0 (hk_v0) 
  have J_35 : ∀ (Y : TY) (b35_s0 : Int64) (b35_s1 : Int64) (b35_s2 : Int64), ∀ (X : Hp) (_ : tk_X10_nap_35 st postT v0 v1 v2 v3  Y b35_s0 b35_s1 b35_s2), Rel st aa Y X → (∀ a, tK Y a = tK Y0 a) → tK Y v0 = 10 → bk_X10_nap_35 post v0 v1 v2 v3  X b35_s0 b35_s1 b35_s2 := by
    intro Y b35_s0 b35_s1 b35_s2 X h R hE0 hk_v0 
    unfold tk_X10_nap_35 at h
    unfold bk_X10_nap_35
    refine t_X10_in R  h (fun r6 h => ?_)
    refine ⟨fun c7 => ?_, fun c7 => ?_⟩
    · have h := h.1 c7
      refine ⟨fun c8 => ?_, fun c8 => ?_⟩
      · have h := h.1 c8
        refine ⟨_, _, ob_10 R hk_v0, rfl, ?_⟩
        refine ⟨_, _, ar_10_8 R hk_v0, h.1, ?_⟩
        have h := h.2
        exact J_67 _ _ _ h R hE0 (hk_v0) 
      · have h := h.2 c8
        refine ⟨_, _, ob_10 R hk_v0, rfl, ?_⟩
        refine ⟨_, _, ar_10_7 R hk_v0, h.1, ?_⟩
        have h := h.2
        exact J_67 _ _ _ h R hE0 (hk_v0) 
    · have h := h.2 c7
      exact hp _ _ _ h R hE0
  refine t_X10_in R  h (fun r1 h => ?_)
  refine ⟨fun c2 => ?_, fun c2 => ?_⟩
  · have h := h.1 c2
    exact hp _ _ _ h R hE0
  · have h := h.2 c2
    refine t_X10_isEnd R  h (fun r3 h => ?_)
    refine ⟨fun c4 => ?_, fun c4 => ?_⟩
    · have h := h.1 c4
      exact hp _ _ _ h R hE0
    · have h := h.2 c4
      refine ⟨fun c5 => ?_, fun c5 => ?_⟩
      · have h := h.1 c5
        exact J_35 _ _ _ _ _ h R hE0 (hk_v0) 
      · have h := h.2 c5
        exact J_35 _ _ _ _ _ h R hE0 (hk_v0) 
def tp_X10_isSquall (st : TS) (post : Int32 → Prop) (Y : TY) (v0 : Nat) (v1 : Int32) (v2 : Int32) : Prop := vp_in (((48 : Int32) * v1) + v2) 96 ∧ (¬ (tA Y v0 6 (((48 : Int32) * v1) + v2).toNatClampNeg) = (1 : Int32) → post (0 : Int32)) ∧ ((tA Y v0 6 (((48 : Int32) * v1) + v2).toNatClampNeg) = (1 : Int32) → post (1 : Int32))
set_option maxHeartbeats 4000000 in
set_option maxRecDepth 100000 in
theorem t_X10_isSquall {st : TS} {aa : Nat → Nat → Nat} {Y : TY} {X : Hp} {postT : Int32 → Prop} {post : Int32 → Prop} {v0 : Nat} {v1 : Int32} {v2 : Int32} (R : Rel st aa Y X) (hk_v0 : tK Y v0 = 10) (h : tp_X10_isSquall st postT Y v0 v1 v2) (hp : ∀ (r : Int32) , postT r → post r ) : wp_X10_isSquall post X v0 v1 v2 := by
  unfold tp_X10_isSquall at h
  unfold wp_X10_isSquall
  refine ⟨_, _, ob_10 R hk_v0, rfl, ?_⟩
  refine ⟨_, _, ar_10_6 R hk_v0, h.1, ?_⟩
  have h := h.2
  refine ⟨fun c1 => ?_, fun c1 => ?_⟩
  · have h := h.1 c1
    exact hp _ h
  · have h := h.2 c1
    exact hp _ h
def tk_X10_canBe_25 (st : TS) (post : Int32 → Prop) (Y : TY) (v0 : Nat) (v1 : Int32) (v2 : Int32) (v3 : Int32)   : Prop := (¬ v3 = (3 : Int32) → post (1 : Int32)) ∧ (v3 = (3 : Int32) → vp_in v1 2 ∧ ((tA Y v0 4 v1.toNatClampNeg) ≤ (v2 + (1 : Int32)) → post (0 : Int32)) ∧ (¬ (tA Y v0 4 v1.toNatClampNeg) ≤ (v2 + (1 : Int32)) → tp_X10_isSquall st (fun r7 => (¬ r7 = 0 → post (0 : Int32)) ∧ (r7 = 0 → post (1 : Int32))) Y v0 v1 (v2 + (1 : Int32))))
def tp_X10_canBe (st : TS) (post : Int32 → Prop) (Y : TY) (v0 : Nat) (v1 : Int32) (v2 : Int32) (v3 : Int32) : Prop := vp_in v1 2 ∧ ((tA Y v0 4 v1.toNatClampNeg) ≤ v2 → post (0 : Int32)) ∧ (¬ (tA Y v0 4 v1.toNatClampNeg) ≤ v2 → tp_X10_isSquall st (fun r2 => (r2 = 0 → tk_X10_canBe_25 st post Y v0 v1 v2 v3 ) ∧ (¬ r2 = 0 → (v3 = 0 → tk_X10_canBe_25 st post Y v0 v1 v2 v3 ) ∧ (¬ v3 = 0 → post (0 : Int32)))) Y v0 v1 v2)
set_option maxHeartbeats 4000000 in
set_option maxRecDepth 100000 in
theorem t_X10_canBe {st : TS} {aa : Nat → Nat → Nat} {Y : TY} {X : Hp} {postT : Int32 → Prop} {post : Int32 → Prop} {v0 : Nat} {v1 : Int32} {v2 : Int32} {v3 : Int32} (R : Rel st aa Y X) (hk_v0 : tK Y v0 = 10) (h : tp_X10_canBe st postT Y v0 v1 v2 v3) (hp : ∀ (r : Int32) , postT r → post r ) : wp_X10_canBe post X v0 v1 v2 v3 := by
  unfold tp_X10_canBe at h
  unfold wp_X10_canBe
  have J_25 : ∀ (_ : Unit), ∀ (_ : tk_X10_canBe_25 st postT Y v0 v1 v2 v3  ), bk_X10_canBe_25 post X v0 v1 v2 v3   := by
    intro _ h  
    unfold tk_X10_canBe_25 at h
    unfold bk_X10_canBe_25
    refine ⟨fun c5 => ?_, fun c5 => ?_⟩
    · have h := h.1 c5
      exact hp _ h
    · have h := h.2 c5
      refine ⟨_, _, ob_10 R hk_v0, rfl, ?_⟩
      refine ⟨_, _, ar_10_4 R hk_v0, h.1, ?_⟩
      have h := h.2
      refine ⟨fun c6 => ?_, fun c6 => ?_⟩
      · have h := h.1 c6
        exact hp _ h
      · have h := h.2 c6
        refine ⟨_, ob_10 R hk_v0, t_X10_isSquall R hk_v0 h (fun r7 h => ?_)⟩
        refine ⟨fun c8 => ?_, fun c8 => ?_⟩
        · have h := h.1 c8
          exact hp _ h
        · have h := h.2 c8
          exact hp _ h
  refine ⟨_, _, ob_10 R hk_v0, rfl, ?_⟩
  refine ⟨_, _, ar_10_4 R hk_v0, h.1, ?_⟩
  have h := h.2
  refine ⟨fun c1 => ?_, fun c1 => ?_⟩
  · have h := h.1 c1
    exact hp _ h
  · have h := h.2 c1
    refine ⟨_, ob_10 R hk_v0, t_X10_isSquall R hk_v0 h (fun r2 h => ?_)⟩
    refine ⟨fun c3 => ?_, fun c3 => ?_⟩
    · have h := h.1 c3
      exact J_25 () h  
    · have h := h.2 c3
      refine ⟨fun c4 => ?_, fun c4 => ?_⟩
      · have h := h.1 c4
        exact J_25 () h  
      · have h := h.2 c4
        exact hp _ h
def tp_X10_isNight (st : TS) (post : Int32 → Prop) (Y : TY) (v0 : Int32) : Prop := ((v0 - v0 / (24 : Int32) * (24 : Int32)) < (12 : Int32) → post (0 : Int32)) ∧ (¬ (v0 - v0 / (24 : Int32) * (24 : Int32)) < (12 : Int32) → post (1 : Int32))
set_option maxHeartbeats 4000000 in
set_option maxRecDepth 100000 in
theorem t_X10_isNight {st : TS} {aa : Nat → Nat → Nat} {Y : TY} {X : Hp} {postT : Int32 → Prop} {post : Int32 → Prop} {v0 : Int32} (R : Rel st aa Y X)  (h : tp_X10_isNight st postT Y v0) (hp : ∀ (r : Int32) , postT r → post r ) : wp_X10_isNight post X v0 := by
  unfold tp_X10_isNight at h
  unfold wp_X10_isNight
  refine ⟨fun c1 => ?_, fun c1 => ?_⟩
  · have h := h.1 c1
    exact hp _ h
  · have h := h.2 c1
    exact hp _ h
def tk_X10_owedBehind_69 (st : TS) (post : Int32 → Prop) (Y : TY) (v0 : Nat) (v1 : Int32) (v2 : Int32) (v3 : Int32) (v4 : Int32)  (b69_5 : Int32) : Prop := (0 ≤ b69_5 → (b69_5 ≤ (20 : Int32) → post b69_5) ∧ (¬ b69_5 ≤ (20 : Int32) → post (20 : Int32))) ∧ (¬ 0 ≤ b69_5 → post (0 : Int32))
def tk_X10_owedBehind_65 (st : TS) (post : Int32 → Prop) (Y : TY) (v0 : Nat) (v1 : Int32) (v2 : Int32) (v3 : Int32) (v4 : Int32)  (b65_s0 : Int32) (b65_s1 : Int32) (b65_s2 : Int32) : Prop := ∀ x11 : Int32, x11 = (b65_s2 - (b65_s1 + b65_s0)) → tk_X10_owedBehind_69 st post Y v0 v1 v2 v3 v4 x11
def tk_X10_owedBehind_24 (st : TS) (post : Int32 → Prop) (Y : TY) (v0 : Nat) (v1 : Int32) (v2 : Int32) (v3 : Int32) (v4 : Int32)  (b24_s0 : Int32) (b24_s1 : Int32) : Prop := ∀ x8 : Int32, x8 = (b24_s1 + b24_s0) → tk_X10_owedBehind_69 st post Y v0 v1 v2 v3 v4 x8
def tp_X10_owedBehind (st : TS) (post : Int32 → Prop) (Y : TY) (v0 : Nat) (v1 : Int32) (v2 : Int32) (v3 : Int32) (v4 : Int32) : Prop := (¬ v4 = 0 → (¬ v4 = (4 : Int32) → vp_in (v4 - (1 : Int32)) 3 ∧ tp_X10_isNight st (fun r3 => (r3 = 0 → tk_X10_owedBehind_65 st post Y v0 v1 v2 v3 v4 (0 : Int32) ((tA Y v0 7 (v4 - (1 : Int32)).toNatClampNeg)) v3) ∧ (¬ r3 = 0 → tk_X10_owedBehind_65 st post Y v0 v1 v2 v3 v4 (1 : Int32) ((tA Y v0 7 (v4 - (1 : Int32)).toNatClampNeg)) v3)) Y v2) ∧ (v4 = (4 : Int32) → ∀ x5 : Int32, x5 = v3 + (-1 : Int32) → tk_X10_owedBehind_69 st post Y v0 v1 v2 v3 v4 x5)) ∧ (v4 = 0 → tp_X10_isSquall st (fun r6 => (r6 = 0 → tk_X10_owedBehind_24 st post Y v0 v1 v2 v3 v4 (1 : Int32) v3) ∧ (¬ r6 = 0 → tk_X10_owedBehind_24 st post Y v0 v1 v2 v3 v4 (2 : Int32) v3)) Y v0 v1 v2)
set_option maxHeartbeats 4000000 in
set_option maxRecDepth 100000 in
theorem t_X10_owedBehind {st : TS} {aa : Nat → Nat → Nat} {Y : TY} {X : Hp} {postT : Int32 → Prop} {post : Int32 → Prop} {v0 : Nat} {v1 : Int32} {v2 : Int32} {v3 : Int32} {v4 : Int32} (R : Rel st aa Y X) (hk_v0 : tK Y v0 = 10) (h : tp_X10_owedBehind st postT Y v0 v1 v2 v3 v4) (hp : ∀ (r : Int32) , postT r → post r ) : wp_X10_owedBehind post X v0 v1 v2 v3 v4 := by
  unfold tp_X10_owedBehind at h
  unfold wp_X10_owedBehind
  have J_69 : ∀ (b69_5 : Int32), ∀ (_ : tk_X10_owedBehind_69 st postT Y v0 v1 v2 v3 v4  b69_5), bk_X10_owedBehind_69 post X v0 v1 v2 v3 v4  b69_5 := by
    intro b69_5 h  
    unfold tk_X10_owedBehind_69 at h
    unfold bk_X10_owedBehind_69
    refine ⟨fun c9 => ?_, fun c9 => ?_⟩
    · have h := h.1 c9
      refine ⟨fun c10 => ?_, fun c10 => ?_⟩
      · have h := h.1 c10
        exact hp _ h
      · have h := h.2 c10
        exact hp _ h
    · have h := h.2 c9
      exact hp _ h
  have J_65 : ∀ (b65_s0 : Int32) (b65_s1 : Int32) (b65_s2 : Int32), ∀ (_ : tk_X10_owedBehind_65 st postT Y v0 v1 v2 v3 v4  b65_s0 b65_s1 b65_s2), bk_X10_owedBehind_65 post X v0 v1 v2 v3 v4  b65_s0 b65_s1 b65_s2 := by
    intro b65_s0 b65_s1 b65_s2 h  
    unfold tk_X10_owedBehind_65 at h
    unfold bk_X10_owedBehind_65
    intro x11 ex11
    have h := h x11 ex11
    exact J_69 _ h  
  have J_24 : ∀ (b24_s0 : Int32) (b24_s1 : Int32), ∀ (_ : tk_X10_owedBehind_24 st postT Y v0 v1 v2 v3 v4  b24_s0 b24_s1), bk_X10_owedBehind_24 post X v0 v1 v2 v3 v4  b24_s0 b24_s1 := by
    intro b24_s0 b24_s1 h  
    unfold tk_X10_owedBehind_24 at h
    unfold bk_X10_owedBehind_24
    intro x8 ex8
    have h := h x8 ex8
    exact J_69 _ h  
  refine ⟨fun c1 => ?_, fun c1 => ?_⟩
  · have h := h.1 c1
    refine ⟨fun c2 => ?_, fun c2 => ?_⟩
    · have h := h.1 c2
      refine ⟨_, _, ob_10 R hk_v0, rfl, ?_⟩
      refine ⟨_, _, ar_10_7 R hk_v0, h.1, ?_⟩
      have h := h.2
      refine t_X10_isNight R  h (fun r3 h => ?_)
      refine ⟨fun c4 => ?_, fun c4 => ?_⟩
      · have h := h.1 c4
        exact J_65 _ _ _ h  
      · have h := h.2 c4
        exact J_65 _ _ _ h  
    · have h := h.2 c2
      intro x5 ex5
      have h := h x5 ex5
      exact J_69 _ h  
  · have h := h.2 c1
    refine ⟨_, ob_10 R hk_v0, t_X10_isSquall R hk_v0 h (fun r6 h => ?_)⟩
    refine ⟨fun c7 => ?_, fun c7 => ?_⟩
    · have h := h.1 c7
      exact J_24 _ _ h  
    · have h := h.2 c7
      exact J_24 _ _ h  
def tk_X10_blindOf_111 (st : TS) (post : Int32 → Prop) (Y : TY) (v0 : Nat) (v1 : Int32) (v2 : Int32) (v3 : Int32)  (b111_s0 : Int32) (b111_s1 : Int32) (b111_s2 : Int32) : Prop := post ((b111_s2 * (b111_s1 - b111_s0)) / (1000 : Int32))
def tk_X10_blindOf_74 (st : TS) (post : Int32 → Prop) (Y : TY) (v0 : Nat) (v1 : Int32) (v2 : Int32) (v3 : Int32)  (b74_s0 : Int32) : Prop := ∀ x5 : Int32, x5 = ((600 : Int32) - ((40 : Int32) * v1)) → (¬ v3 = 0 → (0 ≤ x5 → tk_X10_blindOf_111 st post Y v0 v1 v2 v3 x5 (1000 : Int32) b74_s0) ∧ (¬ 0 ≤ x5 → tk_X10_blindOf_111 st post Y v0 v1 v2 v3 (0 : Int32) (1000 : Int32) b74_s0)) ∧ (v3 = 0 → post b74_s0)
def tk_X10_blindOf_56 (st : TS) (post : Int32 → Prop) (Y : TY) (v0 : Nat) (v1 : Int32) (v2 : Int32) (v3 : Int32)  (b56_s0 : Int32) : Prop := (b56_s0 ≤ (1000 : Int32) → tk_X10_blindOf_74 st post Y v0 v1 v2 v3 b56_s0) ∧ (¬ b56_s0 ≤ (1000 : Int32) → tk_X10_blindOf_74 st post Y v0 v1 v2 v3 (1000 : Int32))
def tk_X10_blindOf_14 (st : TS) (post : Int32 → Prop) (Y : TY) (v0 : Nat) (v1 : Int32) (v2 : Int32) (v3 : Int32)  (b14_s0 : Int32) : Prop := (¬ v2 = 0 → (¬ v2 = (4 : Int32) → vp_in (v2 - (1 : Int32)) 3 ∧ tk_X10_blindOf_56 st post Y v0 v1 v2 v3 (((tA Y v0 8 (v2 - (1 : Int32)).toNatClampNeg) + ((20 : Int32) * b14_s0)))) ∧ (v2 = (4 : Int32) → tk_X10_blindOf_56 st post Y v0 v1 v2 v3 (300 : Int32))) ∧ (v2 = 0 → tk_X10_blindOf_56 st post Y v0 v1 v2 v3 (((20 : Int32) + ((10 : Int32) * b14_s0))))
def tp_X10_blindOf (st : TS) (post : Int32 → Prop) (Y : TY) (v0 : Nat) (v1 : Int32) (v2 : Int32) (v3 : Int32) : Prop := (v1 ≤ (10 : Int32) → tk_X10_blindOf_14 st post Y v0 v1 v2 v3 (0 : Int32)) ∧ (¬ v1 ≤ (10 : Int32) → tk_X10_blindOf_14 st post Y v0 v1 v2 v3 ((v1 - (10 : Int32))))
set_option maxHeartbeats 4000000 in
set_option maxRecDepth 100000 in
theorem t_X10_blindOf {st : TS} {aa : Nat → Nat → Nat} {Y : TY} {X : Hp} {postT : Int32 → Prop} {post : Int32 → Prop} {v0 : Nat} {v1 : Int32} {v2 : Int32} {v3 : Int32} (R : Rel st aa Y X) (hk_v0 : tK Y v0 = 10) (h : tp_X10_blindOf st postT Y v0 v1 v2 v3) (hp : ∀ (r : Int32) , postT r → post r ) : wp_X10_blindOf post X v0 v1 v2 v3 := by
  unfold tp_X10_blindOf at h
  unfold wp_X10_blindOf
  have J_111 : ∀ (b111_s0 : Int32) (b111_s1 : Int32) (b111_s2 : Int32), ∀ (_ : tk_X10_blindOf_111 st postT Y v0 v1 v2 v3  b111_s0 b111_s1 b111_s2), bk_X10_blindOf_111 post X v0 v1 v2 v3  b111_s0 b111_s1 b111_s2 := by
    intro b111_s0 b111_s1 b111_s2 h  
    unfold tk_X10_blindOf_111 at h
    unfold bk_X10_blindOf_111
    exact hp _ h
  have J_74 : ∀ (b74_s0 : Int32), ∀ (_ : tk_X10_blindOf_74 st postT Y v0 v1 v2 v3  b74_s0), bk_X10_blindOf_74 post X v0 v1 v2 v3  b74_s0 := by
    intro b74_s0 h  
    unfold tk_X10_blindOf_74 at h
    unfold bk_X10_blindOf_74
    intro x5 ex5
    have h := h x5 ex5
    refine ⟨fun c6 => ?_, fun c6 => ?_⟩
    · have h := h.1 c6
      refine ⟨fun c7 => ?_, fun c7 => ?_⟩
      · have h := h.1 c7
        exact J_111 _ _ _ h  
      · have h := h.2 c7
        exact J_111 _ _ _ h  
    · have h := h.2 c6
      exact hp _ h
  have J_56 : ∀ (b56_s0 : Int32), ∀ (_ : tk_X10_blindOf_56 st postT Y v0 v1 v2 v3  b56_s0), bk_X10_blindOf_56 post X v0 v1 v2 v3  b56_s0 := by
    intro b56_s0 h  
    unfold tk_X10_blindOf_56 at h
    unfold bk_X10_blindOf_56
    refine ⟨fun c4 => ?_, fun c4 => ?_⟩
    · have h := h.1 c4
      exact J_74 _ h  
    · have h := h.2 c4
      exact J_74 _ h  
  have J_14 : ∀ (b14_s0 : Int32), ∀ (_ : tk_X10_blindOf_14 st postT Y v0 v1 v2 v3  b14_s0), bk_X10_blindOf_14 post X v0 v1 v2 v3  b14_s0 := by
    intro b14_s0 h  
    unfold tk_X10_blindOf_14 at h
    unfold bk_X10_blindOf_14
    refine ⟨fun c2 => ?_, fun c2 => ?_⟩
    · have h := h.1 c2
      refine ⟨fun c3 => ?_, fun c3 => ?_⟩
      · have h := h.1 c3
        refine ⟨_, _, ob_10 R hk_v0, rfl, ?_⟩
        refine ⟨_, _, ar_10_8 R hk_v0, h.1, ?_⟩
        have h := h.2
        exact J_56 _ h  
      · have h := h.2 c3
        exact J_56 _ h  
    · have h := h.2 c2
      exact J_56 _ h  
  refine ⟨fun c1 => ?_, fun c1 => ?_⟩
  · have h := h.1 c1
    exact J_14 _ h  
  · have h := h.2 c1
    exact J_14 _ h  
def tp_X10_riskOf (st : TS) (post : Int32 → Prop) (Y : TY) (v0 : Nat) (v1 : Int32) (v2 : Int32) (v3 : Int32) (v4 : Int32) (v5 : Int32) : Prop := vp_in (((48 : Int32) * v1) + v2) 96 ∧ tp_X10_blindOf st (fun r1 => post ((tA Y v0 5 (((48 : Int32) * v1) + v2).toNatClampNeg) * r1)) Y v0 v3 v4 v5
set_option maxHeartbeats 4000000 in
set_option maxRecDepth 100000 in
theorem t_X10_riskOf {st : TS} {aa : Nat → Nat → Nat} {Y : TY} {X : Hp} {postT : Int32 → Prop} {post : Int32 → Prop} {v0 : Nat} {v1 : Int32} {v2 : Int32} {v3 : Int32} {v4 : Int32} {v5 : Int32} (R : Rel st aa Y X) (hk_v0 : tK Y v0 = 10) (h : tp_X10_riskOf st postT Y v0 v1 v2 v3 v4 v5) (hp : ∀ (r : Int32) , postT r → post r ) : wp_X10_riskOf post X v0 v1 v2 v3 v4 v5 := by
  unfold tp_X10_riskOf at h
  unfold wp_X10_riskOf
  refine ⟨_, _, ob_10 R hk_v0, rfl, ?_⟩
  refine ⟨_, _, ar_10_5 R hk_v0, h.1, ?_⟩
  have h := h.2
  refine ⟨_, ob_10 R hk_v0, t_X10_blindOf R hk_v0 h (fun r1 h => ?_)⟩
  exact hp _ h
def tp_X10_lessened (st : TS) (post : Int32 → Prop) (Y : TY) (v0 : Int32) (v1 : Int32) : Prop := post ((((v0.toInt64) * (((1000000 : Int32) - v1).toInt64)) / (1000000 : Int64)).toInt32)
set_option maxHeartbeats 4000000 in
set_option maxRecDepth 100000 in
theorem t_X10_lessened {st : TS} {aa : Nat → Nat → Nat} {Y : TY} {X : Hp} {postT : Int32 → Prop} {post : Int32 → Prop} {v0 : Int32} {v1 : Int32} (R : Rel st aa Y X)  (h : tp_X10_lessened st postT Y v0 v1) (hp : ∀ (r : Int32) , postT r → post r ) : wp_X10_lessened post X v0 v1 := by
  unfold tp_X10_lessened at h
  unfold wp_X10_lessened
  exact hp _ h
def tp_X10_isHour (st : TS) (post : Int32 → Prop) (Y : TY) (v0 : Nat) (v1 : Int32) (v2 : Int32) : Prop := vp_in v1 2 ∧ tp_X10_in st (fun r1 => (r1 = 0 ∨ r1 = 1) ∧ post r1) Y (v2.toInt64) (0 : Int64) (((tA Y v0 4 v1.toNatClampNeg) - (1 : Int32)).toInt64)
set_option maxHeartbeats 4000000 in
set_option maxRecDepth 100000 in
theorem t_X10_isHour {st : TS} {aa : Nat → Nat → Nat} {Y : TY} {X : Hp} {postT : Int32 → Prop} {post : Int32 → Prop} {v0 : Nat} {v1 : Int32} {v2 : Int32} (R : Rel st aa Y X) (hk_v0 : tK Y v0 = 10) (h : tp_X10_isHour st postT Y v0 v1 v2) (hp : ∀ (r : Int32) , postT r → post r ) : wp_X10_isHour post X v0 v1 v2 := by
  unfold tp_X10_isHour at h
  unfold wp_X10_isHour
  refine ⟨_, _, ob_10 R hk_v0, rfl, ?_⟩
  refine ⟨_, _, ar_10_4 R hk_v0, h.1, ?_⟩
  have h := h.2
  refine t_X10_in R  h (fun r1 h => ?_)
  obtain ⟨hz, h⟩ := h
  exact ⟨hz, hp _ h⟩
def tp_X10_owed (st : TS) (post : Int32 → Prop) (Y : TY) (v0 : Nat) (v1 : Int32) (v2 : Int32) (v3 : Int32) (v4 : Int32) : Prop := tp_X10_isWay st (fun r1 => (¬ r1 = 0 → tp_X10_isHour st (fun r3 => (r3 = 0 → post (-2 : Int32)) ∧ (¬ r3 = 0 → tp_X10_isOwed st (fun r5 => (r5 = 0 → post (-2 : Int32)) ∧ (¬ r5 = 0 → tp_X10_in st (fun r7 => (¬ r7 = 0 → tp_X10_canBe st (fun r9 => (r9 = 0 → post (-5 : Int32)) ∧ (¬ r9 = 0 → tp_X10_owedBehind st (fun r11 => post r11) Y v0 v1 v2 v3 v4)) Y v0 v1 v2 v4) ∧ (r7 = 0 → post (-2 : Int32))) Y (v4.toInt64) (0 : Int64) (4 : Int64))) Y v3)) Y v0 v1 v2) ∧ (r1 = 0 → post (-1 : Int32))) Y v1
set_option maxHeartbeats 4000000 in
set_option maxRecDepth 100000 in
theorem t_X10_owed {st : TS} {aa : Nat → Nat → Nat} {Y : TY} {X : Hp} {postT : Int32 → Prop} {post : Int32 → Prop} {v0 : Nat} {v1 : Int32} {v2 : Int32} {v3 : Int32} {v4 : Int32} (R : Rel st aa Y X) (hk_v0 : tK Y v0 = 10) (h : tp_X10_owed st postT Y v0 v1 v2 v3 v4) (hp : ∀ (r : Int32) , postT r → post r ) : wp_X10_owed post X v0 v1 v2 v3 v4 := by
  unfold tp_X10_owed at h
  unfold wp_X10_owed
  refine t_X10_isWay R  h (fun r1 h => ?_)
  refine ⟨fun c2 => ?_, fun c2 => ?_⟩
  · have h := h.1 c2
    refine ⟨_, ob_10 R hk_v0, t_X10_isHour R hk_v0 h (fun r3 h => ?_)⟩
    refine ⟨fun c4 => ?_, fun c4 => ?_⟩
    · have h := h.1 c4
      exact hp _ h
    · have h := h.2 c4
      refine t_X10_isOwed R  h (fun r5 h => ?_)
      refine ⟨fun c6 => ?_, fun c6 => ?_⟩
      · have h := h.1 c6
        exact hp _ h
      · have h := h.2 c6
        refine t_X10_in R  h (fun r7 h => ?_)
        refine ⟨fun c8 => ?_, fun c8 => ?_⟩
        · have h := h.1 c8
          refine ⟨_, ob_10 R hk_v0, t_X10_canBe R hk_v0 h (fun r9 h => ?_)⟩
          refine ⟨fun c10 => ?_, fun c10 => ?_⟩
          · have h := h.1 c10
            exact hp _ h
          · have h := h.2 c10
            refine ⟨_, ob_10 R hk_v0, t_X10_owedBehind R hk_v0 h (fun r11 h => ?_)⟩
            exact hp _ h
        · have h := h.2 c8
          exact hp _ h
  · have h := h.2 c2
    exact hp _ h
def tk_X10_risk_75 (st : TS) (post : Int32 → Prop) (Y : TY) (v0 : Nat) (v1 : Int32) (v2 : Int32) (v3 : Int32) (v4 : Int32) (v5 : Int32)  (b75_s0 : Int32) : Prop := (b75_s0 = 0 → post (-5 : Int32)) ∧ (¬ b75_s0 = 0 → tp_X10_riskOf st (fun r16 => post r16) Y v0 v1 v2 v3 v4 v5)
def tk_X10_risk_74 (st : TS) (post : Int32 → Prop) (Y : TY) (v0 : Nat) (v1 : Int32) (v2 : Int32) (v3 : Int32) (v4 : Int32) (v5 : Int32)   : Prop := tk_X10_risk_75 st post Y v0 v1 v2 v3 v4 v5 (0 : Int32)
def tk_X10_risk_70 (st : TS) (post : Int32 → Prop) (Y : TY) (v0 : Nat) (v1 : Int32) (v2 : Int32) (v3 : Int32) (v4 : Int32) (v5 : Int32)   : Prop := tk_X10_risk_75 st post Y v0 v1 v2 v3 v4 v5 (1 : Int32)
def tp_X10_risk (st : TS) (post : Int32 → Prop) (Y : TY) (v0 : Nat) (v1 : Int32) (v2 : Int32) (v3 : Int32) (v4 : Int32) (v5 : Int32) : Prop := tp_X10_isWay st (fun r1 => (¬ r1 = 0 → tp_X10_isHour st (fun r3 => (r3 = 0 → post (-2 : Int32)) ∧ (¬ r3 = 0 → tp_X10_isOwed st (fun r5 => (r5 = 0 → post (-2 : Int32)) ∧ (¬ r5 = 0 → tp_X10_in st (fun r7 => (r7 = 0 → post (-2 : Int32)) ∧ (¬ r7 = 0 → tp_X10_isEnd st (fun r9 => (¬ r9 = 0 → tp_X10_canBe st (fun r11 => (r11 = 0 → tk_X10_risk_74 st post Y v0 v1 v2 v3 v4 v5 ) ∧ (¬ r11 = 0 → (¬ v4 = 0 → tk_X10_risk_70 st post Y v0 v1 v2 v3 v4 v5 ) ∧ (v4 = 0 → (¬ v5 = 0 → tk_X10_risk_74 st post Y v0 v1 v2 v3 v4 v5 ) ∧ (v5 = 0 → tk_X10_risk_70 st post Y v0 v1 v2 v3 v4 v5 )))) Y v0 v1 v2 v4) ∧ (r9 = 0 → post (-2 : Int32))) Y v5)) Y (v4.toInt64) (0 : Int64) (4 : Int64))) Y v3)) Y v0 v1 v2) ∧ (r1 = 0 → post (-1 : Int32))) Y v1
set_option maxHeartbeats 4000000 in
set_option maxRecDepth 100000 in
theorem t_X10_risk {st : TS} {aa : Nat → Nat → Nat} {Y : TY} {X : Hp} {postT : Int32 → Prop} {post : Int32 → Prop} {v0 : Nat} {v1 : Int32} {v2 : Int32} {v3 : Int32} {v4 : Int32} {v5 : Int32} (R : Rel st aa Y X) (hk_v0 : tK Y v0 = 10) (h : tp_X10_risk st postT Y v0 v1 v2 v3 v4 v5) (hp : ∀ (r : Int32) , postT r → post r ) : wp_X10_risk post X v0 v1 v2 v3 v4 v5 := by
  unfold tp_X10_risk at h
  unfold wp_X10_risk
  have J_75 : ∀ (b75_s0 : Int32), ∀ (_ : tk_X10_risk_75 st postT Y v0 v1 v2 v3 v4 v5  b75_s0), bk_X10_risk_75 post X v0 v1 v2 v3 v4 v5  b75_s0 := by
    intro b75_s0 h  
    unfold tk_X10_risk_75 at h
    unfold bk_X10_risk_75
    refine ⟨fun c15 => ?_, fun c15 => ?_⟩
    · have h := h.1 c15
      exact hp _ h
    · have h := h.2 c15
      refine ⟨_, ob_10 R hk_v0, t_X10_riskOf R hk_v0 h (fun r16 h => ?_)⟩
      exact hp _ h
  have J_74 : ∀ (_ : Unit), ∀ (_ : tk_X10_risk_74 st postT Y v0 v1 v2 v3 v4 v5  ), bk_X10_risk_74 post X v0 v1 v2 v3 v4 v5   := by
    intro _ h  
    unfold tk_X10_risk_74 at h
    unfold bk_X10_risk_74
    exact J_75 _ h  
  have J_70 : ∀ (_ : Unit), ∀ (_ : tk_X10_risk_70 st postT Y v0 v1 v2 v3 v4 v5  ), bk_X10_risk_70 post X v0 v1 v2 v3 v4 v5   := by
    intro _ h  
    unfold tk_X10_risk_70 at h
    unfold bk_X10_risk_70
    exact J_75 _ h  
  refine t_X10_isWay R  h (fun r1 h => ?_)
  refine ⟨fun c2 => ?_, fun c2 => ?_⟩
  · have h := h.1 c2
    refine ⟨_, ob_10 R hk_v0, t_X10_isHour R hk_v0 h (fun r3 h => ?_)⟩
    refine ⟨fun c4 => ?_, fun c4 => ?_⟩
    · have h := h.1 c4
      exact hp _ h
    · have h := h.2 c4
      refine t_X10_isOwed R  h (fun r5 h => ?_)
      refine ⟨fun c6 => ?_, fun c6 => ?_⟩
      · have h := h.1 c6
        exact hp _ h
      · have h := h.2 c6
        refine t_X10_in R  h (fun r7 h => ?_)
        refine ⟨fun c8 => ?_, fun c8 => ?_⟩
        · have h := h.1 c8
          exact hp _ h
        · have h := h.2 c8
          refine t_X10_isEnd R  h (fun r9 h => ?_)
          refine ⟨fun c10 => ?_, fun c10 => ?_⟩
          · have h := h.1 c10
            refine ⟨_, ob_10 R hk_v0, t_X10_canBe R hk_v0 h (fun r11 h => ?_)⟩
            refine ⟨fun c12 => ?_, fun c12 => ?_⟩
            · have h := h.1 c12
              exact J_74 () h  
            · have h := h.2 c12
              refine ⟨fun c13 => ?_, fun c13 => ?_⟩
              · have h := h.1 c13
                exact J_70 () h  
              · have h := h.2 c13
                refine ⟨fun c14 => ?_, fun c14 => ?_⟩
                · have h := h.1 c14
                  exact J_74 () h  
                · have h := h.2 c14
                  exact J_70 () h  
          · have h := h.2 c10
            exact hp _ h
  · have h := h.2 c2
    exact hp _ h
def tp_X10_say (st : TS) (post : Int32 → TY → Prop) (Y : TY) (v0 : Nat) (v1 : Int32) : Prop := tp_X10_in st (fun r1 => (¬ r1 = 0 → (¬ (tI Y v0 10) = (60 : Int32) → vp_in (tI Y v0 10) 60 ∧ ∀ Y4 : TY, Y4 = sF Y v0 9 (upd (tA Y v0 9) (tI Y v0 10).toNatClampNeg v1) → ∀ Y5 : TY, Y5 = sI Y4 v0 10 ((tI Y4 v0 10) + (1 : Int32)) → post (tI Y5 v0 10) Y5) ∧ ((tI Y v0 10) = (60 : Int32) → post (-4 : Int32) Y)) ∧ (r1 = 0 → post (-2 : Int32) Y)) Y (v1.toInt64) (33 : Int64) (126 : Int64)
set_option maxHeartbeats 4000000 in
set_option maxRecDepth 100000 in
theorem t_X10_say {st : TS} {aa : Nat → Nat → Nat} {Y : TY} {X : Hp} {postT : Int32 → TY → Prop} {post : Int32 → Hp → Prop} {v0 : Nat} {v1 : Int32} (R : Rel st aa Y X) (hk_v0 : tK Y v0 = 10) (h : tp_X10_say st postT Y v0 v1) (hp : ∀ (r : Int32) (Y' : TY) (X' : Hp), postT r Y' → Rel st aa Y' X' → (∀ a, tK Y' a = tK Y a) → post r X') : wp_X10_say post X v0 v1 := by
  unfold tp_X10_say at h
  unfold wp_X10_say
  have hE0 : ∀ a, tK Y a = tK Y a := fun a => rfl
  obtain ⟨Y0, hY0⟩ : ∃ Z : TY, Z = Y := ⟨_, rfl⟩
  have hE0 : ∀ a, tK Y a = tK Y0 a := by rw [hY0]; exact hE0
  rw [← hY0] at hp
  refine t_X10_in R  h (fun r1 h => ?_)
  refine ⟨fun c2 => ?_, fun c2 => ?_⟩
  · have h := h.1 c2
    refine ⟨_, _, ob_10 R hk_v0, rfl, ?_⟩
    refine ⟨fun c3 => ?_, fun c3 => ?_⟩
    · have h := h.1 c3
      refine ⟨_, _, ob_10 R hk_v0, rfl, ?_⟩
      refine ⟨_, _, ob_10 R hk_v0, rfl, ?_⟩
      refine ⟨_, _, ar_10_9 R hk_v0, h.1, fun X1 e1 => ?_⟩
      have h := h.2 _ rfl
      have R := as_10_9 R hk_v0 e1
      refine ⟨_, _, ob_10 R hk_v0, rfl, ?_⟩
      refine ⟨_, ob_10 R hk_v0, (by decide : 10 < 27), fun X1 e1 => ?_⟩
      have h := h _ rfl
      have R := pu_10_10 R hk_v0 e1
      refine ⟨_, _, ob_10 R hk_v0, rfl, ?_⟩
      exact hp _ _ _ h R hE0
    · have h := h.2 c3
      exact hp _ _ _ h R hE0
  · have h := h.2 c2
    exact hp _ _ _ h R hE0
def tp_X10_wipe (st : TS) (post : Int32 → TY → Prop) (Y : TY) (v0 : Nat) : Prop := ∀ Y1 : TY, Y1 = sI Y v0 10 (0 : Int32) → post (tI Y v0 10) Y1
set_option maxHeartbeats 4000000 in
set_option maxRecDepth 100000 in
theorem t_X10_wipe {st : TS} {aa : Nat → Nat → Nat} {Y : TY} {X : Hp} {postT : Int32 → TY → Prop} {post : Int32 → Hp → Prop} {v0 : Nat} (R : Rel st aa Y X) (hk_v0 : tK Y v0 = 10) (h : tp_X10_wipe st postT Y v0) (hp : ∀ (r : Int32) (Y' : TY) (X' : Hp), postT r Y' → Rel st aa Y' X' → (∀ a, tK Y' a = tK Y a) → post r X') : wp_X10_wipe post X v0 := by
  unfold tp_X10_wipe at h
  unfold wp_X10_wipe
  have hE0 : ∀ a, tK Y a = tK Y a := fun a => rfl
  obtain ⟨Y0, hY0⟩ : ∃ Z : TY, Z = Y := ⟨_, rfl⟩
  have hE0 : ∀ a, tK Y a = tK Y0 a := by rw [hY0]; exact hE0
  rw [← hY0] at hp
  refine ⟨_, _, ob_10 R hk_v0, rfl, ?_⟩
  refine ⟨_, ob_10 R hk_v0, (by decide : 10 < 27), fun X1 e1 => ?_⟩
  have h := h _ rfl
  have R := pu_10_10 R hk_v0 e1
  exact hp _ _ _ h R hE0
def tk_X10_fault_98 (st : TS) (post : Int32 → Prop) (Y : TY) (v0 : Nat) (r_4 : Int32 → Int32 → Prop) (b98_1 : Int32) (b98_2 : Int32) : Prop := ∀ x9 : Int32, x9 = b98_2 + (1 : Int32) → r_4 b98_1 x9
def tk_X10_fault_91 (st : TS) (post : Int32 → Prop) (Y : TY) (v0 : Nat) (r_4 : Int32 → Int32 → Prop) (b91_2 : Int32) : Prop := tk_X10_fault_98 st post Y v0 r_4 (0 : Int32) b91_2
def tk_X10_fault_52 (st : TS) (post : Int32 → Prop) (Y : TY) (v0 : Nat) (r_4 : Int32 → Int32 → Prop) (b52_1 : Int32) (b52_2 : Int32) (b52_3 : Int32) : Prop := (¬ b52_3 = (51 : Int32) → (b52_3 = (49 : Int32) → tk_X10_fault_91 st post Y v0 r_4 b52_2) ∧ (¬ b52_3 = (49 : Int32) → (b52_3 = (50 : Int32) → tk_X10_fault_91 st post Y v0 r_4 b52_2) ∧ (¬ b52_3 = (50 : Int32) → (b52_3 = (108 : Int32) → tk_X10_fault_91 st post Y v0 r_4 b52_2) ∧ (¬ b52_3 = (108 : Int32) → (¬ b52_3 = (119 : Int32) → post b52_2) ∧ (b52_3 = (119 : Int32) → (¬ b52_1 = 0 → post b52_2) ∧ (b52_1 = 0 → tk_X10_fault_91 st post Y v0 r_4 b52_2)))))) ∧ (b52_3 = (51 : Int32) → tk_X10_fault_98 st post Y v0 r_4 (2 : Int32) b52_2)
def tk_X10_fault_4 (st : TS) (post : Int32 → Prop) (Y : TY) (v0 : Nat)  : Nat → Int32 → Int32 → Prop
  | 0, _, _ => False
  | k + 1, b4_1, b4_2 => ((tI Y v0 10) ≤ b4_2 → (¬ b4_1 = 0 → post (tI Y v0 10)) ∧ (b4_1 = 0 → post (-6 : Int32))) ∧ (¬ (tI Y v0 10) ≤ b4_2 → vp_in b4_2 60 ∧ ∀ x4 : Int32, x4 = (tA Y v0 9 b4_2.toNatClampNeg) → (¬ b4_1 = (2 : Int32) → (¬ x4 = (33 : Int32) → tk_X10_fault_52 st post Y v0 (tk_X10_fault_4 st post Y v0 k) b4_1 b4_2 x4) ∧ (x4 = (33 : Int32) → (¬ b4_1 = 0 → tk_X10_fault_52 st post Y v0 (tk_X10_fault_4 st post Y v0 k) b4_1 b4_2 x4) ∧ (b4_1 = 0 → tk_X10_fault_98 st post Y v0 (tk_X10_fault_4 st post Y v0 k) (1 : Int32) b4_2))) ∧ (b4_1 = (2 : Int32) → (x4 = (46 : Int32) → tk_X10_fault_98 st post Y v0 (tk_X10_fault_4 st post Y v0 k) (0 : Int32) b4_2) ∧ (¬ x4 = (46 : Int32) → post b4_2)))
def tp_X10_fault (st : TS) (post : Int32 → Prop) (Y : TY) (v0 : Nat) : Prop := ∃ n1 : Nat, tk_X10_fault_4 st post Y v0 n1 (0 : Int32) (0 : Int32)
set_option maxHeartbeats 4000000 in
set_option maxRecDepth 100000 in
theorem t_X10_fault {st : TS} {aa : Nat → Nat → Nat} {Y : TY} {X : Hp} {postT : Int32 → Prop} {post : Int32 → Prop} {v0 : Nat} (R : Rel st aa Y X) (hk_v0 : tK Y v0 = 10) (h : tp_X10_fault st postT Y v0) (hp : ∀ (r : Int32) , postT r → post r ) : wp_X10_fault post X v0 := by
  unfold tp_X10_fault at h
  unfold wp_X10_fault
  have J_4 : ∀ (n : Nat) (b4_1 : Int32) (b4_2 : Int32), ∀ (_ : tk_X10_fault_4 st postT Y v0  n b4_1 b4_2), bk_X10_fault_4 post X v0  n b4_1 b4_2 := by
    intro n
    induction n with
    | zero =>
      intro b4_1 b4_2 h  
      rw [tk_X10_fault_4] at h
      exact h.elim
    | succ n_4 ih_4 =>
      have J_98 : ∀ (b98_1 : Int32) (b98_2 : Int32), ∀ (_ : tk_X10_fault_98 st postT Y v0 (tk_X10_fault_4 st postT Y v0 n_4) b98_1 b98_2), bk_X10_fault_98 post X v0 (bk_X10_fault_4 post X v0 n_4) b98_1 b98_2 := by
        intro b98_1 b98_2 h  
        unfold tk_X10_fault_98 at h
        unfold bk_X10_fault_98
        intro x9 ex9
        have h := h x9 ex9
        exact ih_4 _ _ h  
      have J_91 : ∀ (b91_2 : Int32), ∀ (_ : tk_X10_fault_91 st postT Y v0 (tk_X10_fault_4 st postT Y v0 n_4) b91_2), bk_X10_fault_91 post X v0 (bk_X10_fault_4 post X v0 n_4) b91_2 := by
        intro b91_2 h  
        unfold tk_X10_fault_91 at h
        unfold bk_X10_fault_91
        exact J_98 _ _ h  
      have J_52 : ∀ (b52_1 : Int32) (b52_2 : Int32) (b52_3 : Int32), ∀ (_ : tk_X10_fault_52 st postT Y v0 (tk_X10_fault_4 st postT Y v0 n_4) b52_1 b52_2 b52_3), bk_X10_fault_52 post X v0 (bk_X10_fault_4 post X v0 n_4) b52_1 b52_2 b52_3 := by
        intro b52_1 b52_2 b52_3 h  
        unfold tk_X10_fault_52 at h
        unfold bk_X10_fault_52
        refine ⟨fun c10 => ?_, fun c10 => ?_⟩
        · have h := h.1 c10
          refine ⟨fun c11 => ?_, fun c11 => ?_⟩
          · have h := h.1 c11
            exact J_91 _ h  
          · have h := h.2 c11
            refine ⟨fun c12 => ?_, fun c12 => ?_⟩
            · have h := h.1 c12
              exact J_91 _ h  
            · have h := h.2 c12
              refine ⟨fun c13 => ?_, fun c13 => ?_⟩
              · have h := h.1 c13
                exact J_91 _ h  
              · have h := h.2 c13
                refine ⟨fun c14 => ?_, fun c14 => ?_⟩
                · have h := h.1 c14
                  exact hp _ h
                · have h := h.2 c14
                  refine ⟨fun c15 => ?_, fun c15 => ?_⟩
                  · have h := h.1 c15
                    exact hp _ h
                  · have h := h.2 c15
                    exact J_91 _ h  
        · have h := h.2 c10
          exact J_98 _ _ h  
      intro b4_1 b4_2 h  
      rw [tk_X10_fault_4] at h
      rw [bk_X10_fault_4]
      refine ⟨_, _, ob_10 R hk_v0, rfl, ?_⟩
      refine ⟨fun c2 => ?_, fun c2 => ?_⟩
      · have h := h.1 c2
        refine ⟨fun c3 => ?_, fun c3 => ?_⟩
        · have h := h.1 c3
          refine ⟨_, _, ob_10 R hk_v0, rfl, ?_⟩
          exact hp _ h
        · have h := h.2 c3
          exact hp _ h
      · have h := h.2 c2
        refine ⟨_, _, ob_10 R hk_v0, rfl, ?_⟩
        refine ⟨_, _, ar_10_9 R hk_v0, h.1, ?_⟩
        have h := h.2
        intro x4 ex4
        have h := h x4 ex4
        refine ⟨fun c5 => ?_, fun c5 => ?_⟩
        · have h := h.1 c5
          refine ⟨fun c6 => ?_, fun c6 => ?_⟩
          · have h := h.1 c6
            exact J_52 _ _ _ h  
          · have h := h.2 c6
            refine ⟨fun c7 => ?_, fun c7 => ?_⟩
            · have h := h.1 c7
              exact J_52 _ _ _ h  
            · have h := h.2 c7
              exact J_98 _ _ h  
        · have h := h.2 c5
          refine ⟨fun c8 => ?_, fun c8 => ?_⟩
          · have h := h.1 c8
            exact J_98 _ _ h  
          · have h := h.2 c8
            exact hp _ h
  obtain ⟨n1, h⟩ := h
  exact ⟨n1, J_4 n1 _ _ h  ⟩
def tp_X10_passHour (st : TS) (post : TY → Prop) (Y : TY) (v0 : Nat) (v1 : Int32) (v2 : Int32) (v3 : Int32) : Prop := vp_in (((48 : Int32) * v1) + v2) 96 ∧ vp_in (tI Y v0 14) 130 ∧ ∀ Y1 : TY, Y1 = sF Y v0 12 (upd (tA Y v0 12) (tI Y v0 14).toNatClampNeg (tA Y v0 5 (((48 : Int32) * v1) + v2).toNatClampNeg)) → vp_in (tI Y1 v0 14) 130 ∧ ∀ Y2 : TY, Y2 = sF Y1 v0 13 (upd (tA Y1 v0 13) (tI Y1 v0 14).toNatClampNeg v3) → vp_in (tI Y2 v0 14) 130 ∧ vp_in (tI Y2 v0 14) 130 ∧ ∀ Y3 : TY, Y3 = sF Y2 v0 11 (upd (tA Y2 v0 11) (tI Y2 v0 14).toNatClampNeg ((tA Y2 v0 12 (tI Y2 v0 14).toNatClampNeg) * v3)) → ∀ Y4 : TY, Y4 = sI Y3 v0 14 ((tI Y3 v0 14) + (1 : Int32)) → post Y4
set_option maxHeartbeats 4000000 in
set_option maxRecDepth 100000 in
theorem t_X10_passHour {st : TS} {aa : Nat → Nat → Nat} {Y : TY} {X : Hp} {postT : TY → Prop} {post : Hp → Prop} {v0 : Nat} {v1 : Int32} {v2 : Int32} {v3 : Int32} (R : Rel st aa Y X) (hk_v0 : tK Y v0 = 10) (h : tp_X10_passHour st postT Y v0 v1 v2 v3) (hp : ∀ (Y' : TY) (X' : Hp), postT Y' → Rel st aa Y' X' → (∀ a, tK Y' a = tK Y a) → post X') : wp_X10_passHour post X v0 v1 v2 v3 := by
  unfold tp_X10_passHour at h
  unfold wp_X10_passHour
  have hE0 : ∀ a, tK Y a = tK Y a := fun a => rfl
  obtain ⟨Y0, hY0⟩ : ∃ Z : TY, Z = Y := ⟨_, rfl⟩
  have hE0 : ∀ a, tK Y a = tK Y0 a := by rw [hY0]; exact hE0
  rw [← hY0] at hp
  refine ⟨_, _, ob_10 R hk_v0, rfl, ?_⟩
  refine ⟨_, _, ob_10 R hk_v0, rfl, ?_⟩
  refine ⟨_, _, ob_10 R hk_v0, rfl, ?_⟩
  refine ⟨_, _, ar_10_5 R hk_v0, h.1, ?_⟩
  have h := h.2
  refine ⟨_, _, ar_10_12 R hk_v0, h.1, fun X1 e1 => ?_⟩
  have h := h.2 _ rfl
  have R := as_10_12 R hk_v0 e1
  refine ⟨_, _, ob_10 R hk_v0, rfl, ?_⟩
  refine ⟨_, _, ob_10 R hk_v0, rfl, ?_⟩
  refine ⟨_, _, ar_10_13 R hk_v0, h.1, fun X1 e1 => ?_⟩
  have h := h.2 _ rfl
  have R := as_10_13 R hk_v0 e1
  refine ⟨_, _, ob_10 R hk_v0, rfl, ?_⟩
  refine ⟨_, _, ob_10 R hk_v0, rfl, ?_⟩
  refine ⟨_, _, ob_10 R hk_v0, rfl, ?_⟩
  refine ⟨_, _, ob_10 R hk_v0, rfl, ?_⟩
  refine ⟨_, _, ar_10_12 R hk_v0, h.1, ?_⟩
  have h := h.2
  refine ⟨_, _, ar_10_11 R hk_v0, h.1, fun X1 e1 => ?_⟩
  have h := h.2 _ rfl
  have R := as_10_11 R hk_v0 e1
  refine ⟨_, _, ob_10 R hk_v0, rfl, ?_⟩
  refine ⟨_, ob_10 R hk_v0, (by decide : 14 < 27), fun X1 e1 => ?_⟩
  have h := h _ rfl
  have R := pu_10_14 R hk_v0 e1
  exact hp _ _ h R hE0
def tk_X10_doThing_111 (st : TS) (post : Int32 → TY → Prop) (v0 : Nat) (v1 : Int32) (v2 : Int32) (v3 : Int32)  (Y : TY) (b111_5 : Int32) (b111_s0 : Int32) (b111_s1 : Int32) : Prop := ∀ Y12 : TY, Y12 = sI Y v0 17 (b111_s1 + b111_s0) → (¬ v2 = (3 : Int32) → post (1 : Int32) Y12) ∧ (v2 = (3 : Int32) → tp_X10_passHour st (fun Y14 => ∀ Y15 : TY, Y15 = sI Y14 v0 17 ((tI Y14 v0 17) + (1 : Int32)) → post (1 : Int32) Y15) Y12 v0 v1 (tI Y12 v0 17) b111_5)
def tk_X10_doThing_18 (st : TS) (post : Int32 → TY → Prop) (v0 : Nat) (v1 : Int32) (v2 : Int32) (v3 : Int32)  (Y : TY) (b18_s0 : Int32) : Prop := tp_X10_canBe st (fun r3 => (r3 = 0 → post (0 : Int32) Y) ∧ (¬ r3 = 0 → (b18_s0 ≤ (tI Y v0 18) → tp_X10_blindOf st (fun r6 => tp_X10_passHour st (fun Y7 => tp_X10_owedBehind st (fun r8 => ∀ Y9 : TY, Y9 = sI Y7 v0 16 r8 → ∀ Y10 : TY, Y10 = sI Y9 v0 18 ((tI Y9 v0 18) - b18_s0) → (¬ v2 = (4 : Int32) → tk_X10_doThing_111 st post v0 v1 v2 v3 Y10 r6 (1 : Int32) ((tI Y10 v0 17))) ∧ (v2 = (4 : Int32) → tk_X10_doThing_111 st post v0 v1 v2 v3 Y10 r6 (0 : Int32) ((tI Y10 v0 17)))) Y7 v0 v1 (tI Y7 v0 17) (tI Y7 v0 16) v2) Y v0 v1 (tI Y v0 17) r6) Y v0 (tI Y v0 16) v2 v3) ∧ (¬ b18_s0 ≤ (tI Y v0 18) → post (0 : Int32) Y))) Y v0 v1 (tI Y v0 17) v2
def tp_X10_doThing (st : TS) (post : Int32 → TY → Prop) (Y : TY) (v0 : Nat) (v1 : Int32) (v2 : Int32) (v3 : Int32) : Prop := (¬ v3 = 0 → (¬ v2 = (3 : Int32) → tk_X10_doThing_18 st post v0 v1 v2 v3 Y (1 : Int32)) ∧ (v2 = (3 : Int32) → tk_X10_doThing_18 st post v0 v1 v2 v3 Y (2 : Int32))) ∧ (v3 = 0 → tk_X10_doThing_18 st post v0 v1 v2 v3 Y (0 : Int32))
set_option maxHeartbeats 4000000 in
set_option maxRecDepth 100000 in
theorem t_X10_doThing {st : TS} {aa : Nat → Nat → Nat} {Y : TY} {X : Hp} {postT : Int32 → TY → Prop} {post : Int32 → Hp → Prop} {v0 : Nat} {v1 : Int32} {v2 : Int32} {v3 : Int32} (R : Rel st aa Y X) (hk_v0 : tK Y v0 = 10) (h : tp_X10_doThing st postT Y v0 v1 v2 v3) (hp : ∀ (r : Int32) (Y' : TY) (X' : Hp), postT r Y' → Rel st aa Y' X' → (∀ a, tK Y' a = tK Y a) → post r X') : wp_X10_doThing post X v0 v1 v2 v3 := by
  unfold tp_X10_doThing at h
  unfold wp_X10_doThing
  have hE0 : ∀ a, tK Y a = tK Y a := fun a => rfl
  obtain ⟨Y0, hY0⟩ : ∃ Z : TY, Z = Y := ⟨_, rfl⟩
  have hE0 : ∀ a, tK Y a = tK Y0 a := by rw [hY0]; exact hE0
  rw [← hY0] at hp
  have J_111 : ∀ (Y : TY) (b111_5 : Int32) (b111_s0 : Int32) (b111_s1 : Int32), ∀ (X : Hp) (_ : tk_X10_doThing_111 st postT v0 v1 v2 v3  Y b111_5 b111_s0 b111_s1), Rel st aa Y X → (∀ a, tK Y a = tK Y0 a) → tK Y v0 = 10 → bk_X10_doThing_111 post v0 v1 v2 v3  X b111_5 b111_s0 b111_s1 := by
    intro Y b111_5 b111_s0 b111_s1 X h R hE0 hk_v0 
    unfold tk_X10_doThing_111 at h
    unfold bk_X10_doThing_111
    refine ⟨_, ob_10 R hk_v0, (by decide : 17 < 27), fun X1 e1 => ?_⟩
    have h := h _ rfl
    have R := pu_10_17 R hk_v0 e1
    refine ⟨fun c13 => ?_, fun c13 => ?_⟩
    · have h := h.1 c13
      exact hp _ _ _ h R hE0
    · have h := h.2 c13
      refine ⟨_, _, ob_10 R hk_v0, rfl, ?_⟩
      refine ⟨_, ob_10 R hk_v0, t_X10_passHour R hk_v0 h (fun Y X h R hE => ?_)⟩
      have hk_v0 := (hE _).trans hk_v0
      have hE0 := fun a => (hE a).trans (hE0 a)
      refine ⟨_, _, ob_10 R hk_v0, rfl, ?_⟩
      refine ⟨_, ob_10 R hk_v0, (by decide : 17 < 27), fun X1 e1 => ?_⟩
      have h := h _ rfl
      have R := pu_10_17 R hk_v0 e1
      exact hp _ _ _ h R hE0
  have J_18 : ∀ (Y : TY) (b18_s0 : Int32), ∀ (X : Hp) (_ : tk_X10_doThing_18 st postT v0 v1 v2 v3  Y b18_s0), Rel st aa Y X → (∀ a, tK Y a = tK Y0 a) → tK Y v0 = 10 → bk_X10_doThing_18 post v0 v1 v2 v3  X b18_s0 := by
    intro Y b18_s0 X h R hE0 hk_v0 
    unfold tk_X10_doThing_18 at h
    unfold bk_X10_doThing_18
    refine ⟨_, _, ob_10 R hk_v0, rfl, ?_⟩
    refine ⟨_, ob_10 R hk_v0, t_X10_canBe R hk_v0 h (fun r3 h => ?_)⟩
    refine ⟨fun c4 => ?_, fun c4 => ?_⟩
    · have h := h.1 c4
      exact hp _ _ _ h R hE0
    · have h := h.2 c4
      refine ⟨_, _, ob_10 R hk_v0, rfl, ?_⟩
      refine ⟨fun c5 => ?_, fun c5 => ?_⟩
      · have h := h.1 c5
        refine ⟨_, _, ob_10 R hk_v0, rfl, ?_⟩
        refine ⟨_, ob_10 R hk_v0, t_X10_blindOf R hk_v0 h (fun r6 h => ?_)⟩
        refine ⟨_, _, ob_10 R hk_v0, rfl, ?_⟩
        refine ⟨_, ob_10 R hk_v0, t_X10_passHour R hk_v0 h (fun Y X h R hE => ?_)⟩
        have hk_v0 := (hE _).trans hk_v0
        have hE0 := fun a => (hE a).trans (hE0 a)
        refine ⟨_, _, ob_10 R hk_v0, rfl, ?_⟩
        refine ⟨_, _, ob_10 R hk_v0, rfl, ?_⟩
        refine ⟨_, ob_10 R hk_v0, t_X10_owedBehind R hk_v0 h (fun r8 h => ?_)⟩
        refine ⟨_, ob_10 R hk_v0, (by decide : 16 < 27), fun X1 e1 => ?_⟩
        have h := h _ rfl
        have R := pu_10_16 R hk_v0 e1
        refine ⟨_, _, ob_10 R hk_v0, rfl, ?_⟩
        refine ⟨_, ob_10 R hk_v0, (by decide : 18 < 27), fun X1 e1 => ?_⟩
        have h := h _ rfl
        have R := pu_10_18 R hk_v0 e1
        refine ⟨_, _, ob_10 R hk_v0, rfl, ?_⟩
        refine ⟨fun c11 => ?_, fun c11 => ?_⟩
        · have h := h.1 c11
          exact J_111 _ _ _ _ _ h R hE0 (hk_v0) 
        · have h := h.2 c11
          exact J_111 _ _ _ _ _ h R hE0 (hk_v0) 
      · have h := h.2 c5
        exact hp _ _ _ h R hE0
  refine ⟨fun c1 => ?_, fun c1 => ?_⟩
  · have h := h.1 c1
    refine ⟨fun c2 => ?_, fun c2 => ?_⟩
    · have h := h.1 c2
      exact J_18 _ _ _ h R hE0 (hk_v0) 
    · have h := h.2 c2
      exact J_18 _ _ _ h R hE0 (hk_v0) 
  · have h := h.2 c1
    exact J_18 _ _ _ h R hE0 (hk_v0) 
def tk_X10_judgeAll_133 (st : TS) (post : TY → Prop) (v0 : Nat) (v1 : Int32) (v2 : Int32) (v3 : Int32) (r_35 : TY → Int32 → Int32 → Int32 → Prop) (Y : TY) (b133_4 : Int32) (b133_5 : Int32) (b133_6 : Int32) : Prop := ∀ x14 : Int32, x14 = b133_6 + (1 : Int32) → r_35 Y b133_4 b133_5 x14
def tk_X10_judgeAll_127 (st : TS) (post : TY → Prop) (v0 : Nat) (v1 : Int32) (v2 : Int32) (v3 : Int32) (r_35 : TY → Int32 → Int32 → Int32 → Prop) (Y : TY) (b127_4 : Int32) (b127_6 : Int32) : Prop := ∀ x19 : Int32, x19 = b127_4 + (1 : Int32) → tk_X10_judgeAll_133 st post v0 v1 v2 v3 r_35 Y x19 (0 : Int32) b127_6
def tk_X10_judgeAll_107 (st : TS) (post : TY → Prop) (v0 : Nat) (v1 : Int32) (v2 : Int32) (v3 : Int32) (r_35 : TY → Int32 → Int32 → Int32 → Prop) (Y : TY) (b107_4 : Int32) (b107_5 : Int32) (b107_6 : Int32) (b107_s0 : Int32) : Prop := tp_X10_doThing st (fun r16 Y15 => (¬ r16 = 0 → tk_X10_judgeAll_127 st post v0 v1 v2 v3 r_35 Y15 b107_4 b107_6) ∧ (r16 = 0 → ∀ Y18 : TY, Y18 = sI Y15 v0 15 b107_4 → tk_X10_judgeAll_127 st post v0 v1 v2 v3 r_35 Y18 b107_4 b107_6)) Y v0 v1 b107_s0 b107_5
def tk_X10_judgeAll_35 (st : TS) (post : TY → Prop) (v0 : Nat) (v1 : Int32) (v2 : Int32) (v3 : Int32)  : Nat → TY → Int32 → Int32 → Int32 → Prop
  | 0, _, _, _, _ => False
  | k + 1, Y, b35_4, b35_5, b35_6 => ((tI Y v0 10) ≤ b35_6 → post Y) ∧ (¬ (tI Y v0 10) ≤ b35_6 → (0 ≤ (tI Y v0 15) → post Y) ∧ (¬ 0 ≤ (tI Y v0 15) → vp_in b35_6 60 ∧ ∀ x9 : Int32, x9 = (tA Y v0 9 b35_6.toNatClampNeg) → (¬ x9 = (33 : Int32) → (x9 = (46 : Int32) → tk_X10_judgeAll_133 st post v0 v1 v2 v3 (tk_X10_judgeAll_35 st post v0 v1 v2 v3 k) Y b35_4 b35_5 b35_6) ∧ (¬ x9 = (46 : Int32) → (¬ x9 = (119 : Int32) → (¬ x9 = (108 : Int32) → tk_X10_judgeAll_107 st post v0 v1 v2 v3 (tk_X10_judgeAll_35 st post v0 v1 v2 v3 k) Y b35_4 b35_5 b35_6 ((x9 - (48 : Int32)))) ∧ (x9 = (108 : Int32) → tk_X10_judgeAll_107 st post v0 v1 v2 v3 (tk_X10_judgeAll_35 st post v0 v1 v2 v3 k) Y b35_4 b35_5 b35_6 (4 : Int32))) ∧ (x9 = (119 : Int32) → tk_X10_judgeAll_107 st post v0 v1 v2 v3 (tk_X10_judgeAll_35 st post v0 v1 v2 v3 k) Y b35_4 b35_5 b35_6 (0 : Int32)))) ∧ (x9 = (33 : Int32) → tk_X10_judgeAll_133 st post v0 v1 v2 v3 (tk_X10_judgeAll_35 st post v0 v1 v2 v3 k) Y b35_4 (1 : Int32) b35_6)))
def tp_X10_judgeAll (st : TS) (post : TY → Prop) (Y : TY) (v0 : Nat) (v1 : Int32) (v2 : Int32) (v3 : Int32) : Prop := ∀ Y1 : TY, Y1 = sI Y v0 14 (0 : Int32) → ∀ Y2 : TY, Y2 = sI Y1 v0 15 (-6 : Int32) → ∀ Y3 : TY, Y3 = sI Y2 v0 16 v2 → ∀ Y4 : TY, Y4 = sI Y3 v0 17 (0 : Int32) → ∀ Y5 : TY, Y5 = sI Y4 v0 18 v3 → ∃ n6 : Nat, tk_X10_judgeAll_35 st post v0 v1 v2 v3 n6 Y5 (0 : Int32) (0 : Int32) (0 : Int32)
set_option maxHeartbeats 4000000 in
set_option maxRecDepth 100000 in
theorem t_X10_judgeAll {st : TS} {aa : Nat → Nat → Nat} {Y : TY} {X : Hp} {postT : TY → Prop} {post : Hp → Prop} {v0 : Nat} {v1 : Int32} {v2 : Int32} {v3 : Int32} (R : Rel st aa Y X) (hk_v0 : tK Y v0 = 10) (h : tp_X10_judgeAll st postT Y v0 v1 v2 v3) (hp : ∀ (Y' : TY) (X' : Hp), postT Y' → Rel st aa Y' X' → (∀ a, tK Y' a = tK Y a) → post X') : wp_X10_judgeAll post X v0 v1 v2 v3 := by
  unfold tp_X10_judgeAll at h
  unfold wp_X10_judgeAll
  have hE0 : ∀ a, tK Y a = tK Y a := fun a => rfl
  obtain ⟨Y0, hY0⟩ : ∃ Z : TY, Z = Y := ⟨_, rfl⟩
  have hE0 : ∀ a, tK Y a = tK Y0 a := by rw [hY0]; exact hE0
  rw [← hY0] at hp
  have J_35 : ∀ (n : Nat) (Y : TY) (b35_4 : Int32) (b35_5 : Int32) (b35_6 : Int32), ∀ (X : Hp) (_ : tk_X10_judgeAll_35 st postT v0 v1 v2 v3  n Y b35_4 b35_5 b35_6), Rel st aa Y X → (∀ a, tK Y a = tK Y0 a) → tK Y v0 = 10 → bk_X10_judgeAll_35 post v0 v1 v2 v3  n X b35_4 b35_5 b35_6 := by
    intro n
    induction n with
    | zero =>
      intro Y b35_4 b35_5 b35_6 X h R hE0 hk_v0 
      rw [tk_X10_judgeAll_35] at h
      exact h.elim
    | succ n_35 ih_35 =>
      have J_133 : ∀ (Y : TY) (b133_4 : Int32) (b133_5 : Int32) (b133_6 : Int32), ∀ (X : Hp) (_ : tk_X10_judgeAll_133 st postT v0 v1 v2 v3 (tk_X10_judgeAll_35 st postT v0 v1 v2 v3 n_35) Y b133_4 b133_5 b133_6), Rel st aa Y X → (∀ a, tK Y a = tK Y0 a) → tK Y v0 = 10 → bk_X10_judgeAll_133 post v0 v1 v2 v3 (bk_X10_judgeAll_35 post v0 v1 v2 v3 n_35) X b133_4 b133_5 b133_6 := by
        intro Y b133_4 b133_5 b133_6 X h R hE0 hk_v0 
        unfold tk_X10_judgeAll_133 at h
        unfold bk_X10_judgeAll_133
        intro x14 ex14
        have h := h x14 ex14
        exact ih_35 _ _ _ _ _ h R hE0 (hk_v0) 
      have J_127 : ∀ (Y : TY) (b127_4 : Int32) (b127_6 : Int32), ∀ (X : Hp) (_ : tk_X10_judgeAll_127 st postT v0 v1 v2 v3 (tk_X10_judgeAll_35 st postT v0 v1 v2 v3 n_35) Y b127_4 b127_6), Rel st aa Y X → (∀ a, tK Y a = tK Y0 a) → tK Y v0 = 10 → bk_X10_judgeAll_127 post v0 v1 v2 v3 (bk_X10_judgeAll_35 post v0 v1 v2 v3 n_35) X b127_4 b127_6 := by
        intro Y b127_4 b127_6 X h R hE0 hk_v0 
        unfold tk_X10_judgeAll_127 at h
        unfold bk_X10_judgeAll_127
        intro x19 ex19
        have h := h x19 ex19
        exact J_133 _ _ _ _ _ h R hE0 (hk_v0) 
      have J_107 : ∀ (Y : TY) (b107_4 : Int32) (b107_5 : Int32) (b107_6 : Int32) (b107_s0 : Int32), ∀ (X : Hp) (_ : tk_X10_judgeAll_107 st postT v0 v1 v2 v3 (tk_X10_judgeAll_35 st postT v0 v1 v2 v3 n_35) Y b107_4 b107_5 b107_6 b107_s0), Rel st aa Y X → (∀ a, tK Y a = tK Y0 a) → tK Y v0 = 10 → bk_X10_judgeAll_107 post v0 v1 v2 v3 (bk_X10_judgeAll_35 post v0 v1 v2 v3 n_35) X b107_4 b107_5 b107_6 b107_s0 := by
        intro Y b107_4 b107_5 b107_6 b107_s0 X h R hE0 hk_v0 
        unfold tk_X10_judgeAll_107 at h
        unfold bk_X10_judgeAll_107
        refine ⟨_, ob_10 R hk_v0, t_X10_doThing R hk_v0 h (fun r16 Y X h R hE => ?_)⟩
        have hk_v0 := (hE _).trans hk_v0
        have hE0 := fun a => (hE a).trans (hE0 a)
        refine ⟨fun c17 => ?_, fun c17 => ?_⟩
        · have h := h.1 c17
          exact J_127 _ _ _ _ h R hE0 (hk_v0) 
        · have h := h.2 c17
          refine ⟨_, ob_10 R hk_v0, (by decide : 15 < 27), fun X1 e1 => ?_⟩
          have h := h _ rfl
          have R := pu_10_15 R hk_v0 e1
          exact J_127 _ _ _ _ h R hE0 (hk_v0) 
      intro Y b35_4 b35_5 b35_6 X h R hE0 hk_v0 
      rw [tk_X10_judgeAll_35] at h
      rw [bk_X10_judgeAll_35]
      refine ⟨_, _, ob_10 R hk_v0, rfl, ?_⟩
      refine ⟨fun c7 => ?_, fun c7 => ?_⟩
      · have h := h.1 c7
        exact hp _ _ h R hE0
      · have h := h.2 c7
        refine ⟨_, _, ob_10 R hk_v0, rfl, ?_⟩
        refine ⟨fun c8 => ?_, fun c8 => ?_⟩
        · have h := h.1 c8
          exact hp _ _ h R hE0
        · have h := h.2 c8
          refine ⟨_, _, ob_10 R hk_v0, rfl, ?_⟩
          refine ⟨_, _, ar_10_9 R hk_v0, h.1, ?_⟩
          have h := h.2
          intro x9 ex9
          have h := h x9 ex9
          refine ⟨fun c10 => ?_, fun c10 => ?_⟩
          · have h := h.1 c10
            refine ⟨fun c11 => ?_, fun c11 => ?_⟩
            · have h := h.1 c11
              exact J_133 _ _ _ _ _ h R hE0 (hk_v0) 
            · have h := h.2 c11
              refine ⟨fun c12 => ?_, fun c12 => ?_⟩
              · have h := h.1 c12
                refine ⟨fun c13 => ?_, fun c13 => ?_⟩
                · have h := h.1 c13
                  exact J_107 _ _ _ _ _ _ h R hE0 (hk_v0) 
                · have h := h.2 c13
                  exact J_107 _ _ _ _ _ _ h R hE0 (hk_v0) 
              · have h := h.2 c12
                exact J_107 _ _ _ _ _ _ h R hE0 (hk_v0) 
          · have h := h.2 c10
            exact J_133 _ _ _ _ _ h R hE0 (hk_v0) 
  refine ⟨_, ob_10 R hk_v0, (by decide : 14 < 27), fun X1 e1 => ?_⟩
  have h := h _ rfl
  have R := pu_10_14 R hk_v0 e1
  refine ⟨_, ob_10 R hk_v0, (by decide : 15 < 27), fun X1 e1 => ?_⟩
  have h := h _ rfl
  have R := pu_10_15 R hk_v0 e1
  refine ⟨_, ob_10 R hk_v0, (by decide : 16 < 27), fun X1 e1 => ?_⟩
  have h := h _ rfl
  have R := pu_10_16 R hk_v0 e1
  refine ⟨_, ob_10 R hk_v0, (by decide : 17 < 27), fun X1 e1 => ?_⟩
  have h := h _ rfl
  have R := pu_10_17 R hk_v0 e1
  refine ⟨_, ob_10 R hk_v0, (by decide : 18 < 27), fun X1 e1 => ?_⟩
  have h := h _ rfl
  have R := pu_10_18 R hk_v0 e1
  obtain ⟨n6, h⟩ := h
  exact ⟨n6, J_35 n6 _ _ _ _ _ h R hE0 (hk_v0) ⟩
def tk_X10_safeOfTimes_10 (st : TS) (post : Int32 → Prop) (Y : TY) (v0 : Nat)  : Nat → Int32 → Int32 → Prop
  | 0, _, _ => False
  | k + 1, b10_1, b10_2 => (b10_2 < 0 → post b10_1) ∧ (¬ b10_2 < 0 → vp_in b10_2 130 ∧ tp_X10_lessened st (fun r4 => ∀ x5 : Int32, x5 = b10_2 + (-1 : Int32) → (tk_X10_safeOfTimes_10 st post Y v0 k) r4 x5) Y b10_1 (tA Y v0 11 b10_2.toNatClampNeg))
def tp_X10_safeOfTimes (st : TS) (post : Int32 → Prop) (Y : TY) (v0 : Nat) : Prop := ∀ x1 : Int32, x1 = ((tI Y v0 14) - (1 : Int32)) → ∃ n2 : Nat, tk_X10_safeOfTimes_10 st post Y v0 n2 (1000000 : Int32) x1
set_option maxHeartbeats 4000000 in
set_option maxRecDepth 100000 in
theorem t_X10_safeOfTimes {st : TS} {aa : Nat → Nat → Nat} {Y : TY} {X : Hp} {postT : Int32 → Prop} {post : Int32 → Prop} {v0 : Nat} (R : Rel st aa Y X) (hk_v0 : tK Y v0 = 10) (h : tp_X10_safeOfTimes st postT Y v0) (hp : ∀ (r : Int32) , postT r → post r ) : wp_X10_safeOfTimes post X v0 := by
  unfold tp_X10_safeOfTimes at h
  unfold wp_X10_safeOfTimes
  have J_10 : ∀ (n : Nat) (b10_1 : Int32) (b10_2 : Int32), ∀ (_ : tk_X10_safeOfTimes_10 st postT Y v0  n b10_1 b10_2), bk_X10_safeOfTimes_10 post X v0  n b10_1 b10_2 := by
    intro n
    induction n with
    | zero =>
      intro b10_1 b10_2 h  
      rw [tk_X10_safeOfTimes_10] at h
      exact h.elim
    | succ n_10 ih_10 =>
      intro b10_1 b10_2 h  
      rw [tk_X10_safeOfTimes_10] at h
      rw [bk_X10_safeOfTimes_10]
      refine ⟨fun c3 => ?_, fun c3 => ?_⟩
      · have h := h.1 c3
        exact hp _ h
      · have h := h.2 c3
        refine ⟨_, _, ob_10 R hk_v0, rfl, ?_⟩
        refine ⟨_, _, ar_10_11 R hk_v0, h.1, ?_⟩
        have h := h.2
        refine t_X10_lessened R  h (fun r4 h => ?_)
        intro x5 ex5
        have h := h x5 ex5
        exact ih_10 _ _ h  
  refine ⟨_, _, ob_10 R hk_v0, rfl, ?_⟩
  intro x1 ex1
  have h := h x1 ex1
  obtain ⟨n2, h⟩ := h
  exact ⟨n2, J_10 n2 _ _ h  ⟩
def tk_X10_mostRisk_37 (st : TS) (post : Int32 → Prop) (Y : TY) (v0 : Nat) (r_5 : Int32 → Int32 → Prop) (b37_2 : Int32) (b37_s0 : Int32) : Prop := ∀ x5 : Int32, x5 = b37_2 + (1 : Int32) → r_5 b37_s0 x5
def tk_X10_mostRisk_32 (st : TS) (post : Int32 → Prop) (Y : TY) (v0 : Nat) (r_5 : Int32 → Int32 → Prop) (b32_2 : Int32) : Prop := tk_X10_mostRisk_37 st post Y v0 r_5 b32_2 b32_2
def tk_X10_mostRisk_5 (st : TS) (post : Int32 → Prop) (Y : TY) (v0 : Nat)  : Nat → Int32 → Int32 → Prop
  | 0, _, _ => False
  | k + 1, b5_1, b5_2 => ((tI Y v0 14) ≤ b5_2 → post b5_1) ∧ (¬ (tI Y v0 14) ≤ b5_2 → (b5_1 < 0 → tk_X10_mostRisk_32 st post Y v0 (tk_X10_mostRisk_5 st post Y v0 k) b5_2) ∧ (¬ b5_1 < 0 → vp_in b5_2 130 ∧ vp_in b5_1 130 ∧ ((tA Y v0 11 b5_2.toNatClampNeg) ≤ (tA Y v0 11 b5_1.toNatClampNeg) → tk_X10_mostRisk_37 st post Y v0 (tk_X10_mostRisk_5 st post Y v0 k) b5_2 b5_1) ∧ (¬ (tA Y v0 11 b5_2.toNatClampNeg) ≤ (tA Y v0 11 b5_1.toNatClampNeg) → tk_X10_mostRisk_32 st post Y v0 (tk_X10_mostRisk_5 st post Y v0 k) b5_2)))
def tp_X10_mostRisk (st : TS) (post : Int32 → Prop) (Y : TY) (v0 : Nat) : Prop := ∃ n1 : Nat, tk_X10_mostRisk_5 st post Y v0 n1 (-6 : Int32) (0 : Int32)
set_option maxHeartbeats 4000000 in
set_option maxRecDepth 100000 in
theorem t_X10_mostRisk {st : TS} {aa : Nat → Nat → Nat} {Y : TY} {X : Hp} {postT : Int32 → Prop} {post : Int32 → Prop} {v0 : Nat} (R : Rel st aa Y X) (hk_v0 : tK Y v0 = 10) (h : tp_X10_mostRisk st postT Y v0) (hp : ∀ (r : Int32) , postT r → post r ) : wp_X10_mostRisk post X v0 := by
  unfold tp_X10_mostRisk at h
  unfold wp_X10_mostRisk
  have J_5 : ∀ (n : Nat) (b5_1 : Int32) (b5_2 : Int32), ∀ (_ : tk_X10_mostRisk_5 st postT Y v0  n b5_1 b5_2), bk_X10_mostRisk_5 post X v0  n b5_1 b5_2 := by
    intro n
    induction n with
    | zero =>
      intro b5_1 b5_2 h  
      rw [tk_X10_mostRisk_5] at h
      exact h.elim
    | succ n_5 ih_5 =>
      have J_37 : ∀ (b37_2 : Int32) (b37_s0 : Int32), ∀ (_ : tk_X10_mostRisk_37 st postT Y v0 (tk_X10_mostRisk_5 st postT Y v0 n_5) b37_2 b37_s0), bk_X10_mostRisk_37 post X v0 (bk_X10_mostRisk_5 post X v0 n_5) b37_2 b37_s0 := by
        intro b37_2 b37_s0 h  
        unfold tk_X10_mostRisk_37 at h
        unfold bk_X10_mostRisk_37
        intro x5 ex5
        have h := h x5 ex5
        exact ih_5 _ _ h  
      have J_32 : ∀ (b32_2 : Int32), ∀ (_ : tk_X10_mostRisk_32 st postT Y v0 (tk_X10_mostRisk_5 st postT Y v0 n_5) b32_2), bk_X10_mostRisk_32 post X v0 (bk_X10_mostRisk_5 post X v0 n_5) b32_2 := by
        intro b32_2 h  
        unfold tk_X10_mostRisk_32 at h
        unfold bk_X10_mostRisk_32
        exact J_37 _ _ h  
      intro b5_1 b5_2 h  
      rw [tk_X10_mostRisk_5] at h
      rw [bk_X10_mostRisk_5]
      refine ⟨_, _, ob_10 R hk_v0, rfl, ?_⟩
      refine ⟨fun c2 => ?_, fun c2 => ?_⟩
      · have h := h.1 c2
        exact hp _ h
      · have h := h.2 c2
        refine ⟨fun c3 => ?_, fun c3 => ?_⟩
        · have h := h.1 c3
          exact J_32 _ h  
        · have h := h.2 c3
          refine ⟨_, _, ob_10 R hk_v0, rfl, ?_⟩
          refine ⟨_, _, ar_10_11 R hk_v0, h.1, ?_⟩
          have h := h.2
          refine ⟨_, _, ob_10 R hk_v0, rfl, ?_⟩
          refine ⟨_, _, ar_10_11 R hk_v0, h.1, ?_⟩
          have h := h.2
          refine ⟨fun c4 => ?_, fun c4 => ?_⟩
          · have h := h.1 c4
            exact J_37 _ _ h  
          · have h := h.2 c4
            exact J_32 _ h  
  obtain ⟨n1, h⟩ := h
  exact ⟨n1, J_5 n1 _ _ h  ⟩
def tp_X10_judge (st : TS) (post : Int32 → TY → Prop) (Y : TY) (v0 : Nat) (v1 : Int32) (v2 : Int32) (v3 : Int32) (v4 : Int32) : Prop := tp_X10_isWay st (fun r1 => (¬ r1 = 0 → tp_X10_isOwed st (fun r3 => (r3 = 0 → post (-2 : Int32) Y) ∧ (¬ r3 = 0 → tp_X10_isBattery st (fun r5 => (r5 = 0 → post (-2 : Int32) Y) ∧ (¬ r5 = 0 → tp_X10_in st (fun r7 => (¬ r7 = 0 → tp_X10_fault st (fun r9 => (r9 < 0 → tp_X10_judgeAll st (fun Y11 => (v4 = (0 : Int32) → post (tI Y11 v0 15) Y11) ∧ (v4 = (1 : Int32) → post (tI Y11 v0 14) Y11) ∧ (v4 = (2 : Int32) → post (tI Y11 v0 16) Y11) ∧ (v4 = (3 : Int32) → tp_X10_safeOfTimes st (fun r16 => post r16 Y11) Y11 v0) ∧ (v4 = (4 : Int32) → tp_X10_mostRisk st (fun r18 => post r18 Y11) Y11 v0) ∧ (v4 = (5 : Int32) → post (tI Y11 v0 17) Y11) ∧ (¬ v4 = (0 : Int32) ∧ ¬ v4 = (1 : Int32) ∧ ¬ v4 = (2 : Int32) ∧ ¬ v4 = (3 : Int32) ∧ ¬ v4 = (4 : Int32) ∧ ¬ v4 = (5 : Int32) → post (tI Y11 v0 18) Y11)) Y v0 v1 v2 v3) ∧ (¬ r9 < 0 → post (-5 : Int32) Y)) Y v0) ∧ (r7 = 0 → post (-2 : Int32) Y)) Y (v4.toInt64) (0 : Int64) (6 : Int64))) Y v3)) Y v2) ∧ (r1 = 0 → post (-1 : Int32) Y)) Y v1
set_option maxHeartbeats 4000000 in
set_option maxRecDepth 100000 in
theorem t_X10_judge {st : TS} {aa : Nat → Nat → Nat} {Y : TY} {X : Hp} {postT : Int32 → TY → Prop} {post : Int32 → Hp → Prop} {v0 : Nat} {v1 : Int32} {v2 : Int32} {v3 : Int32} {v4 : Int32} (R : Rel st aa Y X) (hk_v0 : tK Y v0 = 10) (h : tp_X10_judge st postT Y v0 v1 v2 v3 v4) (hp : ∀ (r : Int32) (Y' : TY) (X' : Hp), postT r Y' → Rel st aa Y' X' → (∀ a, tK Y' a = tK Y a) → post r X') : wp_X10_judge post X v0 v1 v2 v3 v4 := by
  unfold tp_X10_judge at h
  unfold wp_X10_judge
  have hE0 : ∀ a, tK Y a = tK Y a := fun a => rfl
  obtain ⟨Y0, hY0⟩ : ∃ Z : TY, Z = Y := ⟨_, rfl⟩
  have hE0 : ∀ a, tK Y a = tK Y0 a := by rw [hY0]; exact hE0
  rw [← hY0] at hp
  refine t_X10_isWay R  h (fun r1 h => ?_)
  refine ⟨fun c2 => ?_, fun c2 => ?_⟩
  · have h := h.1 c2
    refine t_X10_isOwed R  h (fun r3 h => ?_)
    refine ⟨fun c4 => ?_, fun c4 => ?_⟩
    · have h := h.1 c4
      exact hp _ _ _ h R hE0
    · have h := h.2 c4
      refine t_X10_isBattery R  h (fun r5 h => ?_)
      refine ⟨fun c6 => ?_, fun c6 => ?_⟩
      · have h := h.1 c6
        exact hp _ _ _ h R hE0
      · have h := h.2 c6
        refine t_X10_in R  h (fun r7 h => ?_)
        refine ⟨fun c8 => ?_, fun c8 => ?_⟩
        · have h := h.1 c8
          refine ⟨_, ob_10 R hk_v0, t_X10_fault R hk_v0 h (fun r9 h => ?_)⟩
          refine ⟨fun c10 => ?_, fun c10 => ?_⟩
          · have h := h.1 c10
            refine ⟨_, ob_10 R hk_v0, t_X10_judgeAll R hk_v0 h (fun Y X h R hE => ?_)⟩
            have hk_v0 := (hE _).trans hk_v0
            have hE0 := fun a => (hE a).trans (hE0 a)
            refine ⟨fun c12 => ?_, fun c13 => ?_, fun c14 => ?_, fun c15 => ?_, fun c17 => ?_, fun c19 => ?_, fun c20 => ?_⟩
            · have h := h.1 c12
              refine ⟨_, _, ob_10 R hk_v0, rfl, ?_⟩
              exact hp _ _ _ h R hE0
            · have h := h.2.1 c13
              refine ⟨_, _, ob_10 R hk_v0, rfl, ?_⟩
              exact hp _ _ _ h R hE0
            · have h := h.2.2.1 c14
              refine ⟨_, _, ob_10 R hk_v0, rfl, ?_⟩
              exact hp _ _ _ h R hE0
            · have h := h.2.2.2.1 c15
              refine ⟨_, ob_10 R hk_v0, t_X10_safeOfTimes R hk_v0 h (fun r16 h => ?_)⟩
              exact hp _ _ _ h R hE0
            · have h := h.2.2.2.2.1 c17
              refine ⟨_, ob_10 R hk_v0, t_X10_mostRisk R hk_v0 h (fun r18 h => ?_)⟩
              exact hp _ _ _ h R hE0
            · have h := h.2.2.2.2.2.1 c19
              refine ⟨_, _, ob_10 R hk_v0, rfl, ?_⟩
              exact hp _ _ _ h R hE0
            · have h := h.2.2.2.2.2.2 c20
              refine ⟨_, _, ob_10 R hk_v0, rfl, ?_⟩
              exact hp _ _ _ h R hE0
          · have h := h.2 c10
            exact hp _ _ _ h R hE0
        · have h := h.2 c8
          exact hp _ _ _ h R hE0
  · have h := h.2 c2
    exact hp _ _ _ h R hE0
def tp_X10_at (st : TS) (post : Int32 → Prop) (Y : TY) (v0 : Int32) (v1 : Int32) (v2 : Int32) (v3 : Int32) (v4 : Int32) : Prop := post ((((((((v0 * (49 : Int32)) + v1) * (21 : Int32)) + v2) * (25 : Int32)) + v3) * (5 : Int32)) + v4)
set_option maxHeartbeats 4000000 in
set_option maxRecDepth 100000 in
theorem t_X10_at {st : TS} {aa : Nat → Nat → Nat} {Y : TY} {X : Hp} {postT : Int32 → Prop} {post : Int32 → Prop} {v0 : Int32} {v1 : Int32} {v2 : Int32} {v3 : Int32} {v4 : Int32} (R : Rel st aa Y X)  (h : tp_X10_at st postT Y v0 v1 v2 v3 v4) (hp : ∀ (r : Int32) , postT r → post r ) : wp_X10_at post X v0 v1 v2 v3 v4 := by
  unfold tp_X10_at at h
  unfold wp_X10_at
  exact hp _ h
