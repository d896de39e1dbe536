def tp_X0_setOut (st : TS) (post : TY → Prop) (Y : TY) (v0 : Nat) (v1 : Nat) (v2 : Int32) (v3 : Int32) : Prop := ∀ Y1 : TY, Y1 = sW Y v0 (some v1) → ∀ Y2 : TY, Y2 = sI Y1 v0 3 (0 : Int32) → ∀ Y3 : TY, Y3 = sI Y2 v0 4 v2 → ∀ Y4 : TY, Y4 = sI Y3 v0 5 v3 → ∀ Y6 : TY, Y6 = sI Y4 (st.1 v0 1) 0 (0 : Int32) → post Y6
set_option maxHeartbeats 4000000 in
set_option maxRecDepth 100000 in
theorem t_X0_setOut {st : TS} {aa : Nat → Nat → Nat} {Y : TY} {X : Hp} {postT : TY → Prop} {post : Hp → Prop} {v0 : Nat} {v1 : Nat} {v2 : Int32} {v3 : Int32} (R : Rel st aa Y X) (hk_v0 : tK Y v0 = 0) (hk_v1 : tK Y v1 = 8) (h : tp_X0_setOut st postT Y v0 v1 v2 v3) (hp : ∀ (Y' : TY) (X' : Hp), postT Y' → Rel st aa Y' X' → (∀ a, tK Y' a = tK Y a) → post X') : wp_X0_setOut post X v0 v1 v2 v3 := by
  unfold tp_X0_setOut at h
  unfold wp_X0_setOut
  have hE0 : ∀ a, tK Y a = tK Y a := fun a => rfl
  obtain ⟨Y0, hY0⟩ : ∃ Z : TY, Z = Y := ⟨_, rfl⟩
  have hE0 : ∀ a, tK Y a = tK Y0 a := by rw [hY0]; exact hE0
  rw [← hY0] at hp
  refine ⟨_, ob_0 R hk_v0, (by decide : 2 < 6), fun X1 e1 => ?_⟩
  have h := h _ rfl
  have R := pw_0 (r := some v1) R hk_v0 (fun _ q => by cases q; exact hk_v1) e1
  refine ⟨_, ob_0 R hk_v0, (by decide : 3 < 6), fun X1 e1 => ?_⟩
  have h := h _ rfl
  have R := pu_0_3 R hk_v0 e1
  refine ⟨_, ob_0 R hk_v0, (by decide : 4 < 6), fun X1 e1 => ?_⟩
  have h := h _ rfl
  have R := pu_0_4 R hk_v0 e1
  refine ⟨_, ob_0 R hk_v0, (by decide : 5 < 6), fun X1 e1 => ?_⟩
  have h := h _ rfl
  have R := pu_0_5 R hk_v0 e1
  refine ⟨_, _, ob_0 R hk_v0, rfl, ?_⟩
  have k5 := wf_0_1 R hk_v0
  refine ⟨_, ob_7 R k5, (by decide : 0 < 3), fun X1 e1 => ?_⟩
  have h := h _ rfl
  have R := pu_7_0 R k5 e1
  exact hp _ _ h R hE0
def tp_X9_batteryOf (st : TS) (post : Int32 → Prop) (Y : TY) (v0 : Int32) : Prop := (¬ (v0 - v0 / (2 : Int32) * (2 : Int32)) = 0 → (¬ (v0 / (2 : Int32)) = (3 : Int32) → post (1 : Int32)) ∧ ((v0 / (2 : Int32)) = (3 : Int32) → post (2 : Int32))) ∧ ((v0 - v0 / (2 : Int32) * (2 : Int32)) = 0 → post (0 : Int32))
set_option maxHeartbeats 4000000 in
set_option maxRecDepth 100000 in
theorem t_X9_batteryOf {st : TS} {aa : Nat → Nat → Nat} {Y : TY} {X : Hp} {postT : Int32 → Prop} {post : Int32 → Prop} {v0 : Int32} (R : Rel st aa Y X)  (h : tp_X9_batteryOf st postT Y v0) (hp : ∀ (r : Int32) , postT r → post r ) : wp_X9_batteryOf post X v0 := by
  unfold tp_X9_batteryOf at h
  unfold wp_X9_batteryOf
  refine ⟨fun c1 => ?_, fun c1 => ?_⟩
  · have h := h.1 c1
    refine ⟨fun c2 => ?_, fun c2 => ?_⟩
    · have h := h.1 c2
      exact hp _ h
    · have h := h.2 c2
      exact hp _ h
  · have h := h.2 c1
    exact hp _ h
def tp_X2_blindAlone (st : TS) (post : Int32 → Prop) (Y : TY) (v0 : Nat) (v1 : Int32) (v2 : Int32) : Prop := ∀ x1 : Int32, x1 = (if (0 : Int32) < (v2 - (10 : Int32)) then (v2 - (10 : Int32)) else (0 : Int32)) → (¬ v1 = 0 → tp_X9_within st (fun r3 => (¬ r3 = 0 → vp_in v1 4 ∧ post (if ((tA Y v0 1 v1.toNatClampNeg) + ((20 : Int32) * x1)) < (1000 : Int32) then ((tA Y v0 1 v1.toNatClampNeg) + ((20 : Int32) * x1)) else (1000 : Int32))) ∧ (r3 = 0 → post (300 : Int32))) Y v1 (1 : Int32) (3 : Int32)) ∧ (v1 = 0 → post ((20 : Int32) + ((10 : Int32) * x1)))
set_option maxHeartbeats 4000000 in
set_option maxRecDepth 100000 in
theorem t_X2_blindAlone {st : TS} {aa : Nat → Nat → Nat} {Y : TY} {X : Hp} {postT : Int32 → Prop} {post : Int32 → Prop} {v0 : Nat} {v1 : Int32} {v2 : Int32} (R : Rel st aa Y X) (hk_v0 : tK Y v0 = 2) (h : tp_X2_blindAlone st postT Y v0 v1 v2) (hp : ∀ (r : Int32) , postT r → post r ) : wp_X2_blindAlone post X v0 v1 v2 := by
  unfold tp_X2_blindAlone at h
  unfold wp_X2_blindAlone
  intro x1 ex1
  have h := h x1 ex1
  refine ⟨fun c2 => ?_, fun c2 => ?_⟩
  · have h := h.1 c2
    refine t_X9_within R  h (fun r3 h => ?_)
    refine ⟨fun c4 => ?_, fun c4 => ?_⟩
    · have h := h.1 c4
      refine ⟨_, _, ob_2 R hk_v0, rfl, ?_⟩
      refine ⟨_, _, ar_2_1 R hk_v0, h.1, ?_⟩
      have h := h.2
      exact hp _ h
    · have h := h.2 c4
      exact hp _ h
  · have h := h.2 c2
    exact hp _ h
def tp_X2_blindOf (st : TS) (post : Int32 → Prop) (Y : TY) (v0 : Nat) (v1 : Int32) (v2 : Int32) : Prop := tp_X2_blindAlone st (fun r1 => (¬ (v1 - v1 / (2 : Int32) * (2 : Int32)) = 0 → ∀ x3 : Int32, x3 = (if (0 : Int32) < ((600 : Int32) - ((40 : Int32) * v2)) then ((600 : Int32) - ((40 : Int32) * v2)) else (0 : Int32)) → post ((r1 * ((1000 : Int32) - x3)) / (1000 : Int32))) ∧ ((v1 - v1 / (2 : Int32) * (2 : Int32)) = 0 → post r1)) Y v0 (v1 / (2 : Int32)) v2
set_option maxHeartbeats 4000000 in
set_option maxRecDepth 100000 in
theorem t_X2_blindOf {st : TS} {aa : Nat → Nat → Nat} {Y : TY} {X : Hp} {postT : Int32 → Prop} {post : Int32 → Prop} {v0 : Nat} {v1 : Int32} {v2 : Int32} (R : Rel st aa Y X) (hk_v0 : tK Y v0 = 2) (h : tp_X2_blindOf st postT Y v0 v1 v2) (hp : ∀ (r : Int32) , postT r → post r ) : wp_X2_blindOf post X v0 v1 v2 := by
  unfold tp_X2_blindOf at h
  unfold wp_X2_blindOf
  refine ⟨_, ob_2 R hk_v0, t_X2_blindAlone R hk_v0 h (fun r1 h => ?_)⟩
  refine ⟨fun c2 => ?_, fun c2 => ?_⟩
  · have h := h.1 c2
    intro x3 ex3
    have h := h x3 ex3
    exact hp _ h
  · have h := h.2 c2
    exact hp _ h
def tp_X9_isNight (st : TS) (post : Int32 → Prop) (Y : TY) (v0 : Int32) : Prop := ((v0 - v0 / (24 : Int32) * (24 : Int32)) < (12 : Int32) → post (0 : Int32)) ∧ (¬ (v0 - v0 / (24 : Int32) * (24 : Int32)) < (12 : Int32) → post (1 : Int32))
set_option maxHeartbeats 4000000 in
set_option maxRecDepth 100000 in
theorem t_X9_isNight {st : TS} {aa : Nat → Nat → Nat} {Y : TY} {X : Hp} {postT : Int32 → Prop} {post : Int32 → Prop} {v0 : Int32} (R : Rel st aa Y X)  (h : tp_X9_isNight st postT Y v0) (hp : ∀ (r : Int32) , postT r → post r ) : wp_X9_isNight post X v0 := by
  unfold tp_X9_isNight at h
  unfold wp_X9_isNight
  refine ⟨fun c1 => ?_, fun c1 => ?_⟩
  · have h := h.1 c1
    exact hp _ h
  · have h := h.2 c1
    exact hp _ h
def tk_X2_owedBehind_66 (st : TS) (post : Int32 → Prop) (Y : TY) (v0 : Nat) (v1 : Nat) (v2 : Int32) (v3 : Int32) (v4 : Int32)  (b66_s0 : Int32) (b66_s1 : Int32) (b66_s2 : Int32) : Prop := post (if b66_s2 < (b66_s1 - b66_s0) then (b66_s1 - b66_s0) else b66_s2)
def tk_X2_owedBehind_21 (st : TS) (post : Int32 → Prop) (Y : TY) (v0 : Nat) (v1 : Nat) (v2 : Int32) (v3 : Int32) (v4 : Int32)  (b21_s0 : Int32) (b21_s1 : Int32) (b21_s2 : Int32) : Prop := post (if (b21_s1 + b21_s0) < b21_s2 then (b21_s1 + b21_s0) else b21_s2)
def tp_X2_owedBehind (st : TS) (post : Int32 → Prop) (Y : TY) (v0 : Nat) (v1 : Nat) (v2 : Int32) (v3 : Int32) (v4 : Int32) : Prop := (¬ v4 = 0 → tp_X9_within st (fun r2 => (¬ r2 = 0 → vp_in v4 4 ∧ tp_X9_isNight st (fun r4 => (r4 = 0 → tk_X2_owedBehind_66 st post Y v0 v1 v2 v3 v4 (0 : Int32) ((v3 - (tA Y v0 0 v4.toNatClampNeg))) (0 : Int32)) ∧ (¬ r4 = 0 → tk_X2_owedBehind_66 st post Y v0 v1 v2 v3 v4 (1 : Int32) ((v3 - (tA Y v0 0 v4.toNatClampNeg))) (0 : Int32))) Y v2) ∧ (r2 = 0 → post (if (0 : Int32) < (v3 - (1 : Int32)) then (v3 - (1 : Int32)) else (0 : Int32)))) Y v4 (1 : Int32) (3 : Int32)) ∧ (v4 = 0 → tp_X8_squallAt st (fun r6 => (r6 = 0 → tk_X2_owedBehind_21 st post Y v0 v1 v2 v3 v4 (1 : Int32) v3 (20 : Int32)) ∧ (¬ r6 = 0 → tk_X2_owedBehind_21 st post Y v0 v1 v2 v3 v4 (2 : Int32) v3 (20 : Int32))) Y v1 v2)
set_option maxHeartbeats 4000000 in
set_option maxRecDepth 100000 in
theorem t_X2_owedBehind {st : TS} {aa : Nat → Nat → Nat} {Y : TY} {X : Hp} {postT : Int32 → Prop} {post : Int32 → Prop} {v0 : Nat} {v1 : Nat} {v2 : Int32} {v3 : Int32} {v4 : Int32} (R : Rel st aa Y X) (hk_v0 : tK Y v0 = 2) (hk_v1 : tK Y v1 = 8) (h : tp_X2_owedBehind st postT Y v0 v1 v2 v3 v4) (hp : ∀ (r : Int32) , postT r → post r ) : wp_X2_owedBehind post X v0 v1 v2 v3 v4 := by
  unfold tp_X2_owedBehind at h
  unfold wp_X2_owedBehind
  have J_66 : ∀ (b66_s0 : Int32) (b66_s1 : Int32) (b66_s2 : Int32), ∀ (_ : tk_X2_owedBehind_66 st postT Y v0 v1 v2 v3 v4  b66_s0 b66_s1 b66_s2), bk_X2_owedBehind_66 post X v0 v1 v2 v3 v4  b66_s0 b66_s1 b66_s2 := by
    intro b66_s0 b66_s1 b66_s2 h  
    unfold tk_X2_owedBehind_66 at h
    unfold bk_X2_owedBehind_66
    exact hp _ h
  have J_21 : ∀ (b21_s0 : Int32) (b21_s1 : Int32) (b21_s2 : Int32), ∀ (_ : tk_X2_owedBehind_21 st postT Y v0 v1 v2 v3 v4  b21_s0 b21_s1 b21_s2), bk_X2_owedBehind_21 post X v0 v1 v2 v3 v4  b21_s0 b21_s1 b21_s2 := by
    intro b21_s0 b21_s1 b21_s2 h  
    unfold tk_X2_owedBehind_21 at h
    unfold bk_X2_owedBehind_21
    exact hp _ h
  refine ⟨fun c1 => ?_, fun c1 => ?_⟩
  · have h := h.1 c1
    refine t_X9_within R  h (fun r2 h => ?_)
    refine ⟨fun c3 => ?_, fun c3 => ?_⟩
    · have h := h.1 c3
      refine ⟨_, _, ob_2 R hk_v0, rfl, ?_⟩
      refine ⟨_, _, ar_2_0 R hk_v0, h.1, ?_⟩
      have h := h.2
      refine t_X9_isNight R  h (fun r4 h => ?_)
      refine ⟨fun c5 => ?_, fun c5 => ?_⟩
      · have h := h.1 c5
        exact J_66 _ _ _ h  
      · have h := h.2 c5
        exact J_66 _ _ _ h  
    · have h := h.2 c3
      exact hp _ h
  · have h := h.2 c1
    refine ⟨_, ob_8 R hk_v1, t_X8_squallAt R hk_v1 h (fun r6 h => ?_)⟩
    refine ⟨fun c7 => ?_, fun c7 => ?_⟩
    · have h := h.1 c7
      exact J_21 _ _ _ h  
    · have h := h.2 c7
      exact J_21 _ _ _ h  
def tp_X9_hoursOf (st : TS) (post : Int32 → Prop) (Y : TY) (v0 : Int32) : Prop := (¬ v0 = (4 : Int32) → (¬ v0 = (3 : Int32) → post (1 : Int32)) ∧ (v0 = (3 : Int32) → post (2 : Int32))) ∧ (v0 = (4 : Int32) → post (0 : Int32))
set_option maxHeartbeats 4000000 in
set_option maxRecDepth 100000 in
theorem t_X9_hoursOf {st : TS} {aa : Nat → Nat → Nat} {Y : TY} {X : Hp} {postT : Int32 → Prop} {post : Int32 → Prop} {v0 : Int32} (R : Rel st aa Y X)  (h : tp_X9_hoursOf st postT Y v0) (hp : ∀ (r : Int32) , postT r → post r ) : wp_X9_hoursOf post X v0 := by
  unfold tp_X9_hoursOf at h
  unfold wp_X9_hoursOf
  refine ⟨fun c1 => ?_, fun c1 => ?_⟩
  · have h := h.1 c1
    refine ⟨fun c2 => ?_, fun c2 => ?_⟩
    · have h := h.1 c2
      exact hp _ h
    · have h := h.2 c2
      exact hp _ h
  · have h := h.2 c1
    exact hp _ h
def tk_X0_doDeed_97 (st : TS) (post : Int32 → TY → Prop) (v0 : Nat) (v1 : Int32)  (Y : TY) (b97_2 : Int32) : Prop := (tW Y v0 = none → False) ∧ (∀ y23 : Nat, tW Y v0 = some y23 → tp_X2_owedBehind st (fun r25 => ∀ Y26 : TY, Y26 = sI Y v0 4 r25 → tp_X9_batteryOf st (fun r27 => ∀ Y28 : TY, Y28 = sI Y26 v0 5 ((tI Y26 v0 5) - r27) → tp_X9_hoursOf st (fun r29 => ∀ Y30 : TY, Y30 = sI Y28 v0 3 ((tI Y28 v0 3) + r29) → post (1 : Int32) Y30) Y28 b97_2) Y26 v1) Y (st.1 v0 0) y23 (tI Y v0 3) (tI Y v0 4) b97_2)
def tp_X0_doDeed (st : TS) (post : Int32 → TY → Prop) (Y : TY) (v0 : Nat) (v1 : Int32) : Prop := ∀ x1 : Int32, x1 = (v1 / (2 : Int32)) → (tW Y v0 = none → post (0 : Int32) Y) ∧ (∀ y2 : Nat, tW Y v0 = some y2 → (tW Y v0 = none → False) ∧ (∀ y4 : Nat, tW Y v0 = some y4 → tp_X8_lets st (fun r6 => (r6 = 0 → post (0 : Int32) Y) ∧ (¬ r6 = 0 → tp_X9_batteryOf st (fun r8 => (r8 ≤ (tI Y v0 5) → tp_X2_blindOf st (fun r11 => (tW Y v0 = none → False) ∧ (∀ y13 : Nat, tW Y v0 = some y13 → tp_X8_shipsAt st (fun r15 => tp_X7_pass st (fun Y16 => (¬ x1 = (3 : Int32) → tk_X0_doDeed_97 st post v0 v1 Y16 x1) ∧ (x1 = (3 : Int32) → (tW Y16 v0 = none → False) ∧ (∀ y18 : Nat, tW Y16 v0 = some y18 → tp_X8_shipsAt st (fun r20 => tp_X7_pass st (fun Y21 => tk_X0_doDeed_97 st post v0 v1 Y21 x1) Y16 (st.1 v0 1) r20 r11) Y16 y18 ((tI Y16 v0 3) + (1 : Int32))))) Y (st.1 v0 1) r15 r11) Y y13 (tI Y v0 3))) Y (st.1 v0 0) v1 (tI Y v0 4)) ∧ (¬ r8 ≤ (tI Y v0 5) → post (0 : Int32) Y)) Y v1)) Y y4 (tI Y v0 3) x1))
set_option maxHeartbeats 4000000 in
set_option maxRecDepth 100000 in
theorem t_X0_doDeed {st : TS} {aa : Nat → Nat → Nat} {Y : TY} {X : Hp} {postT : Int32 → TY → Prop} {post : Int32 → Hp → Prop} {v0 : Nat} {v1 : Int32} (R : Rel st aa Y X) (hk_v0 : tK Y v0 = 0) (h : tp_X0_doDeed st postT Y v0 v1) (hp : ∀ (r : Int32) (Y' : TY) (X' : Hp), postT r Y' → Rel st aa Y' X' → (∀ a, tK Y' a = tK Y a) → post r X') : wp_X0_doDeed post X v0 v1 := by
  unfold tp_X0_doDeed at h
  unfold wp_X0_doDeed
  have hE0 : ∀ a, tK Y a = tK Y a := fun a => rfl
  obtain ⟨Y0, hY0⟩ : ∃ Z : TY, Z = Y := ⟨_, rfl⟩
  have hE0 : ∀ a, tK Y a = tK Y0 a := by rw [hY0]; exact hE0
  rw [← hY0] at hp
  have J_97 : ∀ (Y : TY) (b97_2 : Int32), ∀ (X : Hp) (_ : tk_X0_doDeed_97 st postT v0 v1  Y b97_2), Rel st aa Y X → (∀ a, tK Y a = tK Y0 a) → tK Y v0 = 0 → bk_X0_doDeed_97 post v0 v1  X b97_2 := by
    intro Y b97_2 X h R hE0 hk_v0 
    unfold tk_X0_doDeed_97 at h
    unfold bk_X0_doDeed_97
    refine ⟨_, _, ob_0 R hk_v0, rfl, ?_⟩
    have k22 := wf_0_0 R hk_v0
    refine ⟨_, _, ob_0 R hk_v0, rfl, fun c24 => ?_, fun y23 c24 => ?_⟩
    · have h := h.1 c24
      refine ⟨_, _, ob_0 R hk_v0, rfl, ?_⟩
      refine ⟨_, _, ob_0 R hk_v0, rfl, ?_⟩
      exact h.elim
    · have h := h.2 y23 c24
      have ky23 := wf_0_2 R hk_v0 c24
      refine ⟨_, _, ob_0 R hk_v0, rfl, ?_⟩
      refine ⟨_, _, ob_0 R hk_v0, rfl, ?_⟩
      refine ⟨_, ob_2 R k22, t_X2_owedBehind R k22 ky23 h (fun r25 h => ?_)⟩
      refine ⟨_, ob_0 R hk_v0, (by decide : 4 < 6), fun X1 e1 => ?_⟩
      have h := h _ rfl
      have R := pu_0_4 R hk_v0 e1
      refine ⟨_, _, ob_0 R hk_v0, rfl, ?_⟩
      refine t_X9_batteryOf R  h (fun r27 h => ?_)
      refine ⟨_, ob_0 R hk_v0, (by decide : 5 < 6), fun X1 e1 => ?_⟩
      have h := h _ rfl
      have R := pu_0_5 R hk_v0 e1
      refine ⟨_, _, ob_0 R hk_v0, rfl, ?_⟩
      refine t_X9_hoursOf R  h (fun r29 h => ?_)
      refine ⟨_, ob_0 R hk_v0, (by decide : 3 < 6), fun X1 e1 => ?_⟩
      have h := h _ rfl
      have R := pu_0_3 R hk_v0 e1
      exact hp _ _ _ h R hE0
  intro x1 ex1
  have h := h x1 ex1
  refine ⟨_, _, ob_0 R hk_v0, rfl, fun c3 => ?_, fun y2 c3 => ?_⟩
  · have h := h.1 c3
    exact hp _ _ _ h R hE0
  · have h := h.2 y2 c3
    have ky2 := wf_0_2 R hk_v0 c3
    refine ⟨_, _, ob_0 R hk_v0, rfl, fun c5 => ?_, fun y4 c5 => ?_⟩
    · have h := h.1 c5
      refine ⟨_, _, ob_0 R hk_v0, rfl, ?_⟩
      exact h.elim
    · have h := h.2 y4 c5
      have ky4 := wf_0_2 R hk_v0 c5
      refine ⟨_, _, ob_0 R hk_v0, rfl, ?_⟩
      refine ⟨_, ob_8 R ky4, t_X8_lets R ky4 h (fun r6 h => ?_)⟩
      refine ⟨fun c7 => ?_, fun c7 => ?_⟩
      · have h := h.1 c7
        exact hp _ _ _ h R hE0
      · have h := h.2 c7
        refine ⟨_, _, ob_0 R hk_v0, rfl, ?_⟩
        refine t_X9_batteryOf R  h (fun r8 h => ?_)
        refine ⟨fun c9 => ?_, fun c9 => ?_⟩
        · have h := h.1 c9
          refine ⟨_, _, ob_0 R hk_v0, rfl, ?_⟩
          have k10 := wf_0_0 R hk_v0
          refine ⟨_, _, ob_0 R hk_v0, rfl, ?_⟩
          refine ⟨_, ob_2 R k10, t_X2_blindOf R k10 h (fun r11 h => ?_)⟩
          refine ⟨_, _, ob_0 R hk_v0, rfl, ?_⟩
          have k12 := wf_0_1 R hk_v0
          refine ⟨_, _, ob_0 R hk_v0, rfl, fun c14 => ?_, fun y13 c14 => ?_⟩
          · have h := h.1 c14
            refine ⟨_, _, ob_0 R hk_v0, rfl, ?_⟩
            exact h.elim
          · have h := h.2 y13 c14
            have ky13 := wf_0_2 R hk_v0 c14
            refine ⟨_, _, ob_0 R hk_v0, rfl, ?_⟩
            refine ⟨_, ob_8 R ky13, t_X8_shipsAt R ky13 h (fun r15 h => ?_)⟩
            refine ⟨_, ob_7 R k12, t_X7_pass R k12 h (fun Y X h R hE => ?_)⟩
            have hk_v0 := (hE _).trans hk_v0
            have k10 := (hE _).trans k10
            have k12 := (hE _).trans k12
            have ky13 := (hE _).trans ky13
            have ky2 := (hE _).trans ky2
            have ky4 := (hE _).trans ky4
            have hE0 := fun a => (hE a).trans (hE0 a)
            refine ⟨fun c17 => ?_, fun c17 => ?_⟩
            · have h := h.1 c17
              exact J_97 _ _ _ h R hE0 (hk_v0) 
            · have h := h.2 c17
              refine ⟨_, _, ob_0 R hk_v0, rfl, ?_⟩
              refine ⟨_, _, ob_0 R hk_v0, rfl, fun c19 => ?_, fun y18 c19 => ?_⟩
              · have h := h.1 c19
                refine ⟨_, _, ob_0 R hk_v0, rfl, ?_⟩
                exact h.elim
              · have h := h.2 y18 c19
                have ky18 := wf_0_2 R hk_v0 c19
                refine ⟨_, _, ob_0 R hk_v0, rfl, ?_⟩
                refine ⟨_, ob_8 R ky18, t_X8_shipsAt R ky18 h (fun r20 h => ?_)⟩
                refine ⟨_, ob_7 R k12, t_X7_pass R k12 h (fun Y X h R hE => ?_)⟩
                have hk_v0 := (hE _).trans hk_v0
                have k10 := (hE _).trans k10
                have k12 := (hE _).trans k12
                have ky13 := (hE _).trans ky13
                have ky18 := (hE _).trans ky18
                have ky2 := (hE _).trans ky2
                have ky4 := (hE _).trans ky4
                have hE0 := fun a => (hE a).trans (hE0 a)
                exact J_97 _ _ _ h R hE0 (hk_v0) 
        · have h := h.2 c9
          exact hp _ _ _ h R hE0
def tk_X0_sailBy_70 (st : TS) (post : Int32 → TY → Prop) (v0 : Nat) (v1 : Nat) (r_7 : TY → Int32 → Int32 → Int32 → Prop) (Y : TY) (b70_2 : Int32) (b70_4 : Int32) (b70_s0 : Int32) : Prop := ∀ x10 : Int32, x10 = b70_4 + (1 : Int32) → r_7 Y b70_2 b70_s0 x10
def tk_X0_sailBy_53 (st : TS) (post : Int32 → TY → Prop) (v0 : Nat) (v1 : Nat) (r_7 : TY → Int32 → Int32 → Int32 → Prop) (Y : TY) (b53_2 : Int32) (b53_4 : Int32) : Prop := vp_in b53_4 60 ∧ (¬ (tA Y v1 1 b53_4.toNatClampNeg) = (33 : Int32) → tk_X0_sailBy_70 st post v0 v1 r_7 Y b53_2 b53_4 (0 : Int32)) ∧ ((tA Y v1 1 b53_4.toNatClampNeg) = (33 : Int32) → tk_X0_sailBy_70 st post v0 v1 r_7 Y b53_2 b53_4 (1 : Int32))
def tk_X0_sailBy_7 (st : TS) (post : Int32 → TY → Prop) (v0 : Nat) (v1 : Nat)  : Nat → TY → Int32 → Int32 → Int32 → Prop
  | 0, _, _, _, _ => False
  | k + 1, Y, b7_2, b7_3, b7_4 => ((tI Y v1 0) ≤ b7_4 → post (-6 : Int32) Y) ∧ (¬ (tI Y v1 0) ≤ b7_4 → vp_in b7_4 60 ∧ tp_X3_thingOf st (fun r3 => (r3 = (-6 : Int32) → tk_X0_sailBy_53 st post v0 v1 (tk_X0_sailBy_7 st post v0 v1 k) Y b7_2 b7_4) ∧ (¬ r3 = (-6 : Int32) → tp_X0_doDeed st (fun r6 Y5 => (¬ r6 = 0 → ∀ x8 : Int32, x8 = b7_2 + (1 : Int32) → tk_X0_sailBy_53 st post v0 v1 (tk_X0_sailBy_7 st post v0 v1 k) Y5 x8 b7_4) ∧ (r6 = 0 → post b7_2 Y5)) Y v0 (((2 : Int32) * r3) + b7_3))) Y (tA Y v1 1 b7_4.toNatClampNeg))
def tp_X0_sailBy (st : TS) (post : Int32 → TY → Prop) (Y : TY) (v0 : Nat) (v1 : Nat) : Prop := ∃ n1 : Nat, tk_X0_sailBy_7 st post v0 v1 n1 Y (0 : Int32) (0 : Int32) (0 : Int32)
set_option maxHeartbeats 4000000 in
set_option maxRecDepth 100000 in
theorem t_X0_sailBy {st : TS} {aa : Nat → Nat → Nat} {Y : TY} {X : Hp} {postT : Int32 → TY → Prop} {post : Int32 → Hp → Prop} {v0 : Nat} {v1 : Nat} (R : Rel st aa Y X) (hk_v0 : tK Y v0 = 0) (hk_v1 : tK Y v1 = 3) (h : tp_X0_sailBy st postT Y v0 v1) (hp : ∀ (r : Int32) (Y' : TY) (X' : Hp), postT r Y' → Rel st aa Y' X' → (∀ a, tK Y' a = tK Y a) → post r X') : wp_X0_sailBy post X v0 v1 := by
  unfold tp_X0_sailBy at h
  unfold wp_X0_sailBy
  have hE0 : ∀ a, tK Y a = tK Y a := fun a => rfl
  obtain ⟨Y0, hY0⟩ : ∃ Z : TY, Z = Y := ⟨_, rfl⟩
  have hE0 : ∀ a, tK Y a = tK Y0 a := by rw [hY0]; exact hE0
  rw [← hY0] at hp
  have J_7 : ∀ (n : Nat) (Y : TY) (b7_2 : Int32) (b7_3 : Int32) (b7_4 : Int32), ∀ (X : Hp) (_ : tk_X0_sailBy_7 st postT v0 v1  n Y b7_2 b7_3 b7_4), Rel st aa Y X → (∀ a, tK Y a = tK Y0 a) → tK Y v0 = 0 → tK Y v1 = 3 → bk_X0_sailBy_7 post v0 v1  n X b7_2 b7_3 b7_4 := by
    intro n
    induction n with
    | zero =>
      intro Y b7_2 b7_3 b7_4 X h R hE0 hk_v0 hk_v1 
      rw [tk_X0_sailBy_7] at h
      exact h.elim
    | succ n_7 ih_7 =>
      have J_70 : ∀ (Y : TY) (b70_2 : Int32) (b70_4 : Int32) (b70_s0 : Int32), ∀ (X : Hp) (_ : tk_X0_sailBy_70 st postT v0 v1 (tk_X0_sailBy_7 st postT v0 v1 n_7) Y b70_2 b70_4 b70_s0), Rel st aa Y X → (∀ a, tK Y a = tK Y0 a) → tK Y v0 = 0 → tK Y v1 = 3 → bk_X0_sailBy_70 post v0 v1 (bk_X0_sailBy_7 post v0 v1 n_7) X b70_2 b70_4 b70_s0 := by
        intro Y b70_2 b70_4 b70_s0 X h R hE0 hk_v0 hk_v1 
        unfold tk_X0_sailBy_70 at h
        unfold bk_X0_sailBy_70
        intro x10 ex10
        have h := h x10 ex10
        exact ih_7 _ _ _ _ _ h R hE0 (hk_v0) (hk_v1) 
      have J_53 : ∀ (Y : TY) (b53_2 : Int32) (b53_4 : Int32), ∀ (X : Hp) (_ : tk_X0_sailBy_53 st postT v0 v1 (tk_X0_sailBy_7 st postT v0 v1 n_7) Y b53_2 b53_4), Rel st aa Y X → (∀ a, tK Y a = tK Y0 a) → tK Y v0 = 0 → tK Y v1 = 3 → bk_X0_sailBy_53 post v0 v1 (bk_X0_sailBy_7 post v0 v1 n_7) X b53_2 b53_4 := by
        intro Y b53_2 b53_4 X h R hE0 hk_v0 hk_v1 
        unfold tk_X0_sailBy_53 at h
        unfold bk_X0_sailBy_53
        refine ⟨_, _, ob_3 R hk_v1, rfl, ?_⟩
        refine ⟨_, _, ar_3_1 R hk_v1, h.1, ?_⟩
        have h := h.2
        refine ⟨fun c9 => ?_, fun c9 => ?_⟩
        · have h := h.1 c9
          exact J_70 _ _ _ _ _ h R hE0 (hk_v0) (hk_v1) 
        · have h := h.2 c9
          exact J_70 _ _ _ _ _ h R hE0 (hk_v0) (hk_v1) 
      intro Y b7_2 b7_3 b7_4 X h R hE0 hk_v0 hk_v1 
      rw [tk_X0_sailBy_7] at h
      rw [bk_X0_sailBy_7]
      refine ⟨_, _, ob_3 R hk_v1, rfl, ?_⟩
      refine ⟨fun c2 => ?_, fun c2 => ?_⟩
      · have h := h.1 c2
        exact hp _ _ _ h R hE0
      · have h := h.2 c2
        refine ⟨_, _, ob_3 R hk_v1, rfl, ?_⟩
        refine ⟨_, _, ar_3_1 R hk_v1, h.1, ?_⟩
        have h := h.2
        refine t_X3_thingOf R  h (fun r3 h => ?_)
        refine ⟨fun c4 => ?_, fun c4 => ?_⟩
        · have h := h.1 c4
          exact J_53 _ _ _ _ h R hE0 (hk_v0) (hk_v1) 
        · have h := h.2 c4
          refine ⟨_, ob_0 R hk_v0, t_X0_doDeed R hk_v0 h (fun r6 Y X h R hE => ?_)⟩
          have hk_v0 := (hE _).trans hk_v0
          have hk_v1 := (hE _).trans hk_v1
          have hE0 := fun a => (hE a).trans (hE0 a)
          refine ⟨fun c7 => ?_, fun c7 => ?_⟩
          · have h := h.1 c7
            intro x8 ex8
            have h := h x8 ex8
            exact J_53 _ _ _ _ h R hE0 (hk_v0) (hk_v1) 
          · have h := h.2 c7
            exact hp _ _ _ h R hE0
  obtain ⟨n1, h⟩ := h
  exact ⟨n1, J_7 n1 _ _ _ _ _ h R hE0 (hk_v0) (hk_v1) ⟩
def tp_X0_saidByThumb (st : TS) (post : Int32 → Prop) (Y : TY) (v0 : Nat) (v1 : Int32) : Prop := (v1 = (1 : Int32) → ((tI Y v0 4) < (8 : Int32) → post (0 : Int32)) ∧ (¬ (tI Y v0 4) < (8 : Int32) → post (1 : Int32))) ∧ (v1 = (2 : Int32) → ((tI Y v0 4) < (4 : Int32) → post (0 : Int32)) ∧ (¬ (tI Y v0 4) < (4 : Int32) → (tW Y v0 = none → False) ∧ (∀ y5 : Nat, tW Y v0 = some y5 → tp_X8_shipsAt st (fun r7 => ((50 : Int32) ≤ r7 → post (0 : Int32)) ∧ (¬ (50 : Int32) ≤ r7 → post (1 : Int32))) Y y5 (tI Y v0 3)))) ∧ (¬ v1 = (1 : Int32) ∧ ¬ v1 = (2 : Int32) → ((tI Y v0 4) < (1 : Int32) → post (0 : Int32)) ∧ (¬ (tI Y v0 4) < (1 : Int32) → tp_X9_isNight st (fun r11 => (r11 = 0 → post (0 : Int32)) ∧ (¬ r11 = 0 → post (1 : Int32))) Y (tI Y v0 3)))
set_option maxHeartbeats 4000000 in
set_option maxRecDepth 100000 in
theorem t_X0_saidByThumb {st : TS} {aa : Nat → Nat → Nat} {Y : TY} {X : Hp} {postT : Int32 → Prop} {post : Int32 → Prop} {v0 : Nat} {v1 : Int32} (R : Rel st aa Y X) (hk_v0 : tK Y v0 = 0) (h : tp_X0_saidByThumb st postT Y v0 v1) (hp : ∀ (r : Int32) , postT r → post r ) : wp_X0_saidByThumb post X v0 v1 := by
  unfold tp_X0_saidByThumb at h
  unfold wp_X0_saidByThumb
  refine ⟨fun c1 => ?_, fun c3 => ?_, fun c9 => ?_⟩
  · have h := h.1 c1
    refine ⟨_, _, ob_0 R hk_v0, rfl, ?_⟩
    refine ⟨fun c2 => ?_, fun c2 => ?_⟩
    · have h := h.1 c2
      exact hp _ h
    · have h := h.2 c2
      exact hp _ h
  · have h := h.2.1 c3
    refine ⟨_, _, ob_0 R hk_v0, rfl, ?_⟩
    refine ⟨fun c4 => ?_, fun c4 => ?_⟩
    · have h := h.1 c4
      exact hp _ h
    · have h := h.2 c4
      refine ⟨_, _, ob_0 R hk_v0, rfl, fun c6 => ?_, fun y5 c6 => ?_⟩
      · have h := h.1 c6
        refine ⟨_, _, ob_0 R hk_v0, rfl, ?_⟩
        exact h.elim
      · have h := h.2 y5 c6
        have ky5 := wf_0_2 R hk_v0 c6
        refine ⟨_, _, ob_0 R hk_v0, rfl, ?_⟩
        refine ⟨_, ob_8 R ky5, t_X8_shipsAt R ky5 h (fun r7 h => ?_)⟩
        refine ⟨fun c8 => ?_, fun c8 => ?_⟩
        · have h := h.1 c8
          exact hp _ h
        · have h := h.2 c8
          exact hp _ h
  · have h := h.2.2 c9
    refine ⟨_, _, ob_0 R hk_v0, rfl, ?_⟩
    refine ⟨fun c10 => ?_, fun c10 => ?_⟩
    · have h := h.1 c10
      exact hp _ h
    · have h := h.2 c10
      refine ⟨_, _, ob_0 R hk_v0, rfl, ?_⟩
      refine t_X9_isNight R  h (fun r11 h => ?_)
      refine ⟨fun c12 => ?_, fun c12 => ?_⟩
      · have h := h.1 c12
        exact hp _ h
      · have h := h.2 c12
        exact hp _ h
def tp_X0_thingByThumb (st : TS) (post : Int32 → Prop) (Y : TY) (v0 : Nat) (v1 : Int32) : Prop := (¬ v1 = 0 → tp_X0_saidByThumb st (fun r2 => (¬ r2 = 0 → (tW Y v0 = none → False) ∧ (∀ y4 : Nat, tW Y v0 = some y4 → tp_X8_lets st (fun r6 => (r6 = 0 → (tW Y v0 = none → False) ∧ (∀ y8 : Nat, tW Y v0 = some y8 → tp_X8_lets st (fun r10 => (r10 = 0 → post (0 : Int32)) ∧ (¬ r10 = 0 → post (2 : Int32))) Y y8 (tI Y v0 3) (2 : Int32))) ∧ (¬ r6 = 0 → post (3 : Int32))) Y y4 (tI Y v0 3) (3 : Int32))) ∧ (r2 = 0 → post (0 : Int32))) Y v0 v1) ∧ (v1 = 0 → (¬ ((tI Y v0 3) - (tI Y v0 3) / (2 : Int32) * (2 : Int32)) = (1 : Int32) → post (0 : Int32)) ∧ (((tI Y v0 3) - (tI Y v0 3) / (2 : Int32) * (2 : Int32)) = (1 : Int32) → (tW Y v0 = none → False) ∧ (∀ y13 : Nat, tW Y v0 = some y13 → tp_X8_lets st (fun r15 => (r15 = 0 → post (0 : Int32)) ∧ (¬ r15 = 0 → post (1 : Int32))) Y y13 (tI Y v0 3) (1 : Int32))))
set_option maxHeartbeats 4000000 in
set_option maxRecDepth 100000 in
theorem t_X0_thingByThumb {st : TS} {aa : Nat → Nat → Nat} {Y : TY} {X : Hp} {postT : Int32 → Prop} {post : Int32 → Prop} {v0 : Nat} {v1 : Int32} (R : Rel st aa Y X) (hk_v0 : tK Y v0 = 0) (h : tp_X0_thingByThumb st postT Y v0 v1) (hp : ∀ (r : Int32) , postT r → post r ) : wp_X0_thingByThumb post X v0 v1 := by
  unfold tp_X0_thingByThumb at h
  unfold wp_X0_thingByThumb
  refine ⟨fun c1 => ?_, fun c1 => ?_⟩
  · have h := h.1 c1
    refine ⟨_, ob_0 R hk_v0, t_X0_saidByThumb R hk_v0 h (fun r2 h => ?_)⟩
    refine ⟨fun c3 => ?_, fun c3 => ?_⟩
    · have h := h.1 c3
      refine ⟨_, _, ob_0 R hk_v0, rfl, fun c5 => ?_, fun y4 c5 => ?_⟩
      · have h := h.1 c5
        refine ⟨_, _, ob_0 R hk_v0, rfl, ?_⟩
        exact h.elim
      · have h := h.2 y4 c5
        have ky4 := wf_0_2 R hk_v0 c5
        refine ⟨_, _, ob_0 R hk_v0, rfl, ?_⟩
        refine ⟨_, ob_8 R ky4, t_X8_lets R ky4 h (fun r6 h => ?_)⟩
        refine ⟨fun c7 => ?_, fun c7 => ?_⟩
        · have h := h.1 c7
          refine ⟨_, _, ob_0 R hk_v0, rfl, fun c9 => ?_, fun y8 c9 => ?_⟩
          · have h := h.1 c9
            refine ⟨_, _, ob_0 R hk_v0, rfl, ?_⟩
            exact h.elim
          · have h := h.2 y8 c9
            have ky8 := wf_0_2 R hk_v0 c9
            refine ⟨_, _, ob_0 R hk_v0, rfl, ?_⟩
            refine ⟨_, ob_8 R ky8, t_X8_lets R ky8 h (fun r10 h => ?_)⟩
            refine ⟨fun c11 => ?_, fun c11 => ?_⟩
            · have h := h.1 c11
              exact hp _ h
            · have h := h.2 c11
              exact hp _ h
        · have h := h.2 c7
          exact hp _ h
    · have h := h.2 c3
      exact hp _ h
  · have h := h.2 c1
    refine ⟨_, _, ob_0 R hk_v0, rfl, ?_⟩
    refine ⟨fun c12 => ?_, fun c12 => ?_⟩
    · have h := h.1 c12
      exact hp _ h
    · have h := h.2 c12
      refine ⟨_, _, ob_0 R hk_v0, rfl, fun c14 => ?_, fun y13 c14 => ?_⟩
      · have h := h.1 c14
        refine ⟨_, _, ob_0 R hk_v0, rfl, ?_⟩
        exact h.elim
      · have h := h.2 y13 c14
        have ky13 := wf_0_2 R hk_v0 c14
        refine ⟨_, _, ob_0 R hk_v0, rfl, ?_⟩
        refine ⟨_, ob_8 R ky13, t_X8_lets R ky13 h (fun r15 h => ?_)⟩
        refine ⟨fun c16 => ?_, fun c16 => ?_⟩
        · have h := h.1 c16
          exact hp _ h
        · have h := h.2 c16
          exact hp _ h
def tk_X0_sailByThumb_10 (st : TS) (post : TY → Prop) (v0 : Nat) (v1 : Int32)  : Nat → TY → Int32 → Prop
  | 0, _, _ => False
  | k + 1, Y, b10_2 => ((48 : Int32) ≤ b10_2 → post Y) ∧ (¬ (48 : Int32) ≤ b10_2 → (tW Y v0 = none → False) ∧ (∀ y5 : Nat, tW Y v0 = some y5 → ((tI Y y5 1) ≤ (tI Y v0 3) → post Y) ∧ (¬ (tI Y y5 1) ≤ (tI Y v0 3) → tp_X0_thingByThumb st (fun r8 => tp_X0_doDeed st (fun r10 Y9 => ∀ x11 : Int32, x11 = b10_2 + (1 : Int32) → (tk_X0_sailByThumb_10 st post v0 v1 k) Y9 x11) Y v0 ((2 : Int32) * r8)) Y v0 v1)))
def tp_X0_sailByThumb (st : TS) (post : TY → Prop) (Y : TY) (v0 : Nat) (v1 : Int32) : Prop := (tW Y v0 = none → post Y) ∧ (∀ y1 : Nat, tW Y v0 = some y1 → ∃ n3 : Nat, tk_X0_sailByThumb_10 st post v0 v1 n3 Y (0 : Int32))
set_option maxHeartbeats 4000000 in
set_option maxRecDepth 100000 in
theorem t_X0_sailByThumb {st : TS} {aa : Nat → Nat → Nat} {Y : TY} {X : Hp} {postT : TY → Prop} {post : Hp → Prop} {v0 : Nat} {v1 : Int32} (R : Rel st aa Y X) (hk_v0 : tK Y v0 = 0) (h : tp_X0_sailByThumb st postT Y v0 v1) (hp : ∀ (Y' : TY) (X' : Hp), postT Y' → Rel st aa Y' X' → (∀ a, tK Y' a = tK Y a) → post X') : wp_X0_sailByThumb post X v0 v1 := by
  unfold tp_X0_sailByThumb at h
  unfold wp_X0_sailByThumb
  have hE0 : ∀ a, tK Y a = tK Y a := fun a => rfl
  obtain ⟨Y0, hY0⟩ : ∃ Z : TY, Z = Y := ⟨_, rfl⟩
  have hE0 : ∀ a, tK Y a = tK Y0 a := by rw [hY0]; exact hE0
  rw [← hY0] at hp
  have J_10 : ∀ (n : Nat) (Y : TY) (b10_2 : Int32), ∀ (X : Hp) (_ : tk_X0_sailByThumb_10 st postT v0 v1  n Y b10_2), Rel st aa Y X → (∀ a, tK Y a = tK Y0 a) → tK Y v0 = 0 → bk_X0_sailByThumb_10 post v0 v1  n X b10_2 := by
    intro n
    induction n with
    | zero =>
      intro Y b10_2 X h R hE0 hk_v0 
      rw [tk_X0_sailByThumb_10] at h
      exact h.elim
    | succ n_10 ih_10 =>
      intro Y b10_2 X h R hE0 hk_v0 
      rw [tk_X0_sailByThumb_10] at h
      rw [bk_X0_sailByThumb_10]
      refine ⟨fun c4 => ?_, fun c4 => ?_⟩
      · have h := h.1 c4
        exact hp _ _ h R hE0
      · have h := h.2 c4
        refine ⟨_, _, ob_0 R hk_v0, rfl, ?_⟩
        refine ⟨_, _, ob_0 R hk_v0, rfl, fun c6 => ?_, fun y5 c6 => ?_⟩
        · have h := h.1 c6
          exact h.elim
        · have h := h.2 y5 c6
          have ky5 := wf_0_2 R hk_v0 c6
          refine ⟨_, _, ob_8 R ky5, rfl, ?_⟩
          refine ⟨fun c7 => ?_, fun c7 => ?_⟩
          · have h := h.1 c7
            exact hp _ _ h R hE0
          · have h := h.2 c7
            refine ⟨_, ob_0 R hk_v0, t_X0_thingByThumb R hk_v0 h (fun r8 h => ?_)⟩
            refine ⟨_, ob_0 R hk_v0, t_X0_doDeed R hk_v0 h (fun r10 Y X h R hE => ?_)⟩
            have hk_v0 := (hE _).trans hk_v0
            have ky5 := (hE _).trans ky5
            have hE0 := fun a => (hE a).trans (hE0 a)
            intro x11 ex11
            have h := h x11 ex11
            exact ih_10 _ _ _ h R hE0 (hk_v0) 
  refine ⟨_, _, ob_0 R hk_v0, rfl, fun c2 => ?_, fun y1 c2 => ?_⟩
  · have h := h.1 c2
    exact hp _ _ h R hE0
  · have h := h.2 y1 c2
    have ky1 := wf_0_2 R hk_v0 c2
    obtain ⟨n3, h⟩ := h
    exact ⟨n3, J_10 n3 _ _ _ h R hE0 (hk_v0) ⟩
def tk_X0_safeByTurns_177 (st : TS) (post : Int32 → TY → Prop) (v0 : Nat) (v1 : Nat) (v2 : Int32) (v3 : Int32) (r_17 : TY → Int32 → Int32 → Int32 → Prop) (Y : TY) (b177_4 : Int32) (b177_6 : Int32) (b177_s0 : Int32) : Prop := ∀ x25 : Int32, x25 = b177_6 + (1 : Int32) → r_17 Y b177_4 b177_s0 x25
def tk_X0_safeByTurns_153 (st : TS) (post : Int32 → TY → Prop) (v0 : Nat) (v1 : Nat) (v2 : Int32) (v3 : Int32) (r_17 : TY → Int32 → Int32 → Int32 → Prop) (Y : TY) (b153_4 : Int32) (b153_5 : Int32) (b153_6 : Int32) : Prop := tp_X2_owedBehind st (fun r24 => tk_X0_safeByTurns_177 st post v0 v1 v2 v3 r_17 Y b153_4 b153_6 r24) Y (st.1 v0 0) v1 b153_6 b153_5 (0 : Int32)
def tk_X0_safeByTurns_141 (st : TS) (post : Int32 → TY → Prop) (v0 : Nat) (v1 : Nat) (v2 : Int32) (v3 : Int32) (r_17 : TY → Int32 → Int32 → Int32 → Prop) (Y : TY) (b141_5 : Int32) (b141_6 : Int32) (b141_7 : Int32) (b141_8 : Int32) (b141_s0 : Int32) : Prop := (¬ b141_7 = 0 → tk_X0_safeByTurns_153 st post v0 v1 v2 v3 r_17 Y b141_s0 b141_5 b141_6) ∧ (b141_7 = 0 → (¬ b141_8 = 0 → tk_X0_safeByTurns_177 st post v0 v1 v2 v3 r_17 Y b141_s0 b141_6 ((if (0 : Int32) < (b141_5 - (2 : Int32)) then (b141_5 - (2 : Int32)) else (0 : Int32)))) ∧ (b141_8 = 0 → tk_X0_safeByTurns_153 st post v0 v1 v2 v3 r_17 Y b141_s0 b141_5 b141_6))
def tk_X0_safeByTurns_117 (st : TS) (post : Int32 → TY → Prop) (v0 : Nat) (v1 : Nat) (v2 : Int32) (v3 : Int32) (r_17 : TY → Int32 → Int32 → Int32 → Prop) (Y : TY) (b117_4 : Int32) (b117_5 : Int32) (b117_6 : Int32) (b117_7 : Int32) (b117_8 : Int32) : Prop := tp_X2_owedBehind st (fun r20 => tk_X0_safeByTurns_141 st post v0 v1 v2 v3 r_17 Y b117_5 b117_6 b117_7 b117_8 r20) Y (st.1 v0 0) v1 b117_6 b117_4 (0 : Int32)
def tk_X0_safeByTurns_82 (st : TS) (post : Int32 → TY → Prop) (v0 : Nat) (v1 : Nat) (v2 : Int32) (v3 : Int32) (r_17 : TY → Int32 → Int32 → Int32 → Prop) (Y : TY) (b82_4 : Int32) (b82_5 : Int32) (b82_6 : Int32) (b82_7 : Int32) (b82_8 : Int32) (b82_s0 : Int32) : Prop := tp_X8_shipsAt st (fun r13 => tp_X2_blindOf st (fun r15 => tp_X7_pass st (fun Y16 => (¬ b82_7 = 0 → tk_X0_safeByTurns_117 st post v0 v1 v2 v3 r_17 Y16 b82_4 b82_5 b82_6 b82_7 b82_8) ∧ (b82_7 = 0 → (b82_8 = 0 → tk_X0_safeByTurns_141 st post v0 v1 v2 v3 r_17 Y16 b82_5 b82_6 b82_7 b82_8 ((if (0 : Int32) < (b82_4 - (2 : Int32)) then (b82_4 - (2 : Int32)) else (0 : Int32)))) ∧ (¬ b82_8 = 0 → tk_X0_safeByTurns_117 st post v0 v1 v2 v3 r_17 Y16 b82_4 b82_5 b82_6 b82_7 b82_8))) Y (st.1 v0 1) r13 r15) Y (st.1 v0 0) (0 : Int32) b82_s0) Y v1 b82_6
def tk_X0_safeByTurns_53 (st : TS) (post : Int32 → TY → Prop) (v0 : Nat) (v1 : Nat) (v2 : Int32) (v3 : Int32) (r_17 : TY → Int32 → Int32 → Int32 → Prop) (Y : TY) (b53_4 : Int32) (b53_5 : Int32) (b53_6 : Int32) (b53_7 : Int32) (b53_s0 : Int32) : Prop := (b53_7 = 0 → (b53_s0 = 0 → tk_X0_safeByTurns_82 st post v0 v1 v2 v3 r_17 Y b53_4 b53_5 b53_6 b53_7 b53_s0 b53_5) ∧ (¬ b53_s0 = 0 → tk_X0_safeByTurns_82 st post v0 v1 v2 v3 r_17 Y b53_4 b53_5 b53_6 b53_7 b53_s0 b53_4)) ∧ (¬ b53_7 = 0 → tk_X0_safeByTurns_82 st post v0 v1 v2 v3 r_17 Y b53_4 b53_5 b53_6 b53_7 b53_s0 ((if b53_5 < b53_4 then b53_5 else b53_4)))
def tk_X0_safeByTurns_48 (st : TS) (post : Int32 → TY → Prop) (v0 : Nat) (v1 : Nat) (v2 : Int32) (v3 : Int32) (r_17 : TY → Int32 → Int32 → Int32 → Prop) (Y : TY) (b48_4 : Int32) (b48_5 : Int32) (b48_6 : Int32) (b48_7 : Int32) : Prop := tk_X0_safeByTurns_53 st post v0 v1 v2 v3 r_17 Y b48_4 b48_5 b48_6 b48_7 (1 : Int32)
def tk_X0_safeByTurns_17 (st : TS) (post : Int32 → TY → Prop) (v0 : Nat) (v1 : Nat) (v2 : Int32) (v3 : Int32)  : Nat → TY → Int32 → Int32 → Int32 → Prop
  | 0, _, _, _, _ => False
  | k + 1, Y, b17_4, b17_5, b17_6 => ((tI Y v1 1) ≤ b17_6 → tp_X7_safe st (fun r6 => post r6 Y) Y (st.1 v0 1)) ∧ (¬ (tI Y v1 1) ≤ b17_6 → tp_X8_squallAt st (fun r7 => (v3 < (1 : Int32) → tk_X0_safeByTurns_48 st post v0 v1 v2 v3 (tk_X0_safeByTurns_17 st post v0 v1 v2 v3 k) Y b17_4 b17_5 b17_6 r7) ∧ (¬ v3 < (1 : Int32) → ¬ v3 = 0 ∧ (¬ ((b17_6 / v3) - (b17_6 / v3) / (2 : Int32) * (2 : Int32)) = 0 → tk_X0_safeByTurns_53 st post v0 v1 v2 v3 (tk_X0_safeByTurns_17 st post v0 v1 v2 v3 k) Y b17_4 b17_5 b17_6 r7 (0 : Int32)) ∧ (((b17_6 / v3) - (b17_6 / v3) / (2 : Int32) * (2 : Int32)) = 0 → tk_X0_safeByTurns_48 st post v0 v1 v2 v3 (tk_X0_safeByTurns_17 st post v0 v1 v2 v3 k) Y b17_4 b17_5 b17_6 r7))) Y v1 b17_6)
def tp_X0_safeByTurns (st : TS) (post : Int32 → TY → Prop) (Y : TY) (v0 : Nat) (v1 : Nat) (v2 : Int32) (v3 : Int32) : Prop := ∀ Y2 : TY, Y2 = sI Y (st.1 v0 1) 0 (0 : Int32) → ∃ n3 : Nat, tk_X0_safeByTurns_17 st post v0 v1 v2 v3 n3 Y2 v2 v2 (0 : Int32)
set_option maxHeartbeats 4000000 in
set_option maxRecDepth 100000 in
theorem t_X0_safeByTurns {st : TS} {aa : Nat → Nat → Nat} {Y : TY} {X : Hp} {postT : Int32 → TY → Prop} {post : Int32 → Hp → Prop} {v0 : Nat} {v1 : Nat} {v2 : Int32} {v3 : Int32} (R : Rel st aa Y X) (hk_v0 : tK Y v0 = 0) (hk_v1 : tK Y v1 = 8) (h : tp_X0_safeByTurns st postT Y v0 v1 v2 v3) (hp : ∀ (r : Int32) (Y' : TY) (X' : Hp), postT r Y' → Rel st aa Y' X' → (∀ a, tK Y' a = tK Y a) → post r X') : wp_X0_safeByTurns post X v0 v1 v2 v3 := by
  unfold tp_X0_safeByTurns at h
  unfold wp_X0_safeByTurns
  have hE0 : ∀ a, tK Y a = tK Y a := fun a => rfl
  obtain ⟨Y0, hY0⟩ : ∃ Z : TY, Z = Y := ⟨_, rfl⟩
  have hE0 : ∀ a, tK Y a = tK Y0 a := by rw [hY0]; exact hE0
  rw [← hY0] at hp
  have J_17 : ∀ (n : Nat) (Y : TY) (b17_4 : Int32) (b17_5 : Int32) (b17_6 : Int32), ∀ (X : Hp) (_ : tk_X0_safeByTurns_17 st postT v0 v1 v2 v3  n Y b17_4 b17_5 b17_6), Rel st aa Y X → (∀ a, tK Y a = tK Y0 a) → tK Y v0 = 0 → tK Y v1 = 8 → bk_X0_safeByTurns_17 post v0 v1 v2 v3  n X b17_4 b17_5 b17_6 := by
    intro n
    induction n with
    | zero =>
      intro Y b17_4 b17_5 b17_6 X h R hE0 hk_v0 hk_v1 
      rw [tk_X0_safeByTurns_17] at h
      exact h.elim
    | succ n_17 ih_17 =>
      have J_177 : ∀ (Y : TY) (b177_4 : Int32) (b177_6 : Int32) (b177_s0 : Int32), ∀ (X : Hp) (_ : tk_X0_safeByTurns_177 st postT v0 v1 v2 v3 (tk_X0_safeByTurns_17 st postT v0 v1 v2 v3 n_17) Y b177_4 b177_6 b177_s0), Rel st aa Y X → (∀ a, tK Y a = tK Y0 a) → tK Y v0 = 0 → tK Y v1 = 8 → bk_X0_safeByTurns_177 post v0 v1 v2 v3 (bk_X0_safeByTurns_17 post v0 v1 v2 v3 n_17) X b177_4 b177_6 b177_s0 := by
        intro Y b177_4 b177_6 b177_s0 X h R hE0 hk_v0 hk_v1 
        unfold tk_X0_safeByTurns_177 at h
        unfold bk_X0_safeByTurns_177
        intro x25 ex25
        have h := h x25 ex25
        exact ih_17 _ _ _ _ _ h R hE0 (hk_v0) (hk_v1) 
      have J_153 : ∀ (Y : TY) (b153_4 : Int32) (b153_5 : Int32) (b153_6 : Int32), ∀ (X : Hp) (_ : tk_X0_safeByTurns_153 st postT v0 v1 v2 v3 (tk_X0_safeByTurns_17 st postT v0 v1 v2 v3 n_17) Y b153_4 b153_5 b153_6), Rel st aa Y X → (∀ a, tK Y a = tK Y0 a) → tK Y v0 = 0 → tK Y v1 = 8 → bk_X0_safeByTurns_153 post v0 v1 v2 v3 (bk_X0_safeByTurns_17 post v0 v1 v2 v3 n_17) X b153_4 b153_5 b153_6 := by
        intro Y b153_4 b153_5 b153_6 X h R hE0 hk_v0 hk_v1 
        unfold tk_X0_safeByTurns_153 at h
        unfold bk_X0_safeByTurns_153
        refine ⟨_, _, ob_0 R hk_v0, rfl, ?_⟩
        have k23 := wf_0_0 R hk_v0
        refine ⟨_, ob_2 R k23, t_X2_owedBehind R k23 hk_v1 h (fun r24 h => ?_)⟩
        exact J_177 _ _ _ _ _ h R hE0 (hk_v0) (hk_v1) 
      have J_141 : ∀ (Y : TY) (b141_5 : Int32) (b141_6 : Int32) (b141_7 : Int32) (b141_8 : Int32) (b141_s0 : Int32), ∀ (X : Hp) (_ : tk_X0_safeByTurns_141 st postT v0 v1 v2 v3 (tk_X0_safeByTurns_17 st postT v0 v1 v2 v3 n_17) Y b141_5 b141_6 b141_7 b141_8 b141_s0), Rel st aa Y X → (∀ a, tK Y a = tK Y0 a) → tK Y v0 = 0 → tK Y v1 = 8 → bk_X0_safeByTurns_141 post v0 v1 v2 v3 (bk_X0_safeByTurns_17 post v0 v1 v2 v3 n_17) X b141_5 b141_6 b141_7 b141_8 b141_s0 := by
        intro Y b141_5 b141_6 b141_7 b141_8 b141_s0 X h R hE0 hk_v0 hk_v1 
        unfold tk_X0_safeByTurns_141 at h
        unfold bk_X0_safeByTurns_141
        refine ⟨fun c21 => ?_, fun c21 => ?_⟩
        · have h := h.1 c21
          exact J_153 _ _ _ _ _ h R hE0 (hk_v0) (hk_v1) 
        · have h := h.2 c21
          refine ⟨fun c22 => ?_, fun c22 => ?_⟩
          · have h := h.1 c22
            exact J_177 _ _ _ _ _ h R hE0 (hk_v0) (hk_v1) 
          · have h := h.2 c22
            exact J_153 _ _ _ _ _ h R hE0 (hk_v0) (hk_v1) 
      have J_117 : ∀ (Y : TY) (b117_4 : Int32) (b117_5 : Int32) (b117_6 : Int32) (b117_7 : Int32) (b117_8 : Int32), ∀ (X : Hp) (_ : tk_X0_safeByTurns_117 st postT v0 v1 v2 v3 (tk_X0_safeByTurns_17 st postT v0 v1 v2 v3 n_17) Y b117_4 b117_5 b117_6 b117_7 b117_8), Rel st aa Y X → (∀ a, tK Y a = tK Y0 a) → tK Y v0 = 0 → tK Y v1 = 8 → bk_X0_safeByTurns_117 post v0 v1 v2 v3 (bk_X0_safeByTurns_17 post v0 v1 v2 v3 n_17) X b117_4 b117_5 b117_6 b117_7 b117_8 := by
        intro Y b117_4 b117_5 b117_6 b117_7 b117_8 X h R hE0 hk_v0 hk_v1 
        unfold tk_X0_safeByTurns_117 at h
        unfold bk_X0_safeByTurns_117
        refine ⟨_, _, ob_0 R hk_v0, rfl, ?_⟩
        have k19 := wf_0_0 R hk_v0
        refine ⟨_, ob_2 R k19, t_X2_owedBehind R k19 hk_v1 h (fun r20 h => ?_)⟩
        exact J_141 _ _ _ _ _ _ _ h R hE0 (hk_v0) (hk_v1) 
      have J_82 : ∀ (Y : TY) (b82_4 : Int32) (b82_5 : Int32) (b82_6 : Int32) (b82_7 : Int32) (b82_8 : Int32) (b82_s0 : Int32), ∀ (X : Hp) (_ : tk_X0_safeByTurns_82 st postT v0 v1 v2 v3 (tk_X0_safeByTurns_17 st postT v0 v1 v2 v3 n_17) Y b82_4 b82_5 b82_6 b82_7 b82_8 b82_s0), Rel st aa Y X → (∀ a, tK Y a = tK Y0 a) → tK Y v0 = 0 → tK Y v1 = 8 → bk_X0_safeByTurns_82 post v0 v1 v2 v3 (bk_X0_safeByTurns_17 post v0 v1 v2 v3 n_17) X b82_4 b82_5 b82_6 b82_7 b82_8 b82_s0 := by
        intro Y b82_4 b82_5 b82_6 b82_7 b82_8 b82_s0 X h R hE0 hk_v0 hk_v1 
        unfold tk_X0_safeByTurns_82 at h
        unfold bk_X0_safeByTurns_82
        refine ⟨_, _, ob_0 R hk_v0, rfl, ?_⟩
        have k12 := wf_0_1 R hk_v0
        refine ⟨_, ob_8 R hk_v1, t_X8_shipsAt R hk_v1 h (fun r13 h => ?_)⟩
        refine ⟨_, _, ob_0 R hk_v0, rfl, ?_⟩
        have k14 := wf_0_0 R hk_v0
        refine ⟨_, ob_2 R k14, t_X2_blindOf R k14 h (fun r15 h => ?_)⟩
        refine ⟨_, ob_7 R k12, t_X7_pass R k12 h (fun Y X h R hE => ?_)⟩
        have hk_v0 := (hE _).trans hk_v0
        have hk_v1 := (hE _).trans hk_v1
        have k12 := (hE _).trans k12
        have k14 := (hE _).trans k14
        have hE0 := fun a => (hE a).trans (hE0 a)
        refine ⟨fun c17 => ?_, fun c17 => ?_⟩
        · have h := h.1 c17
          exact J_117 _ _ _ _ _ _ _ h R hE0 (hk_v0) (hk_v1) 
        · have h := h.2 c17
          refine ⟨fun c18 => ?_, fun c18 => ?_⟩
          · have h := h.1 c18
            exact J_141 _ _ _ _ _ _ _ h R hE0 (hk_v0) (hk_v1) 
          · have h := h.2 c18
            exact J_117 _ _ _ _ _ _ _ h R hE0 (hk_v0) (hk_v1) 
      have J_53 : ∀ (Y : TY) (b53_4 : Int32) (b53_5 : Int32) (b53_6 : Int32) (b53_7 : Int32) (b53_s0 : Int32), ∀ (X : Hp) (_ : tk_X0_safeByTurns_53 st postT v0 v1 v2 v3 (tk_X0_safeByTurns_17 st postT v0 v1 v2 v3 n_17) Y b53_4 b53_5 b53_6 b53_7 b53_s0), Rel st aa Y X → (∀ a, tK Y a = tK Y0 a) → tK Y v0 = 0 → tK Y v1 = 8 → bk_X0_safeByTurns_53 post v0 v1 v2 v3 (bk_X0_safeByTurns_17 post v0 v1 v2 v3 n_17) X b53_4 b53_5 b53_6 b53_7 b53_s0 := by
        intro Y b53_4 b53_5 b53_6 b53_7 b53_s0 X h R hE0 hk_v0 hk_v1 
        unfold tk_X0_safeByTurns_53 at h
        unfold bk_X0_safeByTurns_53
        refine ⟨fun c10 => ?_, fun c10 => ?_⟩
        · have h := h.1 c10
          refine ⟨fun c11 => ?_, fun c11 => ?_⟩
          · have h := h.1 c11
            exact J_82 _ _ _ _ _ _ _ _ h R hE0 (hk_v0) (hk_v1) 
          · have h := h.2 c11
            exact J_82 _ _ _ _ _ _ _ _ h R hE0 (hk_v0) (hk_v1) 
        · have h := h.2 c10
          exact J_82 _ _ _ _ _ _ _ _ h R hE0 (hk_v0) (hk_v1) 
      have J_48 : ∀ (Y : TY) (b48_4 : Int32) (b48_5 : Int32) (b48_6 : Int32) (b48_7 : Int32), ∀ (X : Hp) (_ : tk_X0_safeByTurns_48 st postT v0 v1 v2 v3 (tk_X0_safeByTurns_17 st postT v0 v1 v2 v3 n_17) Y b48_4 b48_5 b48_6 b48_7), Rel st aa Y X → (∀ a, tK Y a = tK Y0 a) → tK Y v0 = 0 → tK Y v1 = 8 → bk_X0_safeByTurns_48 post v0 v1 v2 v3 (bk_X0_safeByTurns_17 post v0 v1 v2 v3 n_17) X b48_4 b48_5 b48_6 b48_7 := by
        intro Y b48_4 b48_5 b48_6 b48_7 X h R hE0 hk_v0 hk_v1 
        unfold tk_X0_safeByTurns_48 at h
        unfold bk_X0_safeByTurns_48
        exact J_53 _ _ _ _ _ _ _ h R hE0 (hk_v0) (hk_v1) 
      intro Y b17_4 b17_5 b17_6 X h R hE0 hk_v0 hk_v1 
      rw [tk_X0_safeByTurns_17] at h
      rw [bk_X0_safeByTurns_17]
      refine ⟨_, _, ob_8 R hk_v1, rfl, ?_⟩
      refine ⟨fun c4 => ?_, fun c4 => ?_⟩
      · have h := h.1 c4
        refine ⟨_, _, ob_0 R hk_v0, rfl, ?_⟩
        have k5 := wf_0_1 R hk_v0
        refine ⟨_, ob_7 R k5, t_X7_safe R k5 h (fun r6 h => ?_)⟩
        exact hp _ _ _ h R hE0
      · have h := h.2 c4
        refine ⟨_, ob_8 R hk_v1, t_X8_squallAt R hk_v1 h (fun r7 h => ?_)⟩
        refine ⟨fun c8 => ?_, fun c8 => ?_⟩
        · have h := h.1 c8
          exact J_48 _ _ _ _ _ _ h R hE0 (hk_v0) (hk_v1) 
        · have h := h.2 c8
          refine ⟨h.1, ?_⟩
          have h := h.2
          refine ⟨fun c9 => ?_, fun c9 => ?_⟩
          · have h := h.1 c9
            exact J_53 _ _ _ _ _ _ _ h R hE0 (hk_v0) (hk_v1) 
          · have h := h.2 c9
            exact J_48 _ _ _ _ _ _ h R hE0 (hk_v0) (hk_v1) 
  refine ⟨_, _, ob_0 R hk_v0, rfl, ?_⟩
  have k1 := wf_0_1 R hk_v0
  refine ⟨_, ob_7 R k1, (by decide : 0 < 3), fun X1 e1 => ?_⟩
  have h := h _ rfl
  have R := pu_7_0 R k1 e1
  obtain ⟨n3, h⟩ := h
  exact ⟨n3, J_17 n3 _ _ _ _ _ h R hE0 (hk_v0) (hk_v1) ⟩
def tp_X2_changeGive (st : TS) (post : Int32 → TY → Prop) (Y : TY) (v0 : Nat) (v1 : Int32) (v2 : Int32) : Prop := tp_X9_within st (fun r1 => (¬ r1 = 0 → vp_in v1 4 ∧ ∀ x3 : Int32, x3 = (tA Y v0 0 v1.toNatClampNeg) → vp_in v1 4 ∧ ∀ Y4 : TY, Y4 = sF Y v0 0 (upd (tA Y v0 0) v1.toNatClampNeg v2) → post x3 Y4) ∧ (r1 = 0 → post (-2 : Int32) Y)) Y v1 (1 : Int32) (3 : Int32)
set_option maxHeartbeats 4000000 in
set_option maxRecDepth 100000 in
theorem t_X2_changeGive {st : TS} {aa : Nat → Nat → Nat} {Y : TY} {X : Hp} {postT : Int32 → TY → Prop} {post : Int32 → Hp → Prop} {v0 : Nat} {v1 : Int32} {v2 : Int32} (R : Rel st aa Y X) (hk_v0 : tK Y v0 = 2) (h : tp_X2_changeGive st postT Y v0 v1 v2) (hp : ∀ (r : Int32) (Y' : TY) (X' : Hp), postT r Y' → Rel st aa Y' X' → (∀ a, tK Y' a = tK Y a) → post r X') : wp_X2_changeGive post X v0 v1 v2 := by
  unfold tp_X2_changeGive at h
  unfold wp_X2_changeGive
  have hE0 : ∀ a, tK Y a = tK Y a := fun a => rfl
  obtain ⟨Y0, hY0⟩ : ∃ Z : TY, Z = Y := ⟨_, rfl⟩
  have hE0 : ∀ a, tK Y a = tK Y0 a := by rw [hY0]; exact hE0
  rw [← hY0] at hp
  refine t_X9_within R  h (fun r1 h => ?_)
  refine ⟨fun c2 => ?_, fun c2 => ?_⟩
  · have h := h.1 c2
    refine ⟨_, _, ob_2 R hk_v0, rfl, ?_⟩
    refine ⟨_, _, ar_2_0 R hk_v0, h.1, ?_⟩
    have h := h.2
    intro x3 ex3
    have h := h x3 ex3
    refine ⟨_, _, ob_2 R hk_v0, rfl, ?_⟩
    refine ⟨_, _, ar_2_0 R hk_v0, h.1, fun X1 e1 => ?_⟩
    have h := h.2 _ rfl
    have R := as_2_0 R hk_v0 e1
    exact hp _ _ _ h R hE0
  · have h := h.2 c2
    exact hp _ _ _ h R hE0
def tp_X2_changeDeep (st : TS) (post : Int32 → TY → Prop) (Y : TY) (v0 : Nat) (v1 : Int32) (v2 : Int32) : Prop := tp_X9_within st (fun r1 => (¬ r1 = 0 → vp_in v1 4 ∧ ∀ x3 : Int32, x3 = (tA Y v0 1 v1.toNatClampNeg) → vp_in v1 4 ∧ ∀ Y4 : TY, Y4 = sF Y v0 1 (upd (tA Y v0 1) v1.toNatClampNeg v2) → post x3 Y4) ∧ (r1 = 0 → post (-2 : Int32) Y)) Y v1 (1 : Int32) (3 : Int32)
set_option maxHeartbeats 4000000 in
set_option maxRecDepth 100000 in
theorem t_X2_changeDeep {st : TS} {aa : Nat → Nat → Nat} {Y : TY} {X : Hp} {postT : Int32 → TY → Prop} {post : Int32 → Hp → Prop} {v0 : Nat} {v1 : Int32} {v2 : Int32} (R : Rel st aa Y X) (hk_v0 : tK Y v0 = 2) (h : tp_X2_changeDeep st postT Y v0 v1 v2) (hp : ∀ (r : Int32) (Y' : TY) (X' : Hp), postT r Y' → Rel st aa Y' X' → (∀ a, tK Y' a = tK Y a) → post r X') : wp_X2_changeDeep post X v0 v1 v2 := by
  unfold tp_X2_changeDeep at h
  unfold wp_X2_changeDeep
  have hE0 : ∀ a, tK Y a = tK Y a := fun a => rfl
  obtain ⟨Y0, hY0⟩ : ∃ Z : TY, Z = Y := ⟨_, rfl⟩
  have hE0 : ∀ a, tK Y a = tK Y0 a := by rw [hY0]; exact hE0
  rw [← hY0] at hp
  refine t_X9_within R  h (fun r1 h => ?_)
  refine ⟨fun c2 => ?_, fun c2 => ?_⟩
  · have h := h.1 c2
    refine ⟨_, _, ob_2 R hk_v0, rfl, ?_⟩
    refine ⟨_, _, ar_2_1 R hk_v0, h.1, ?_⟩
    have h := h.2
    intro x3 ex3
    have h := h x3 ex3
    refine ⟨_, _, ob_2 R hk_v0, rfl, ?_⟩
    refine ⟨_, _, ar_2_1 R hk_v0, h.1, fun X1 e1 => ?_⟩
    have h := h.2 _ rfl
    have R := as_2_1 R hk_v0 e1
    exact hp _ _ _ h R hE0
  · have h := h.2 c2
    exact hp _ _ _ h R hE0
def tp_X2_copy (st : TS) (post : TY → Prop) (Y : TY) (v0 : Nat) (v1 : Nat) : Prop := ¬ (0 : Int32) < 0 ∧ ¬ (0 : Int32) < 0 ∧ ¬ (nI 4) < 0 ∧ (0 : Int32).toNatClampNeg + (nI 4).toNatClampNeg ≤ 4 ∧ (0 : Int32).toNatClampNeg + (nI 4).toNatClampNeg ≤ 4 ∧ ∀ Y1 : TY, Y1 = sF Y v0 0 (va_cpy (tA Y v1 0) (tA Y v0 0) (0 : Int32).toNatClampNeg (0 : Int32).toNatClampNeg (nI 4).toNatClampNeg) → ¬ (0 : Int32) < 0 ∧ ¬ (0 : Int32) < 0 ∧ ¬ (nI 4) < 0 ∧ (0 : Int32).toNatClampNeg + (nI 4).toNatClampNeg ≤ 4 ∧ (0 : Int32).toNatClampNeg + (nI 4).toNatClampNeg ≤ 4 ∧ ∀ Y2 : TY, Y2 = sF Y1 v0 1 (va_cpy (tA Y1 v1 1) (tA Y1 v0 1) (0 : Int32).toNatClampNeg (0 : Int32).toNatClampNeg (nI 4).toNatClampNeg) → post Y2
set_option maxHeartbeats 4000000 in
set_option maxRecDepth 100000 in
theorem t_X2_copy {st : TS} {aa : Nat → Nat → Nat} {Y : TY} {X : Hp} {postT : TY → Prop} {post : Hp → Prop} {v0 : Nat} {v1 : Nat} (R : Rel st aa Y X) (hk_v0 : tK Y v0 = 2) (hk_v1 : tK Y v1 = 2) (h : tp_X2_copy st postT Y v0 v1) (hp : ∀ (Y' : TY) (X' : Hp), postT Y' → Rel st aa Y' X' → (∀ a, tK Y' a = tK Y a) → post X') : wp_X2_copy post X v0 v1 := by
  unfold tp_X2_copy at h
  unfold wp_X2_copy
  have hE0 : ∀ a, tK Y a = tK Y a := fun a => rfl
  obtain ⟨Y0, hY0⟩ : ∃ Z : TY, Z = Y := ⟨_, rfl⟩
  have hE0 : ∀ a, tK Y a = tK Y0 a := by rw [hY0]; exact hE0
  rw [← hY0] at hp
  refine ⟨_, _, ob_2 R hk_v1, rfl, ?_⟩
  refine ⟨_, _, ob_2 R hk_v0, rfl, ?_⟩
  refine ⟨_, _, ob_2 R hk_v0, rfl, ?_⟩
  refine ⟨_, _, ar_2_0 R hk_v0, ?_⟩
  obtain ⟨i1, i2, i3, i4, i5, h⟩ := h
  refine ⟨_, _, _, _, ar_2_0 R hk_v1, ar_2_0 R hk_v0, i1, i2, i3, i4, i5, fun X1 e1 => ?_⟩
  have h := h _ rfl
  have R := as_2_0 R hk_v0 e1
  refine ⟨_, _, ob_2 R hk_v1, rfl, ?_⟩
  refine ⟨_, _, ob_2 R hk_v0, rfl, ?_⟩
  refine ⟨_, _, ob_2 R hk_v0, rfl, ?_⟩
  refine ⟨_, _, ar_2_1 R hk_v0, ?_⟩
  obtain ⟨i1, i2, i3, i4, i5, h⟩ := h
  refine ⟨_, _, _, _, ar_2_1 R hk_v1, ar_2_1 R hk_v0, i1, i2, i3, i4, i5, fun X1 e1 => ?_⟩
  have h := h _ rfl
  have R := as_2_1 R hk_v0 e1
  exact hp _ _ h R hE0
def tp_X9_isOwed (st : TS) (post : Int32 → Prop) (Y : TY) (v0 : Int32) : Prop := tp_X9_within st (fun r1 => (r1 = 0 ∨ r1 = 1) ∧ post r1) Y v0 (0 : Int32) (20 : Int32)
set_option maxHeartbeats 4000000 in
set_option maxRecDepth 100000 in
theorem t_X9_isOwed {st : TS} {aa : Nat → Nat → Nat} {Y : TY} {X : Hp} {postT : Int32 → Prop} {post : Int32 → Prop} {v0 : Int32} (R : Rel st aa Y X)  (h : tp_X9_isOwed st postT Y v0) (hp : ∀ (r : Int32) , postT r → post r ) : wp_X9_isOwed post X v0 := by
  unfold tp_X9_isOwed at h
  unfold wp_X9_isOwed
  refine t_X9_within R  h (fun r1 h => ?_)
  obtain ⟨hz, h⟩ := h
  exact ⟨hz, hp _ h⟩
def tk_X6_readyFor_3 (st : TS) (post : TY → Prop) (v0 : Nat) (v1 : Nat) (v2 : Nat) (v3 : Int32) (v4 : Int32)  : Nat → TY → Int32 → Prop
  | 0, _, _ => False
  | k + 1, Y, b3_5 => ((10 : Int32) ≤ b3_5 → post Y) ∧ (¬ (10 : Int32) ≤ b3_5 → tp_X9_isOwed st (fun r3 => (r3 = 0 → post Y) ∧ (¬ r3 = 0 → ∀ x5 : Int32, x5 = ((b3_5 * (21 : Int32)) + v4) → ∀ x6 : Int32, x6 = (b3_5 / (2 : Int32)) → tp_X2_blindOf st (fun r7 => tp_X9_hoursOf st (fun r8 => tp_X2_owedBehind st (fun r9 => vp_in x5 210 ∧ ∀ Y10 : TY, Y10 = sF Y v0 0 (upd (tA Y v0 0) x5.toNatClampNeg (((v3 + r8) * (21 : Int32)) + r9)) → tp_X8_shipsAt st (fun r11 => vp_in x5 210 ∧ ∀ Y12 : TY, Y12 = sF Y10 v0 1 (upd (tA Y10 v0 1) x5.toNatClampNeg ((1000000 : Int32) - (r11 * r7))) → tp_X8_shipsAt st (fun r13 => vp_in x5 210 ∧ ∀ Y14 : TY, Y14 = sF Y12 v0 2 (upd (tA Y12 v0 2) x5.toNatClampNeg ((1000000 : Int32) - (r13 * r7))) → ∀ x15 : Int32, x15 = b3_5 + (1 : Int32) → (tk_X6_readyFor_3 st post v0 v1 v2 v3 v4 k) Y14 x15) Y12 v1 (v3 + (1 : Int32))) Y10 v1 v3) Y v2 v1 v3 v4 x6) Y x6) Y v2 b3_5 v4)) Y v4)
def tp_X6_readyFor (st : TS) (post : TY → Prop) (Y : TY) (v0 : Nat) (v1 : Nat) (v2 : Nat) (v3 : Int32) (v4 : Int32) : Prop := ∃ n1 : Nat, tk_X6_readyFor_3 st post v0 v1 v2 v3 v4 n1 Y (0 : Int32)
set_option maxHeartbeats 4000000 in
set_option maxRecDepth 100000 in
theorem t_X6_readyFor {st : TS} {aa : Nat → Nat → Nat} {Y : TY} {X : Hp} {postT : TY → Prop} {post : Hp → Prop} {v0 : Nat} {v1 : Nat} {v2 : Nat} {v3 : Int32} {v4 : Int32} (R : Rel st aa Y X) (hk_v0 : tK Y v0 = 6) (hk_v1 : tK Y v1 = 8) (hk_v2 : tK Y v2 = 2) (h : tp_X6_readyFor st postT Y v0 v1 v2 v3 v4) (hp : ∀ (Y' : TY) (X' : Hp), postT Y' → Rel st aa Y' X' → (∀ a, tK Y' a = tK Y a) → post X') : wp_X6_readyFor post X v0 v1 v2 v3 v4 := by
  unfold tp_X6_readyFor at h
  unfold wp_X6_readyFor
  have hE0 : ∀ a, tK Y a = tK Y a := fun a => rfl
  obtain ⟨Y0, hY0⟩ : ∃ Z : TY, Z = Y := ⟨_, rfl⟩
  have hE0 : ∀ a, tK Y a = tK Y0 a := by rw [hY0]; exact hE0
  rw [← hY0] at hp
  have J_3 : ∀ (n : Nat) (Y : TY) (b3_5 : Int32), ∀ (X : Hp) (_ : tk_X6_readyFor_3 st postT v0 v1 v2 v3 v4  n Y b3_5), Rel st aa Y X → (∀ a, tK Y a = tK Y0 a) → tK Y v0 = 6 → tK Y v1 = 8 → tK Y v2 = 2 → bk_X6_readyFor_3 post v0 v1 v2 v3 v4  n X b3_5 := by
    intro n
    induction n with
    | zero =>
      intro Y b3_5 X h R hE0 hk_v0 hk_v1 hk_v2 
      rw [tk_X6_readyFor_3] at h
      exact h.elim
    | succ n_3 ih_3 =>
      intro Y b3_5 X h R hE0 hk_v0 hk_v1 hk_v2 
      rw [tk_X6_readyFor_3] at h
      rw [bk_X6_readyFor_3]
      refine ⟨fun c2 => ?_, fun c2 => ?_⟩
      · have h := h.1 c2
        exact hp _ _ h R hE0
      · have h := h.2 c2
        refine t_X9_isOwed R  h (fun r3 h => ?_)
        refine ⟨fun c4 => ?_, fun c4 => ?_⟩
        · have h := h.1 c4
          exact hp _ _ h R hE0
        · have h := h.2 c4
          intro x5 ex5
          have h := h x5 ex5
          intro x6 ex6
          have h := h x6 ex6
          refine ⟨_, ob_2 R hk_v2, t_X2_blindOf R hk_v2 h (fun r7 h => ?_)⟩
          refine ⟨_, _, ob_6 R hk_v0, rfl, ?_⟩
          refine t_X9_hoursOf R  h (fun r8 h => ?_)
          refine ⟨_, ob_2 R hk_v2, t_X2_owedBehind R hk_v2 hk_v1 h (fun r9 h => ?_)⟩
          refine ⟨_, _, ar_6_0 R hk_v0, h.1, fun X1 e1 => ?_⟩
          have h := h.2 _ rfl
          have R := as_6_0 R hk_v0 e1
          refine ⟨_, _, ob_6 R hk_v0, rfl, ?_⟩
          refine ⟨_, ob_8 R hk_v1, t_X8_shipsAt R hk_v1 h (fun r11 h => ?_)⟩
          refine ⟨_, _, ar_6_1 R hk_v0, h.1, fun X1 e1 => ?_⟩
          have h := h.2 _ rfl
          have R := as_6_1 R hk_v0 e1
          refine ⟨_, _, ob_6 R hk_v0, rfl, ?_⟩
          refine ⟨_, ob_8 R hk_v1, t_X8_shipsAt R hk_v1 h (fun r13 h => ?_)⟩
          refine ⟨_, _, ar_6_2 R hk_v0, h.1, fun X1 e1 => ?_⟩
          have h := h.2 _ rfl
          have R := as_6_2 R hk_v0 e1
          intro x15 ex15
          have h := h x15 ex15
          exact ih_3 _ _ _ h R hE0 (hk_v0) (hk_v1) (hk_v2) 
  obtain ⟨n1, h⟩ := h
  exact ⟨n1, J_3 n1 _ _ _ h R hE0 (hk_v0) (hk_v1) (hk_v2) ⟩
def tk_X6_ready_3 (st : TS) (post : TY → Prop) (v0 : Nat) (v1 : Nat) (v2 : Nat) (v3 : Int32)  : Nat → TY → Int32 → Prop
  | 0, _, _ => False
  | k + 1, Y, b3_4 => ((21 : Int32) ≤ b3_4 → post Y) ∧ (¬ (21 : Int32) ≤ b3_4 → tp_X6_readyFor st (fun Y3 => ∀ x4 : Int32, x4 = b3_4 + (1 : Int32) → (tk_X6_ready_3 st post v0 v1 v2 v3 k) Y3 x4) Y v0 v1 v2 v3 b3_4)
def tp_X6_ready (st : TS) (post : TY → Prop) (Y : TY) (v0 : Nat) (v1 : Nat) (v2 : Nat) (v3 : Int32) : Prop := ∃ n1 : Nat, tk_X6_ready_3 st post v0 v1 v2 v3 n1 Y (0 : Int32)
set_option maxHeartbeats 4000000 in
set_option maxRecDepth 100000 in
theorem t_X6_ready {st : TS} {aa : Nat → Nat → Nat} {Y : TY} {X : Hp} {postT : TY → Prop} {post : Hp → Prop} {v0 : Nat} {v1 : Nat} {v2 : Nat} {v3 : Int32} (R : Rel st aa Y X) (hk_v0 : tK Y v0 = 6) (hk_v1 : tK Y v1 = 8) (hk_v2 : tK Y v2 = 2) (h : tp_X6_ready st postT Y v0 v1 v2 v3) (hp : ∀ (Y' : TY) (X' : Hp), postT Y' → Rel st aa Y' X' → (∀ a, tK Y' a = tK Y a) → post X') : wp_X6_ready post X v0 v1 v2 v3 := by
  unfold tp_X6_ready at h
  unfold wp_X6_ready
  have hE0 : ∀ a, tK Y a = tK Y a := fun a => rfl
  obtain ⟨Y0, hY0⟩ : ∃ Z : TY, Z = Y := ⟨_, rfl⟩
  have hE0 : ∀ a, tK Y a = tK Y0 a := by rw [hY0]; exact hE0
  rw [← hY0] at hp
  have J_3 : ∀ (n : Nat) (Y : TY) (b3_4 : Int32), ∀ (X : Hp) (_ : tk_X6_ready_3 st postT v0 v1 v2 v3  n Y b3_4), Rel st aa Y X → (∀ a, tK Y a = tK Y0 a) → tK Y v0 = 6 → tK Y v1 = 8 → tK Y v2 = 2 → bk_X6_ready_3 post v0 v1 v2 v3  n X b3_4 := by
    intro n
    induction n with
    | zero =>
      intro Y b3_4 X h R hE0 hk_v0 hk_v1 hk_v2 
      rw [tk_X6_ready_3] at h
      exact h.elim
    | succ n_3 ih_3 =>
      intro Y b3_4 X h R hE0 hk_v0 hk_v1 hk_v2 
      rw [tk_X6_ready_3] at h
      rw [bk_X6_ready_3]
      refine ⟨fun c2 => ?_, fun c2 => ?_⟩
      · have h := h.1 c2
        exact hp _ _ h R hE0
      · have h := h.2 c2
        refine ⟨_, ob_6 R hk_v0, t_X6_readyFor R hk_v0 hk_v1 hk_v2 h (fun Y X h R hE => ?_)⟩
        have hk_v0 := (hE _).trans hk_v0
        have hk_v1 := (hE _).trans hk_v1
        have hk_v2 := (hE _).trans hk_v2
        have hE0 := fun a => (hE a).trans (hE0 a)
        intro x4 ex4
        have h := h x4 ex4
        exact ih_3 _ _ _ h R hE0 (hk_v0) (hk_v1) (hk_v2) 
  obtain ⟨n1, h⟩ := h
  exact ⟨n1, J_3 n1 _ _ _ h R hE0 (hk_v0) (hk_v1) (hk_v2) ⟩
def tk_X6_safeBy_63 (st : TS) (post : Int32 → Prop) (Y : TY) (v0 : Nat) (v1 : Int32) (v2 : Int32) (v3 : Nat)  (b63_4 : Int32) (b63_5 : Int64) : Prop := vp_in b63_4 210 ∧ post (((b63_5 * ((tA Y v0 1 b63_4.toNatClampNeg).toInt64)) / (1000000 : Int64)).toInt32)
def tp_X6_safeBy (st : TS) (post : Int32 → Prop) (Y : TY) (v0 : Nat) (v1 : Int32) (v2 : Int32) (v3 : Nat) : Prop := ∀ x1 : Int32, x1 = ((v1 * (21 : Int32)) + v2) → (x1 < 0 → post (0 : Int32)) ∧ (¬ x1 < 0 → (x1 < (nI 210) → vp_in x1 210 ∧ tp_X5_at st (fun r4 => ∀ x5 : Int64, x5 = (r4.toInt64) → (¬ (v1 / (2 : Int32)) = (3 : Int32) → tk_X6_safeBy_63 st post Y v0 v1 v2 v3 x1 x5) ∧ ((v1 / (2 : Int32)) = (3 : Int32) → vp_in x1 210 ∧ ∀ x7 : Int64, x7 = ((x5 * ((tA Y v0 2 x1.toNatClampNeg).toInt64)) / (1000000 : Int64)) → tk_X6_safeBy_63 st post Y v0 v1 v2 v3 x1 x7)) Y v3 (tA Y v0 0 x1.toNatClampNeg)) ∧ (¬ x1 < (nI 210) → post (0 : Int32)))
set_option maxHeartbeats 4000000 in
set_option maxRecDepth 100000 in
theorem t_X6_safeBy {st : TS} {aa : Nat → Nat → Nat} {Y : TY} {X : Hp} {postT : Int32 → Prop} {post : Int32 → Prop} {v0 : Nat} {v1 : Int32} {v2 : Int32} {v3 : Nat} (R : Rel st aa Y X) (hk_v0 : tK Y v0 = 6) (hk_v3 : tK Y v3 = 5) (h : tp_X6_safeBy st postT Y v0 v1 v2 v3) (hp : ∀ (r : Int32) , postT r → post r ) : wp_X6_safeBy post X v0 v1 v2 v3 := by
  unfold tp_X6_safeBy at h
  unfold wp_X6_safeBy
  have J_63 : ∀ (b63_4 : Int32) (b63_5 : Int64), ∀ (_ : tk_X6_safeBy_63 st postT Y v0 v1 v2 v3  b63_4 b63_5), bk_X6_safeBy_63 post X v0 v1 v2 v3  b63_4 b63_5 := by
    intro b63_4 b63_5 h  
    unfold tk_X6_safeBy_63 at h
    unfold bk_X6_safeBy_63
    refine ⟨_, _, ob_6 R hk_v0, rfl, ?_⟩
    refine ⟨_, _, ar_6_1 R hk_v0, h.1, ?_⟩
    have h := h.2
    exact hp _ h
  intro x1 ex1
  have h := h x1 ex1
  refine ⟨fun c2 => ?_, fun c2 => ?_⟩
  · have h := h.1 c2
    exact hp _ h
  · have h := h.2 c2
    refine ⟨_, _, ob_6 R hk_v0, rfl, ?_⟩
    refine ⟨_, _, ar_6_0 R hk_v0, ?_⟩
    refine ⟨fun c3 => ?_, fun c3 => ?_⟩
    · have h := h.1 c3
      refine ⟨_, _, ob_6 R hk_v0, rfl, ?_⟩
      refine ⟨_, _, ar_6_0 R hk_v0, h.1, ?_⟩
      have h := h.2
      refine ⟨_, ob_5 R hk_v3, t_X5_at R hk_v3 h (fun r4 h => ?_)⟩
      intro x5 ex5
      have h := h x5 ex5
      refine ⟨fun c6 => ?_, fun c6 => ?_⟩
      · have h := h.1 c6
        exact J_63 _ _ h  
      · have h := h.2 c6
        refine ⟨_, _, ob_6 R hk_v0, rfl, ?_⟩
        refine ⟨_, _, ar_6_2 R hk_v0, h.1, ?_⟩
        have h := h.2
        intro x7 ex7
        have h := h x7 ex7
        exact J_63 _ _ h  
    · have h := h.2 c3
      exact hp _ h
