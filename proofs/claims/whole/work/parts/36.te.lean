def tk_X1_copy_2 (st : TS) (post : TY → Prop) (v0 : Nat) (v1 : Nat)  : Nat → TY → Int32 → Prop
  | 0, _, _ => False
  | k + 1, Y, b2_2 => ((2 : Int32) ≤ b2_2 → tp_X2_copy st (fun Y5 => post Y5) Y (st.1 v0 1) (st.1 v1 1)) ∧ (¬ (2 : Int32) ≤ b2_2 → vp_in b2_2 2 ∧ ∃ y6 : Nat, st.2 v0 0 b2_2.toNatClampNeg = some y6 ∧ vp_in b2_2 2 ∧ ∃ y7 : Nat, st.2 v1 0 b2_2.toNatClampNeg = some y7 ∧ tp_X8_copy st (fun Y8 => ∀ x9 : Int32, x9 = b2_2 + (1 : Int32) → (tk_X1_copy_2 st post v0 v1 k) Y8 x9) Y y6 y7)
def tp_X1_copy (st : TS) (post : TY → Prop) (Y : TY) (v0 : Nat) (v1 : Nat) : Prop := ∃ n1 : Nat, tk_X1_copy_2 st post v0 v1 n1 Y (0 : Int32)
set_option maxHeartbeats 4000000 in
set_option maxRecDepth 100000 in
theorem t_X1_copy {st : TS} {aa : Nat → Nat → Nat} {Y : TY} {X : Hp} {postT : TY → Prop} {post : Hp → Prop} {v0 : Nat} {v1 : Nat} (R : Rel st aa Y X) (hk_v0 : tK Y v0 = 1) (hk_v1 : tK Y v1 = 1) (h : tp_X1_copy st postT Y v0 v1) (hp : ∀ (Y' : TY) (X' : Hp), postT Y' → Rel st aa Y' X' → (∀ a, tK Y' a = tK Y a) → post X') : wp_X1_copy post X v0 v1 := by
  unfold tp_X1_copy at h
  unfold wp_X1_copy
  have hE0 : ∀ a, tK Y a = tK Y a := fun a => rfl
  obtain ⟨Y0, hY0⟩ : ∃ Z : TY, Z = Y := ⟨_, rfl⟩
  have hE0 : ∀ a, tK Y a = tK Y0 a := by rw [hY0]; exact hE0
  rw [← hY0] at hp
  have J_2 : ∀ (n : Nat) (Y : TY) (b2_2 : Int32), ∀ (X : Hp) (_ : tk_X1_copy_2 st postT v0 v1  n Y b2_2), Rel st aa Y X → (∀ a, tK Y a = tK Y0 a) → tK Y v0 = 1 → tK Y v1 = 1 → bk_X1_copy_2 post v0 v1  n X b2_2 := by
    intro n
    induction n with
    | zero =>
      intro Y b2_2 X h R hE0 hk_v0 hk_v1 
      rw [tk_X1_copy_2] at h
      exact h.elim
    | succ n_2 ih_2 =>
      intro Y b2_2 X h R hE0 hk_v0 hk_v1 
      rw [tk_X1_copy_2] at h
      rw [bk_X1_copy_2]
      refine ⟨fun c2 => ?_, fun c2 => ?_⟩
      · have h := h.1 c2
        refine ⟨_, _, ob_1 R hk_v0, rfl, ?_⟩
        have k3 := wf_1_1 R hk_v0
        refine ⟨_, _, ob_1 R hk_v1, rfl, ?_⟩
        have k4 := wf_1_1 R hk_v1
        refine ⟨_, ob_2 R k3, t_X2_copy R k3 k4 h (fun Y X h R hE => ?_)⟩
        have hk_v0 := (hE _).trans hk_v0
        have hk_v1 := (hE _).trans hk_v1
        have k3 := (hE _).trans k3
        have k4 := (hE _).trans k4
        have hE0 := fun a => (hE a).trans (hE0 a)
        exact hp _ _ h R hE0
      · have h := h.2 c2
        refine ⟨_, _, ob_1 R hk_v0, rfl, ?_⟩
        obtain ⟨hi, y6, qy6, h⟩ := h
        refine ⟨_, _, y6, ar_1_0 R hk_v0, hi, qy6, ?_⟩
        have ky6 := wf_1_0 R hk_v0 qy6
        refine ⟨_, _, ob_1 R hk_v1, rfl, ?_⟩
        obtain ⟨hi, y7, qy7, h⟩ := h
        refine ⟨_, _, y7, ar_1_0 R hk_v1, hi, qy7, ?_⟩
        have ky7 := wf_1_0 R hk_v1 qy7
        refine ⟨_, ob_8 R ky6, t_X8_copy R ky6 ky7 h (fun Y X h R hE => ?_)⟩
        have hk_v0 := (hE _).trans hk_v0
        have hk_v1 := (hE _).trans hk_v1
        have ky6 := (hE _).trans ky6
        have ky7 := (hE _).trans ky7
        have hE0 := fun a => (hE a).trans (hE0 a)
        intro x9 ex9
        have h := h x9 ex9
        exact ih_2 _ _ _ h R hE0 (hk_v0) (hk_v1) 
  obtain ⟨n1, h⟩ := h
  exact ⟨n1, J_2 n1 _ _ _ h R hE0 (hk_v0) (hk_v1) ⟩
def tp_X9_planOf (st : TS) (post : Option Nat → Prop) (Y : TY) (v0 : Nat) (v1 : Int32) : Prop := tp_X9_within st (fun r1 => (r1 = 0 → post none) ∧ (¬ r1 = 0 → vp_in v1 2 ∧ ∃ y3 : Nat, st.2 v0 3 v1.toNatClampNeg = some y3 ∧ post (some y3))) Y v1 (0 : Int32) (1 : Int32)
set_option maxHeartbeats 4000000 in
set_option maxRecDepth 100000 in
theorem t_X9_planOf {st : TS} {aa : Nat → Nat → Nat} {Y : TY} {X : Hp} {postT : Option Nat → Prop} {post : Option Nat → Prop} {v0 : Nat} {v1 : Int32} (R : Rel st aa Y X) (hk_v0 : tK Y v0 = 9) (h : tp_X9_planOf st postT Y v0 v1) (hp : ∀ (r : Option Nat) , postT r → (∀ b : Nat, r = some b → tK Y b = 4) → post r ) : wp_X9_planOf post X v0 v1 := by
  unfold tp_X9_planOf at h
  unfold wp_X9_planOf
  refine t_X9_within R  h (fun r1 h => ?_)
  refine ⟨fun c2 => ?_, fun c2 => ?_⟩
  · have h := h.1 c2
    exact hp _ h (fun _ q => by cases q)
  · have h := h.2 c2
    refine ⟨_, _, ob_9 R hk_v0, rfl, ?_⟩
    obtain ⟨hi, y3, qy3, h⟩ := h
    refine ⟨_, _, y3, ar_9_3 R hk_v0, hi, qy3, ?_⟩
    have ky3 := wf_9_3 R hk_v0 qy3
    exact hp _ h (fun _ q => by cases q; exact ky3)
def tp_X9_leg (st : TS) (post : Int32 → TY → Prop) (Y : TY) (v0 : Nat) (v1 : Int32) (v2 : Int32) (v3 : Int32) (v4 : Int32) : Prop := tp_X9_planOf st (fun r1 => (r1 = none → post (-1 : Int32) Y) ∧ (∀ y2 : Nat, r1 = some y2 → tp_X9_within st (fun r4 => (r4 = 0 → post (-2 : Int32) Y) ∧ (¬ r4 = 0 → tp_X9_within st (fun r6 => (r6 = 0 → post (-2 : Int32) Y) ∧ (¬ r6 = 0 → tp_X9_within st (fun r8 => (¬ r8 = 0 → tp_X8_hasRoom st (fun r11 => (¬ r11 = 0 → tp_X8_lengthen st (fun Y13 => tp_X4_forget st (fun Y14 => post (tI Y14 (st.1 y2 0) 1) Y14) Y13 y2) Y (st.1 y2 0) v2 v3 v4) ∧ (r11 = 0 → post (-4 : Int32) Y)) Y (st.1 y2 0) v2) ∧ (r8 = 0 → post (-2 : Int32) Y)) Y v4 (0 : Int32) (1 : Int32))) Y v3 (0 : Int32) (500 : Int32))) Y v2 (1 : Int32) (24 : Int32))) Y v0 v1
set_option maxHeartbeats 4000000 in
set_option maxRecDepth 100000 in
theorem t_X9_leg {st : TS} {aa : Nat → Nat → Nat} {Y : TY} {X : Hp} {postT : Int32 → TY → Prop} {post : Int32 → Hp → Prop} {v0 : Nat} {v1 : Int32} {v2 : Int32} {v3 : Int32} {v4 : Int32} (R : Rel st aa Y X) (hk_v0 : tK Y v0 = 9) (h : tp_X9_leg st postT Y v0 v1 v2 v3 v4) (hp : ∀ (r : Int32) (Y' : TY) (X' : Hp), postT r Y' → Rel st aa Y' X' → (∀ a, tK Y' a = tK Y a) → post r X') : wp_X9_leg post X v0 v1 v2 v3 v4 := by
  unfold tp_X9_leg at h
  unfold wp_X9_leg
  have hE0 : ∀ a, tK Y a = tK Y a := fun a => rfl
  obtain ⟨Y0, hY0⟩ : ∃ Z : TY, Z = Y := ⟨_, rfl⟩
  have hE0 : ∀ a, tK Y a = tK Y0 a := by rw [hY0]; exact hE0
  rw [← hY0] at hp
  refine ⟨_, ob_9 R hk_v0, t_X9_planOf R hk_v0 h (fun r1 h hq => ?_)⟩
  refine ⟨fun c3 => ?_, fun y2 c3 => ?_⟩
  · have h := h.1 c3
    exact hp _ _ _ h R hE0
  · have h := h.2 y2 c3
    have ky2 := hq y2 c3
    refine t_X9_within R  h (fun r4 h => ?_)
    refine ⟨fun c5 => ?_, fun c5 => ?_⟩
    · have h := h.1 c5
      exact hp _ _ _ h R hE0
    · have h := h.2 c5
      refine t_X9_within R  h (fun r6 h => ?_)
      refine ⟨fun c7 => ?_, fun c7 => ?_⟩
      · have h := h.1 c7
        exact hp _ _ _ h R hE0
      · have h := h.2 c7
        refine t_X9_within R  h (fun r8 h => ?_)
        refine ⟨fun c9 => ?_, fun c9 => ?_⟩
        · have h := h.1 c9
          refine ⟨_, _, ob_4 R ky2, rfl, ?_⟩
          have k10 := wf_4_0 R ky2
          refine ⟨_, ob_8 R k10, t_X8_hasRoom R k10 h (fun r11 h => ?_)⟩
          refine ⟨fun c12 => ?_, fun c12 => ?_⟩
          · have h := h.1 c12
            refine ⟨_, _, ob_4 R ky2, rfl, ?_⟩
            refine ⟨_, ob_8 R k10, t_X8_lengthen R k10 h (fun Y X h R hE => ?_)⟩
            have hk_v0 := (hE _).trans hk_v0
            have k10 := (hE _).trans k10
            have ky2 := (hE _).trans ky2
            have hE0 := fun a => (hE a).trans (hE0 a)
            refine ⟨_, ob_4 R ky2, t_X4_forget R ky2 h (fun Y X h R hE => ?_)⟩
            have hk_v0 := (hE _).trans hk_v0
            have k10 := (hE _).trans k10
            have ky2 := (hE _).trans ky2
            have hE0 := fun a => (hE a).trans (hE0 a)
            refine ⟨_, _, ob_4 R ky2, rfl, ?_⟩
            refine ⟨_, _, ob_8 R k10, rfl, ?_⟩
            exact hp _ _ _ h R hE0
          · have h := h.2 c12
            exact hp _ _ _ h R hE0
        · have h := h.2 c9
          exact hp _ _ _ h R hE0
def tp_X9_cut (st : TS) (post : Int32 → TY → Prop) (Y : TY) (v0 : Nat) (v1 : Int32) : Prop := tp_X9_planOf st (fun r1 => (r1 = none → post (-1 : Int32) Y) ∧ (∀ y2 : Nat, r1 = some y2 → (¬ (tI Y (st.1 y2 0) 0) = 0 → tp_X8_shorten st (fun Y6 => tp_X4_forget st (fun Y7 => post (tI Y7 (st.1 y2 0) 0) Y7) Y6 y2) Y (st.1 y2 0)) ∧ ((tI Y (st.1 y2 0) 0) = 0 → post (-5 : Int32) Y))) Y v0 v1
set_option maxHeartbeats 4000000 in
set_option maxRecDepth 100000 in
theorem t_X9_cut {st : TS} {aa : Nat → Nat → Nat} {Y : TY} {X : Hp} {postT : Int32 → TY → Prop} {post : Int32 → Hp → Prop} {v0 : Nat} {v1 : Int32} (R : Rel st aa Y X) (hk_v0 : tK Y v0 = 9) (h : tp_X9_cut st postT Y v0 v1) (hp : ∀ (r : Int32) (Y' : TY) (X' : Hp), postT r Y' → Rel st aa Y' X' → (∀ a, tK Y' a = tK Y a) → post r X') : wp_X9_cut post X v0 v1 := by
  unfold tp_X9_cut at h
  unfold wp_X9_cut
  have hE0 : ∀ a, tK Y a = tK Y a := fun a => rfl
  obtain ⟨Y0, hY0⟩ : ∃ Z : TY, Z = Y := ⟨_, rfl⟩
  have hE0 : ∀ a, tK Y a = tK Y0 a := by rw [hY0]; exact hE0
  rw [← hY0] at hp
  refine ⟨_, ob_9 R hk_v0, t_X9_planOf R hk_v0 h (fun r1 h hq => ?_)⟩
  refine ⟨fun c3 => ?_, fun y2 c3 => ?_⟩
  · have h := h.1 c3
    exact hp _ _ _ h R hE0
  · have h := h.2 y2 c3
    have ky2 := hq y2 c3
    refine ⟨_, _, ob_4 R ky2, rfl, ?_⟩
    have k4 := wf_4_0 R ky2
    refine ⟨_, _, ob_8 R k4, rfl, ?_⟩
    refine ⟨fun c5 => ?_, fun c5 => ?_⟩
    · have h := h.1 c5
      refine ⟨_, _, ob_4 R ky2, rfl, ?_⟩
      refine ⟨_, ob_8 R k4, t_X8_shorten R k4 h (fun Y X h R hE => ?_)⟩
      have hk_v0 := (hE _).trans hk_v0
      have k4 := (hE _).trans k4
      have ky2 := (hE _).trans ky2
      have hE0 := fun a => (hE a).trans (hE0 a)
      refine ⟨_, ob_4 R ky2, t_X4_forget R ky2 h (fun Y X h R hE => ?_)⟩
      have hk_v0 := (hE _).trans hk_v0
      have k4 := (hE _).trans k4
      have ky2 := (hE _).trans ky2
      have hE0 := fun a => (hE a).trans (hE0 a)
      refine ⟨_, _, ob_4 R ky2, rfl, ?_⟩
      refine ⟨_, _, ob_8 R k4, rfl, ?_⟩
      exact hp _ _ _ h R hE0
    · have h := h.2 c5
      exact hp _ _ _ h R hE0
def tp_X9_wayOf (st : TS) (post : Option Nat → Prop) (Y : TY) (v0 : Nat) (v1 : Int32) : Prop := tp_X9_within st (fun r1 => (r1 = 0 → post none) ∧ (¬ r1 = 0 → vp_in v1 2 ∧ ∃ y4 : Nat, st.2 (st.1 v0 0) 0 v1.toNatClampNeg = some y4 ∧ post (some y4))) Y v1 (0 : Int32) (1 : Int32)
set_option maxHeartbeats 4000000 in
set_option maxRecDepth 100000 in
theorem t_X9_wayOf {st : TS} {aa : Nat → Nat → Nat} {Y : TY} {X : Hp} {postT : Option Nat → Prop} {post : Option Nat → Prop} {v0 : Nat} {v1 : Int32} (R : Rel st aa Y X) (hk_v0 : tK Y v0 = 9) (h : tp_X9_wayOf st postT Y v0 v1) (hp : ∀ (r : Option Nat) , postT r → (∀ b : Nat, r = some b → tK Y b = 8) → post r ) : wp_X9_wayOf post X v0 v1 := by
  unfold tp_X9_wayOf at h
  unfold wp_X9_wayOf
  refine t_X9_within R  h (fun r1 h => ?_)
  refine ⟨fun c2 => ?_, fun c2 => ?_⟩
  · have h := h.1 c2
    exact hp _ h (fun _ q => by cases q)
  · have h := h.2 c2
    refine ⟨_, _, ob_9 R hk_v0, rfl, ?_⟩
    have k3 := wf_9_0 R hk_v0
    refine ⟨_, _, ob_1 R k3, rfl, ?_⟩
    obtain ⟨hi, y4, qy4, h⟩ := h
    refine ⟨_, _, y4, ar_1_0 R k3, hi, qy4, ?_⟩
    have ky4 := wf_1_0 R k3 qy4
    exact hp _ h (fun _ q => by cases q; exact ky4)
def tp_X9_about (st : TS) (post : Int32 → Prop) (Y : TY) (v0 : Nat) (v1 : Int32) (v2 : Int32) (v3 : Int32) : Prop := tp_X9_wayOf st (fun r1 => (r1 = none → post (-1 : Int32)) ∧ (∀ y2 : Nat, r1 = some y2 → tp_X8_hasLeg st (fun r4 => (¬ r4 = 0 → (v3 = (0 : Int32) → vp_in v2 8 ∧ post (tA Y y2 2 v2.toNatClampNeg)) ∧ (v3 = (1 : Int32) → vp_in v2 8 ∧ post (tA Y y2 3 v2.toNatClampNeg)) ∧ (v3 = (2 : Int32) → vp_in v2 8 ∧ post (tA Y y2 4 v2.toNatClampNeg)) ∧ (v3 = (3 : Int32) → tp_X8_firstHourOf st (fun r10 => post r10) Y y2 v2) ∧ (¬ v3 = (0 : Int32) ∧ ¬ v3 = (1 : Int32) ∧ ¬ v3 = (2 : Int32) ∧ ¬ v3 = (3 : Int32) → post (-2 : Int32))) ∧ (r4 = 0 → post (-1 : Int32))) Y y2 v2)) Y v0 v1
set_option maxHeartbeats 4000000 in
set_option maxRecDepth 100000 in
theorem t_X9_about {st : TS} {aa : Nat → Nat → Nat} {Y : TY} {X : Hp} {postT : Int32 → Prop} {post : Int32 → Prop} {v0 : Nat} {v1 : Int32} {v2 : Int32} {v3 : Int32} (R : Rel st aa Y X) (hk_v0 : tK Y v0 = 9) (h : tp_X9_about st postT Y v0 v1 v2 v3) (hp : ∀ (r : Int32) , postT r → post r ) : wp_X9_about post X v0 v1 v2 v3 := by
  unfold tp_X9_about at h
  unfold wp_X9_about
  refine ⟨_, ob_9 R hk_v0, t_X9_wayOf R hk_v0 h (fun r1 h hq => ?_)⟩
  refine ⟨fun c3 => ?_, fun y2 c3 => ?_⟩
  · have h := h.1 c3
    exact hp _ h
  · have h := h.2 y2 c3
    have ky2 := hq y2 c3
    refine ⟨_, ob_8 R ky2, t_X8_hasLeg R ky2 h (fun r4 h => ?_)⟩
    refine ⟨fun c5 => ?_, fun c5 => ?_⟩
    · have h := h.1 c5
      refine ⟨fun c6 => ?_, fun c7 => ?_, fun c8 => ?_, fun c9 => ?_, fun c11 => ?_⟩
      · have h := h.1 c6
        refine ⟨_, _, ob_8 R ky2, rfl, ?_⟩
        refine ⟨_, _, ar_8_2 R ky2, h.1, ?_⟩
        have h := h.2
        exact hp _ h
      · have h := h.2.1 c7
        refine ⟨_, _, ob_8 R ky2, rfl, ?_⟩
        refine ⟨_, _, ar_8_3 R ky2, h.1, ?_⟩
        have h := h.2
        exact hp _ h
      · have h := h.2.2.1 c8
        refine ⟨_, _, ob_8 R ky2, rfl, ?_⟩
        refine ⟨_, _, ar_8_4 R ky2, h.1, ?_⟩
        have h := h.2
        exact hp _ h
      · have h := h.2.2.2.1 c9
        refine ⟨_, ob_8 R ky2, t_X8_firstHourOf R ky2 h (fun r10 h => ?_)⟩
        exact hp _ h
      · have h := h.2.2.2.2 c11
        exact hp _ h
    · have h := h.2 c5
      exact hp _ h
def tk_X9_forgetPlans_2 (st : TS) (post : TY → Prop) (v0 : Nat)  : Nat → TY → Int32 → Prop
  | 0, _, _ => False
  | k + 1, Y, b2_1 => ((2 : Int32) ≤ b2_1 → post Y) ∧ (¬ (2 : Int32) ≤ b2_1 → vp_in b2_1 2 ∧ ∃ y3 : Nat, st.2 v0 3 b2_1.toNatClampNeg = some y3 ∧ tp_X4_forget st (fun Y4 => ∀ x5 : Int32, x5 = b2_1 + (1 : Int32) → (tk_X9_forgetPlans_2 st post v0 k) Y4 x5) Y y3)
def tp_X9_forgetPlans (st : TS) (post : TY → Prop) (Y : TY) (v0 : Nat) : Prop := ∃ n1 : Nat, tk_X9_forgetPlans_2 st post v0 n1 Y (0 : Int32)
set_option maxHeartbeats 4000000 in
set_option maxRecDepth 100000 in
theorem t_X9_forgetPlans {st : TS} {aa : Nat → Nat → Nat} {Y : TY} {X : Hp} {postT : TY → Prop} {post : Hp → Prop} {v0 : Nat} (R : Rel st aa Y X) (hk_v0 : tK Y v0 = 9) (h : tp_X9_forgetPlans st postT Y v0) (hp : ∀ (Y' : TY) (X' : Hp), postT Y' → Rel st aa Y' X' → (∀ a, tK Y' a = tK Y a) → post X') : wp_X9_forgetPlans post X v0 := by
  unfold tp_X9_forgetPlans at h
  unfold wp_X9_forgetPlans
  have hE0 : ∀ a, tK Y a = tK Y a := fun a => rfl
  obtain ⟨Y0, hY0⟩ : ∃ Z : TY, Z = Y := ⟨_, rfl⟩
  have hE0 : ∀ a, tK Y a = tK Y0 a := by rw [hY0]; exact hE0
  rw [← hY0] at hp
  have J_2 : ∀ (n : Nat) (Y : TY) (b2_1 : Int32), ∀ (X : Hp) (_ : tk_X9_forgetPlans_2 st postT v0  n Y b2_1), Rel st aa Y X → (∀ a, tK Y a = tK Y0 a) → tK Y v0 = 9 → bk_X9_forgetPlans_2 post v0  n X b2_1 := by
    intro n
    induction n with
    | zero =>
      intro Y b2_1 X h R hE0 hk_v0 
      rw [tk_X9_forgetPlans_2] at h
      exact h.elim
    | succ n_2 ih_2 =>
      intro Y b2_1 X h R hE0 hk_v0 
      rw [tk_X9_forgetPlans_2] at h
      rw [bk_X9_forgetPlans_2]
      refine ⟨fun c2 => ?_, fun c2 => ?_⟩
      · have h := h.1 c2
        exact hp _ _ h R hE0
      · have h := h.2 c2
        refine ⟨_, _, ob_9 R hk_v0, rfl, ?_⟩
        obtain ⟨hi, y3, qy3, h⟩ := h
        refine ⟨_, _, y3, ar_9_3 R hk_v0, hi, qy3, ?_⟩
        have ky3 := wf_9_3 R hk_v0 qy3
        refine ⟨_, ob_4 R ky3, t_X4_forget R ky3 h (fun Y X h R hE => ?_)⟩
        have hk_v0 := (hE _).trans hk_v0
        have ky3 := (hE _).trans ky3
        have hE0 := fun a => (hE a).trans (hE0 a)
        intro x5 ex5
        have h := h x5 ex5
        exact ih_2 _ _ _ h R hE0 (hk_v0) 
  obtain ⟨n1, h⟩ := h
  exact ⟨n1, J_2 n1 _ _ _ h R hE0 (hk_v0) ⟩
def tk_X9_nap_75 (st : TS) (post : Int32 → TY → Prop) (v0 : Nat) (v1 : Int32) (v2 : Int32) (v3 : Int32)  (Y : TY) (b75_s0 : Int32) : Prop := tp_X9_forgetPlans st (fun Y17 => post b75_s0 Y17) Y v0
def tk_X9_nap_35 (st : TS) (post : Int32 → TY → Prop) (v0 : Nat) (v1 : Int32) (v2 : Int32) (v3 : Int32)  (Y : TY) (b35_s0 : Int32) (b35_s1 : Int32) (b35_s2 : Int32) : Prop := tp_X9_within st (fun r6 => (¬ r6 = 0 → (¬ v2 = 0 → tp_X2_changeDeep st (fun r12 Y11 => tk_X9_nap_75 st post v0 v1 v2 v3 Y11 r12) Y (st.1 (st.1 v0 0) 1) v1 v3) ∧ (v2 = 0 → tp_X2_changeGive st (fun r16 Y15 => tk_X9_nap_75 st post v0 v1 v2 v3 Y15 r16) Y (st.1 (st.1 v0 0) 1) v1 v3)) ∧ (r6 = 0 → post (-2 : Int32) Y)) Y b35_s2 b35_s1 b35_s0
def tp_X9_nap (st : TS) (post : Int32 → TY → Prop) (Y : TY) (v0 : Nat) (v1 : Int32) (v2 : Int32) (v3 : Int32) : Prop := tp_X9_within st (fun r1 => (r1 = 0 → post (-2 : Int32) Y) ∧ (¬ r1 = 0 → tp_X9_within st (fun r3 => (¬ r3 = 0 → (¬ v2 = 0 → tk_X9_nap_35 st post v0 v1 v2 v3 Y (1000 : Int32) (0 : Int32) v3) ∧ (v2 = 0 → tk_X9_nap_35 st post v0 v1 v2 v3 Y (9 : Int32) (0 : Int32) v3)) ∧ (r3 = 0 → post (-2 : Int32) Y)) Y v2 (0 : Int32) (1 : Int32))) Y v1 (1 : Int32) (3 : Int32)
set_option maxHeartbeats 4000000 in
set_option maxRecDepth 100000 in
theorem t_X9_nap {st : TS} {aa : Nat → Nat → Nat} {Y : TY} {X : Hp} {postT : Int32 → TY → Prop} {post : Int32 → Hp → Prop} {v0 : Nat} {v1 : Int32} {v2 : Int32} {v3 : Int32} (R : Rel st aa Y X) (hk_v0 : tK Y v0 = 9) (h : tp_X9_nap st postT Y v0 v1 v2 v3) (hp : ∀ (r : Int32) (Y' : TY) (X' : Hp), postT r Y' → Rel st aa Y' X' → (∀ a, tK Y' a = tK Y a) → post r X') : wp_X9_nap post X v0 v1 v2 v3 := by
  unfold tp_X9_nap at h
  unfold wp_X9_nap
  have hE0 : ∀ a, tK Y a = tK Y a := fun a => rfl
  obtain ⟨Y0, hY0⟩ : ∃ Z : TY, Z = Y := ⟨_, rfl⟩
  have hE0 : ∀ a, tK Y a = tK Y0 a := by rw [hY0]; exact hE0
  rw [← hY0] at hp
  have J_75 : ∀ (Y : TY) (b75_s0 : Int32), ∀ (X : Hp) (_ : tk_X9_nap_75 st postT v0 v1 v2 v3  Y b75_s0), Rel st aa Y X → (∀ a, tK Y a = tK Y0 a) → tK Y v0 = 9 → bk_X9_nap_75 post v0 v1 v2 v3  X b75_s0 := by
    intro Y b75_s0 X h R hE0 hk_v0 
    unfold tk_X9_nap_75 at h
    unfold bk_X9_nap_75
    refine ⟨_, ob_9 R hk_v0, t_X9_forgetPlans R hk_v0 h (fun Y X h R hE => ?_)⟩
    have hk_v0 := (hE _).trans hk_v0
    have hE0 := fun a => (hE a).trans (hE0 a)
    exact hp _ _ _ h R hE0
  have J_35 : ∀ (Y : TY) (b35_s0 : Int32) (b35_s1 : Int32) (b35_s2 : Int32), ∀ (X : Hp) (_ : tk_X9_nap_35 st postT v0 v1 v2 v3  Y b35_s0 b35_s1 b35_s2), Rel st aa Y X → (∀ a, tK Y a = tK Y0 a) → tK Y v0 = 9 → bk_X9_nap_35 post v0 v1 v2 v3  X b35_s0 b35_s1 b35_s2 := by
    intro Y b35_s0 b35_s1 b35_s2 X h R hE0 hk_v0 
    unfold tk_X9_nap_35 at h
    unfold bk_X9_nap_35
    refine t_X9_within R  h (fun r6 h => ?_)
    refine ⟨fun c7 => ?_, fun c7 => ?_⟩
    · have h := h.1 c7
      refine ⟨fun c8 => ?_, fun c8 => ?_⟩
      · have h := h.1 c8
        refine ⟨_, _, ob_9 R hk_v0, rfl, ?_⟩
        have k9 := wf_9_0 R hk_v0
        refine ⟨_, _, ob_1 R k9, rfl, ?_⟩
        have k10 := wf_1_1 R k9
        refine ⟨_, ob_2 R k10, t_X2_changeDeep R k10 h (fun r12 Y X h R hE => ?_)⟩
        have hk_v0 := (hE _).trans hk_v0
        have k10 := (hE _).trans k10
        have k9 := (hE _).trans k9
        have hE0 := fun a => (hE a).trans (hE0 a)
        exact J_75 _ _ _ h R hE0 (hk_v0) 
      · have h := h.2 c8
        refine ⟨_, _, ob_9 R hk_v0, rfl, ?_⟩
        have k13 := wf_9_0 R hk_v0
        refine ⟨_, _, ob_1 R k13, rfl, ?_⟩
        have k14 := wf_1_1 R k13
        refine ⟨_, ob_2 R k14, t_X2_changeGive R k14 h (fun r16 Y X h R hE => ?_)⟩
        have hk_v0 := (hE _).trans hk_v0
        have k13 := (hE _).trans k13
        have k14 := (hE _).trans k14
        have hE0 := fun a => (hE a).trans (hE0 a)
        exact J_75 _ _ _ h R hE0 (hk_v0) 
    · have h := h.2 c7
      exact hp _ _ _ h R hE0
  refine t_X9_within R  h (fun r1 h => ?_)
  refine ⟨fun c2 => ?_, fun c2 => ?_⟩
  · have h := h.1 c2
    exact hp _ _ _ h R hE0
  · have h := h.2 c2
    refine t_X9_within R  h (fun r3 h => ?_)
    refine ⟨fun c4 => ?_, fun c4 => ?_⟩
    · have h := h.1 c4
      refine ⟨fun c5 => ?_, fun c5 => ?_⟩
      · have h := h.1 c5
        exact J_35 _ _ _ _ _ h R hE0 (hk_v0) 
      · have h := h.2 c5
        exact J_35 _ _ _ _ _ h R hE0 (hk_v0) 
    · have h := h.2 c4
      exact hp _ _ _ h R hE0
def tp_X9_isThing (st : TS) (post : Int32 → Prop) (Y : TY) (v0 : Int32) : Prop := tp_X9_within st (fun r1 => (r1 = 0 ∨ r1 = 1) ∧ post r1) Y v0 (0 : Int32) (4 : Int32)
set_option maxHeartbeats 4000000 in
set_option maxRecDepth 100000 in
theorem t_X9_isThing {st : TS} {aa : Nat → Nat → Nat} {Y : TY} {X : Hp} {postT : Int32 → Prop} {post : Int32 → Prop} {v0 : Int32} (R : Rel st aa Y X)  (h : tp_X9_isThing st postT Y v0) (hp : ∀ (r : Int32) , postT r → post r ) : wp_X9_isThing post X v0 := by
  unfold tp_X9_isThing at h
  unfold wp_X9_isThing
  refine t_X9_within R  h (fun r1 h => ?_)
  obtain ⟨hz, h⟩ := h
  exact ⟨hz, hp _ h⟩
def tp_X9_owed (st : TS) (post : Int32 → Prop) (Y : TY) (v0 : Nat) (v1 : Int32) (v2 : Int32) (v3 : Int32) (v4 : Int32) : Prop := tp_X9_wayOf st (fun r1 => (r1 = none → post (-1 : Int32)) ∧ (∀ y2 : Nat, r1 = some y2 → tp_X8_hasHour st (fun r4 => (r4 = 0 → post (-2 : Int32)) ∧ (¬ r4 = 0 → tp_X9_isOwed st (fun r6 => (r6 = 0 → post (-2 : Int32)) ∧ (¬ r6 = 0 → tp_X9_isThing st (fun r8 => (¬ r8 = 0 → tp_X8_lets st (fun r10 => (¬ r10 = 0 → tp_X2_owedBehind st (fun r14 => post r14) Y (st.1 (st.1 v0 0) 1) y2 v2 v3 v4) ∧ (r10 = 0 → post (-5 : Int32))) Y y2 v2 v4) ∧ (r8 = 0 → post (-2 : Int32))) Y v4)) Y v3)) Y y2 v2)) Y v0 v1
set_option maxHeartbeats 4000000 in
set_option maxRecDepth 100000 in
theorem t_X9_owed {st : TS} {aa : Nat → Nat → Nat} {Y : TY} {X : Hp} {postT : Int32 → Prop} {post : Int32 → Prop} {v0 : Nat} {v1 : Int32} {v2 : Int32} {v3 : Int32} {v4 : Int32} (R : Rel st aa Y X) (hk_v0 : tK Y v0 = 9) (h : tp_X9_owed st postT Y v0 v1 v2 v3 v4) (hp : ∀ (r : Int32) , postT r → post r ) : wp_X9_owed post X v0 v1 v2 v3 v4 := by
  unfold tp_X9_owed at h
  unfold wp_X9_owed
  refine ⟨_, ob_9 R hk_v0, t_X9_wayOf R hk_v0 h (fun r1 h hq => ?_)⟩
  refine ⟨fun c3 => ?_, fun y2 c3 => ?_⟩
  · have h := h.1 c3
    exact hp _ h
  · have h := h.2 y2 c3
    have ky2 := hq y2 c3
    refine ⟨_, ob_8 R ky2, t_X8_hasHour R ky2 h (fun r4 h => ?_)⟩
    refine ⟨fun c5 => ?_, fun c5 => ?_⟩
    · have h := h.1 c5
      exact hp _ h
    · have h := h.2 c5
      refine t_X9_isOwed R  h (fun r6 h => ?_)
      refine ⟨fun c7 => ?_, fun c7 => ?_⟩
      · have h := h.1 c7
        exact hp _ h
      · have h := h.2 c7
        refine t_X9_isThing R  h (fun r8 h => ?_)
        refine ⟨fun c9 => ?_, fun c9 => ?_⟩
        · have h := h.1 c9
          refine ⟨_, ob_8 R ky2, t_X8_lets R ky2 h (fun r10 h => ?_)⟩
          refine ⟨fun c11 => ?_, fun c11 => ?_⟩
          · have h := h.1 c11
            refine ⟨_, _, ob_9 R hk_v0, rfl, ?_⟩
            have k12 := wf_9_0 R hk_v0
            refine ⟨_, _, ob_1 R k12, rfl, ?_⟩
            have k13 := wf_1_1 R k12
            refine ⟨_, ob_2 R k13, t_X2_owedBehind R k13 ky2 h (fun r14 h => ?_)⟩
            exact hp _ h
          · have h := h.2 c11
            exact hp _ h
        · have h := h.2 c9
          exact hp _ h
def tp_X9_risk (st : TS) (post : Int32 → Prop) (Y : TY) (v0 : Nat) (v1 : Int32) (v2 : Int32) (v3 : Int32) (v4 : Int32) (v5 : Int32) : Prop := tp_X9_wayOf st (fun r1 => (r1 = none → post (-1 : Int32)) ∧ (∀ y2 : Nat, r1 = some y2 → tp_X8_hasHour st (fun r4 => (r4 = 0 → post (-2 : Int32)) ∧ (¬ r4 = 0 → tp_X9_isOwed st (fun r6 => (r6 = 0 → post (-2 : Int32)) ∧ (¬ r6 = 0 → tp_X9_isThing st (fun r8 => (r8 = 0 → post (-2 : Int32)) ∧ (¬ r8 = 0 → tp_X9_within st (fun r10 => (¬ r10 = 0 → ∀ x12 : Int32, x12 = (((2 : Int32) * v4) + v5) → (x12 = (1 : Int32) → post (-5 : Int32)) ∧ (¬ x12 = (1 : Int32) → tp_X8_lets st (fun r14 => (¬ r14 = 0 → tp_X8_shipsAt st (fun r16 => tp_X2_blindOf st (fun r19 => post (r16 * r19)) Y (st.1 (st.1 v0 0) 1) x12 v3) Y y2 v2) ∧ (r14 = 0 → post (-5 : Int32))) Y y2 v2 v4)) ∧ (r10 = 0 → post (-2 : Int32))) Y v5 (0 : Int32) (1 : Int32))) Y v4)) Y v3)) Y y2 v2)) Y v0 v1
set_option maxHeartbeats 4000000 in
set_option maxRecDepth 100000 in
theorem t_X9_risk {st : TS} {aa : Nat → Nat → Nat} {Y : TY} {X : Hp} {postT : Int32 → Prop} {post : Int32 → Prop} {v0 : Nat} {v1 : Int32} {v2 : Int32} {v3 : Int32} {v4 : Int32} {v5 : Int32} (R : Rel st aa Y X) (hk_v0 : tK Y v0 = 9) (h : tp_X9_risk st postT Y v0 v1 v2 v3 v4 v5) (hp : ∀ (r : Int32) , postT r → post r ) : wp_X9_risk post X v0 v1 v2 v3 v4 v5 := by
  unfold tp_X9_risk at h
  unfold wp_X9_risk
  refine ⟨_, ob_9 R hk_v0, t_X9_wayOf R hk_v0 h (fun r1 h hq => ?_)⟩
  refine ⟨fun c3 => ?_, fun y2 c3 => ?_⟩
  · have h := h.1 c3
    exact hp _ h
  · have h := h.2 y2 c3
    have ky2 := hq y2 c3
    refine ⟨_, ob_8 R ky2, t_X8_hasHour R ky2 h (fun r4 h => ?_)⟩
    refine ⟨fun c5 => ?_, fun c5 => ?_⟩
    · have h := h.1 c5
      exact hp _ h
    · have h := h.2 c5
      refine t_X9_isOwed R  h (fun r6 h => ?_)
      refine ⟨fun c7 => ?_, fun c7 => ?_⟩
      · have h := h.1 c7
        exact hp _ h
      · have h := h.2 c7
        refine t_X9_isThing R  h (fun r8 h => ?_)
        refine ⟨fun c9 => ?_, fun c9 => ?_⟩
        · have h := h.1 c9
          exact hp _ h
        · have h := h.2 c9
          refine t_X9_within R  h (fun r10 h => ?_)
          refine ⟨fun c11 => ?_, fun c11 => ?_⟩
          · have h := h.1 c11
            intro x12 ex12
            have h := h x12 ex12
            refine ⟨fun c13 => ?_, fun c13 => ?_⟩
            · have h := h.1 c13
              exact hp _ h
            · have h := h.2 c13
              refine ⟨_, ob_8 R ky2, t_X8_lets R ky2 h (fun r14 h => ?_)⟩
              refine ⟨fun c15 => ?_, fun c15 => ?_⟩
              · have h := h.1 c15
                refine ⟨_, ob_8 R ky2, t_X8_shipsAt R ky2 h (fun r16 h => ?_)⟩
                refine ⟨_, _, ob_9 R hk_v0, rfl, ?_⟩
                have k17 := wf_9_0 R hk_v0
                refine ⟨_, _, ob_1 R k17, rfl, ?_⟩
                have k18 := wf_1_1 R k17
                refine ⟨_, ob_2 R k18, t_X2_blindOf R k18 h (fun r19 h => ?_)⟩
                exact hp _ h
              · have h := h.2 c15
                exact hp _ h
          · have h := h.2 c11
            exact hp _ h
def tp_X9_say (st : TS) (post : Int32 → TY → Prop) (Y : TY) (v0 : Nat) (v1 : Int32) : Prop := tp_X9_within st (fun r1 => (¬ r1 = 0 → tp_X3_write st (fun r5 Y4 => (r5 = 0 → post (-4 : Int32) Y4) ∧ (¬ r5 = 0 → post (tI Y4 (st.1 v0 4) 0) Y4)) Y (st.1 v0 4) v1) ∧ (r1 = 0 → post (-2 : Int32) Y)) Y v1 (33 : Int32) (126 : Int32)
set_option maxHeartbeats 4000000 in
set_option maxRecDepth 100000 in
theorem t_X9_say {st : TS} {aa : Nat → Nat → Nat} {Y : TY} {X : Hp} {postT : Int32 → TY → Prop} {post : Int32 → Hp → Prop} {v0 : Nat} {v1 : Int32} (R : Rel st aa Y X) (hk_v0 : tK Y v0 = 9) (h : tp_X9_say st postT Y v0 v1) (hp : ∀ (r : Int32) (Y' : TY) (X' : Hp), postT r Y' → Rel st aa Y' X' → (∀ a, tK Y' a = tK Y a) → post r X') : wp_X9_say post X v0 v1 := by
  unfold tp_X9_say at h
  unfold wp_X9_say
  have hE0 : ∀ a, tK Y a = tK Y a := fun a => rfl
  obtain ⟨Y0, hY0⟩ : ∃ Z : TY, Z = Y := ⟨_, rfl⟩
  have hE0 : ∀ a, tK Y a = tK Y0 a := by rw [hY0]; exact hE0
  rw [← hY0] at hp
  refine t_X9_within R  h (fun r1 h => ?_)
  refine ⟨fun c2 => ?_, fun c2 => ?_⟩
  · have h := h.1 c2
    refine ⟨_, _, ob_9 R hk_v0, rfl, ?_⟩
    have k3 := wf_9_4 R hk_v0
    refine ⟨_, ob_3 R k3, t_X3_write R k3 h (fun r5 Y X h R hE => ?_)⟩
    have hk_v0 := (hE _).trans hk_v0
    have k3 := (hE _).trans k3
    have hE0 := fun a => (hE a).trans (hE0 a)
    refine ⟨fun c6 => ?_, fun c6 => ?_⟩
    · have h := h.1 c6
      exact hp _ _ _ h R hE0
    · have h := h.2 c6
      refine ⟨_, _, ob_9 R hk_v0, rfl, ?_⟩
      refine ⟨_, _, ob_3 R k3, rfl, ?_⟩
      exact hp _ _ _ h R hE0
  · have h := h.2 c2
    exact hp _ _ _ h R hE0
def tp_X9_wipe (st : TS) (post : Int32 → TY → Prop) (Y : TY) (v0 : Nat) : Prop := ∀ Y2 : TY, Y2 = sI Y (st.1 v0 4) 0 (0 : Int32) → post (tI Y (st.1 v0 4) 0) Y2
set_option maxHeartbeats 4000000 in
set_option maxRecDepth 100000 in
theorem t_X9_wipe {st : TS} {aa : Nat → Nat → Nat} {Y : TY} {X : Hp} {postT : Int32 → TY → Prop} {post : Int32 → Hp → Prop} {v0 : Nat} (R : Rel st aa Y X) (hk_v0 : tK Y v0 = 9) (h : tp_X9_wipe st postT Y v0) (hp : ∀ (r : Int32) (Y' : TY) (X' : Hp), postT r Y' → Rel st aa Y' X' → (∀ a, tK Y' a = tK Y a) → post r X') : wp_X9_wipe post X v0 := by
  unfold tp_X9_wipe at h
  unfold wp_X9_wipe
  have hE0 : ∀ a, tK Y a = tK Y a := fun a => rfl
  obtain ⟨Y0, hY0⟩ : ∃ Z : TY, Z = Y := ⟨_, rfl⟩
  have hE0 : ∀ a, tK Y a = tK Y0 a := by rw [hY0]; exact hE0
  rw [← hY0] at hp
  refine ⟨_, _, ob_9 R hk_v0, rfl, ?_⟩
  have k1 := wf_9_4 R hk_v0
  refine ⟨_, _, ob_3 R k1, rfl, ?_⟩
  refine ⟨_, _, ob_9 R hk_v0, rfl, ?_⟩
  refine ⟨_, ob_3 R k1, (by decide : 0 < 2), fun X1 e1 => ?_⟩
  have h := h _ rfl
  have R := pu_3_0 R k1 e1
  exact hp _ _ _ h R hE0
def tp_X9_fault (st : TS) (post : Int32 → Prop) (Y : TY) (v0 : Nat) : Prop := tp_X3_faultPlace st (fun r2 => post r2) Y (st.1 v0 4)
set_option maxHeartbeats 4000000 in
set_option maxRecDepth 100000 in
theorem t_X9_fault {st : TS} {aa : Nat → Nat → Nat} {Y : TY} {X : Hp} {postT : Int32 → Prop} {post : Int32 → Prop} {v0 : Nat} (R : Rel st aa Y X) (hk_v0 : tK Y v0 = 9) (h : tp_X9_fault st postT Y v0) (hp : ∀ (r : Int32) , postT r → post r ) : wp_X9_fault post X v0 := by
  unfold tp_X9_fault at h
  unfold wp_X9_fault
  refine ⟨_, _, ob_9 R hk_v0, rfl, ?_⟩
  have k1 := wf_9_4 R hk_v0
  refine ⟨_, ob_3 R k1, t_X3_faultPlace R k1 h (fun r2 h => ?_)⟩
  exact hp _ h
def tp_X9_isBattery (st : TS) (post : Int32 → Prop) (Y : TY) (v0 : Int32) : Prop := tp_X9_within st (fun r1 => (r1 = 0 ∨ r1 = 1) ∧ post r1) Y v0 (0 : Int32) (24 : Int32)
set_option maxHeartbeats 4000000 in
set_option maxRecDepth 100000 in
theorem t_X9_isBattery {st : TS} {aa : Nat → Nat → Nat} {Y : TY} {X : Hp} {postT : Int32 → Prop} {post : Int32 → Prop} {v0 : Int32} (R : Rel st aa Y X)  (h : tp_X9_isBattery st postT Y v0) (hp : ∀ (r : Int32) , postT r → post r ) : wp_X9_isBattery post X v0 := by
  unfold tp_X9_isBattery at h
  unfold wp_X9_isBattery
  refine t_X9_within R  h (fun r1 h => ?_)
  obtain ⟨hz, h⟩ := h
  exact ⟨hz, hp _ h⟩
def tp_X9_judge (st : TS) (post : Int32 → TY → Prop) (Y : TY) (v0 : Nat) (v1 : Int32) (v2 : Int32) (v3 : Int32) (v4 : Int32) : Prop := tp_X9_wayOf st (fun r1 => (r1 = none → post (-1 : Int32) Y) ∧ (∀ y2 : Nat, r1 = some y2 → tp_X9_isOwed st (fun r4 => (r4 = 0 → post (-2 : Int32) Y) ∧ (¬ r4 = 0 → tp_X9_isBattery st (fun r6 => (r6 = 0 → post (-2 : Int32) Y) ∧ (¬ r6 = 0 → tp_X9_within st (fun r8 => (¬ r8 = 0 → tp_X3_faultPlace st (fun r11 => (r11 = (-6 : Int32) → tp_X0_setOut st (fun Y14 => tp_X0_sailBy st (fun r16 Y15 => (v4 = (0 : Int32) → post r16 Y15) ∧ (v4 = (1 : Int32) → post (tI Y15 (st.1 (st.1 v0 5) 1) 0) Y15) ∧ (v4 = (2 : Int32) → post (tI Y15 (st.1 v0 5) 4) Y15) ∧ (v4 = (3 : Int32) → tp_X7_safe st (fun r23 => post r23 Y15) Y15 (st.1 (st.1 v0 5) 1)) ∧ (v4 = (4 : Int32) → tp_X7_riskiest st (fun r26 => post r26 Y15) Y15 (st.1 (st.1 v0 5) 1)) ∧ (v4 = (5 : Int32) → post (tI Y15 (st.1 v0 5) 3) Y15) ∧ (¬ v4 = (0 : Int32) ∧ ¬ v4 = (1 : Int32) ∧ ¬ v4 = (2 : Int32) ∧ ¬ v4 = (3 : Int32) ∧ ¬ v4 = (4 : Int32) ∧ ¬ v4 = (5 : Int32) → post (tI Y15 (st.1 v0 5) 5) Y15)) Y14 (st.1 v0 5) (st.1 v0 4)) Y (st.1 v0 5) y2 v2 v3) ∧ (¬ r11 = (-6 : Int32) → post (-5 : Int32) Y)) Y (st.1 v0 4)) ∧ (r8 = 0 → post (-2 : Int32) Y)) Y v4 (0 : Int32) (6 : Int32))) Y v3)) Y v2)) Y v0 v1
set_option maxHeartbeats 4000000 in
set_option maxRecDepth 100000 in
theorem t_X9_judge {st : TS} {aa : Nat → Nat → Nat} {Y : TY} {X : Hp} {postT : Int32 → TY → Prop} {post : Int32 → Hp → Prop} {v0 : Nat} {v1 : Int32} {v2 : Int32} {v3 : Int32} {v4 : Int32} (R : Rel st aa Y X) (hk_v0 : tK Y v0 = 9) (h : tp_X9_judge st postT Y v0 v1 v2 v3 v4) (hp : ∀ (r : Int32) (Y' : TY) (X' : Hp), postT r Y' → Rel st aa Y' X' → (∀ a, tK Y' a = tK Y a) → post r X') : wp_X9_judge post X v0 v1 v2 v3 v4 := by
  unfold tp_X9_judge at h
  unfold wp_X9_judge
  have hE0 : ∀ a, tK Y a = tK Y a := fun a => rfl
  obtain ⟨Y0, hY0⟩ : ∃ Z : TY, Z = Y := ⟨_, rfl⟩
  have hE0 : ∀ a, tK Y a = tK Y0 a := by rw [hY0]; exact hE0
  rw [← hY0] at hp
  refine ⟨_, ob_9 R hk_v0, t_X9_wayOf R hk_v0 h (fun r1 h hq => ?_)⟩
  refine ⟨fun c3 => ?_, fun y2 c3 => ?_⟩
  · have h := h.1 c3
    exact hp _ _ _ h R hE0
  · have h := h.2 y2 c3
    have ky2 := hq y2 c3
    refine t_X9_isOwed R  h (fun r4 h => ?_)
    refine ⟨fun c5 => ?_, fun c5 => ?_⟩
    · have h := h.1 c5
      exact hp _ _ _ h R hE0
    · have h := h.2 c5
      refine t_X9_isBattery R  h (fun r6 h => ?_)
      refine ⟨fun c7 => ?_, fun c7 => ?_⟩
      · have h := h.1 c7
        exact hp _ _ _ h R hE0
      · have h := h.2 c7
        refine t_X9_within R  h (fun r8 h => ?_)
        refine ⟨fun c9 => ?_, fun c9 => ?_⟩
        · have h := h.1 c9
          refine ⟨_, _, ob_9 R hk_v0, rfl, ?_⟩
          have k10 := wf_9_4 R hk_v0
          refine ⟨_, ob_3 R k10, t_X3_faultPlace R k10 h (fun r11 h => ?_)⟩
          refine ⟨fun c12 => ?_, fun c12 => ?_⟩
          · have h := h.1 c12
            refine ⟨_, _, ob_9 R hk_v0, rfl, ?_⟩
            have k13 := wf_9_5 R hk_v0
            refine ⟨_, ob_0 R k13, t_X0_setOut R k13 ky2 h (fun Y X h R hE => ?_)⟩
            have hk_v0 := (hE _).trans hk_v0
            have k10 := (hE _).trans k10
            have k13 := (hE _).trans k13
            have ky2 := (hE _).trans ky2
            have hE0 := fun a => (hE a).trans (hE0 a)
            refine ⟨_, _, ob_9 R hk_v0, rfl, ?_⟩
            refine ⟨_, _, ob_9 R hk_v0, rfl, ?_⟩
            refine ⟨_, ob_0 R k13, t_X0_sailBy R k13 k10 h (fun r16 Y X h R hE => ?_)⟩
            have hk_v0 := (hE _).trans hk_v0
            have k10 := (hE _).trans k10
            have k13 := (hE _).trans k13
            have ky2 := (hE _).trans ky2
            have hE0 := fun a => (hE a).trans (hE0 a)
            refine ⟨fun c17 => ?_, fun c18 => ?_, fun c20 => ?_, fun c21 => ?_, fun c24 => ?_, fun c27 => ?_, fun c28 => ?_⟩
            · have h := h.1 c17
              exact hp _ _ _ h R hE0
            · have h := h.2.1 c18
              refine ⟨_, _, ob_9 R hk_v0, rfl, ?_⟩
              refine ⟨_, _, ob_0 R k13, rfl, ?_⟩
              have k19 := wf_0_1 R k13
              refine ⟨_, _, ob_7 R k19, rfl, ?_⟩
              exact hp _ _ _ h R hE0
            · have h := h.2.2.1 c20
              refine ⟨_, _, ob_9 R hk_v0, rfl, ?_⟩
              refine ⟨_, _, ob_0 R k13, rfl, ?_⟩
              exact hp _ _ _ h R hE0
            · have h := h.2.2.2.1 c21
              refine ⟨_, _, ob_9 R hk_v0, rfl, ?_⟩
              refine ⟨_, _, ob_0 R k13, rfl, ?_⟩
              have k22 := wf_0_1 R k13
              refine ⟨_, ob_7 R k22, t_X7_safe R k22 h (fun r23 h => ?_)⟩
              exact hp _ _ _ h R hE0
            · have h := h.2.2.2.2.1 c24
              refine ⟨_, _, ob_9 R hk_v0, rfl, ?_⟩
              refine ⟨_, _, ob_0 R k13, rfl, ?_⟩
              have k25 := wf_0_1 R k13
              refine ⟨_, ob_7 R k25, t_X7_riskiest R k25 h (fun r26 h => ?_)⟩
              exact hp _ _ _ h R hE0
            · have h := h.2.2.2.2.2.1 c27
              refine ⟨_, _, ob_9 R hk_v0, rfl, ?_⟩
              refine ⟨_, _, ob_0 R k13, rfl, ?_⟩
              exact hp _ _ _ h R hE0
            · have h := h.2.2.2.2.2.2 c28
              refine ⟨_, _, ob_9 R hk_v0, rfl, ?_⟩
              refine ⟨_, _, ob_0 R k13, rfl, ?_⟩
              exact hp _ _ _ h R hE0
          · have h := h.2 c12
            exact hp _ _ _ h R hE0
        · have h := h.2 c9
          exact hp _ _ _ h R hE0
def tp_X9_best (st : TS) (post : Int32 → TY → Prop) (mc ms : Nat) (Y : TY) (v0 : Nat) (v1 : Int32) (v2 : Int32) (v3 : Int32) (v4 : Int32) (v5 : Int32) : Prop := 0 ≤ mc ∧ 0 ≤ ms ∧ tp_X9_planOf st (fun r1 => (r1 = none → 0 ≤ mc ∧ 0 ≤ ms ∧ post (-1 : Int32) Y) ∧ (∀ y2 : Nat, r1 = some y2 → 0 ≤ mc ∧ 0 ≤ ms ∧ tp_X4_reaches st (fun r4 => (r4 = 0 → 0 ≤ mc ∧ 0 ≤ ms ∧ post (-2 : Int32) Y) ∧ (¬ r4 = 0 → 0 ≤ mc ∧ 0 ≤ ms ∧ tp_X9_isOwed st (fun r6 => (r6 = 0 → 0 ≤ mc ∧ 0 ≤ ms ∧ post (-2 : Int32) Y) ∧ (¬ r6 = 0 → 0 ≤ mc ∧ 0 ≤ ms ∧ tp_X9_isBattery st (fun r8 => (¬ r8 = 0 → ∃ m10 m11 : Nat, 0 + m10 ≤ mc ∧ 0 + m11 ≤ ms ∧ tp_X4_bestFrom st (fun r13 Y12 => (0 + m10) ≤ mc ∧ (0 + m11) ≤ ms ∧ post r13 Y12) m10 m11 Y y2 v2 v3 v4 v5) ∧ (r8 = 0 → 0 ≤ mc ∧ 0 ≤ ms ∧ post (-2 : Int32) Y)) Y v4)) Y v3)) Y y2 v2 v5)) Y v0 v1
set_option maxHeartbeats 4000000 in
set_option maxRecDepth 100000 in
theorem t_X9_best {st : TS} {aa : Nat → Nat → Nat} {Y : TY} {X : Hp} {postT : Int32 → TY → Prop} {post : Int32 → Hp → Prop} {mc ms : Nat} {v0 : Nat} {v1 : Int32} {v2 : Int32} {v3 : Int32} {v4 : Int32} {v5 : Int32} (R : Rel st aa Y X) (hk_v0 : tK Y v0 = 9) (h : tp_X9_best st postT mc ms Y v0 v1 v2 v3 v4 v5) (hp : ∀ (r : Int32) (Y' : TY) (X' : Hp) (aa' : Nat → Nat → Nat), postT r Y' → Rel st aa' Y' X' → (∀ a, tK Y a < 11 → tK Y' a = tK Y a) → post r X') : wp_X9_best post mc ms X v0 v1 v2 v3 v4 v5 := by
  unfold tp_X9_best at h
  unfold wp_X9_best
  have hE0 : ∀ a, tK Y a < 11 → tK Y a = tK Y a := fun a _ => rfl
  obtain ⟨Y0, hY0⟩ : ∃ Z : TY, Z = Y := ⟨_, rfl⟩
  have hE0 : ∀ a, tK Y0 a < 11 → tK Y a = tK Y0 a := by rw [hY0]; exact hE0
  rw [← hY0] at hp
  obtain ⟨hq1, hq2, h⟩ := h
  refine ⟨_, ob_9 R hk_v0, hq1, hq2, t_X9_planOf R hk_v0 h (fun r1 h hq => ?_)⟩
  refine ⟨fun c3 => ?_, fun y2 c3 => ?_⟩
  · have h := h.1 c3
    obtain ⟨hq1, hq2, h⟩ := h
    exact ⟨hq1, hq2, hp _ _ _ _ h R hE0⟩
  · have h := h.2 y2 c3
    have ky2 := hq y2 c3
    obtain ⟨hq1, hq2, h⟩ := h
    refine ⟨_, ob_4 R ky2, hq1, hq2, t_X4_reaches R ky2 h (fun r4 h => ?_)⟩
    refine ⟨fun c5 => ?_, fun c5 => ?_⟩
    · have h := h.1 c5
      obtain ⟨hq1, hq2, h⟩ := h
      exact ⟨hq1, hq2, hp _ _ _ _ h R hE0⟩
    · have h := h.2 c5
      obtain ⟨hq1, hq2, h⟩ := h
      refine ⟨hq1, hq2, t_X9_isOwed R  h (fun r6 h => ?_)⟩
      refine ⟨fun c7 => ?_, fun c7 => ?_⟩
      · have h := h.1 c7
        obtain ⟨hq1, hq2, h⟩ := h
        exact ⟨hq1, hq2, hp _ _ _ _ h R hE0⟩
      · have h := h.2 c7
        obtain ⟨hq1, hq2, h⟩ := h
        refine ⟨hq1, hq2, t_X9_isBattery R  h (fun r8 h => ?_)⟩
        refine ⟨fun c9 => ?_, fun c9 => ?_⟩
        · have h := h.1 c9
          obtain ⟨m10, m11, hm1, hm2, h⟩ := h
          refine ⟨_, ob_4 R ky2, m10, m11, hm1, hm2, t_X4_bestFrom R ky2 h (fun r13 Y X aa h R hE => ?_)⟩
          have hk_v0 := (hE _ (by rw [hk_v0]; decide)).trans hk_v0
          have ky2 := (hE _ (by rw [ky2]; decide)).trans ky2
          have hE0 := fun a q => (hE a (by rw [hE0 a q]; exact q)).trans (hE0 a q)
          obtain ⟨hq1, hq2, h⟩ := h
          exact ⟨hq1, hq2, hp _ _ _ _ h R hE0⟩
        · have h := h.2 c9
          obtain ⟨hq1, hq2, h⟩ := h
          exact ⟨hq1, hq2, hp _ _ _ _ h R hE0⟩
def tp_X9_does (st : TS) (post : Int32 → TY → Prop) (mc ms : Nat) (Y : TY) (v0 : Nat) (v1 : Int32) (v2 : Int32) (v3 : Int32) (v4 : Int32) (v5 : Int32) : Prop := 0 ≤ mc ∧ 0 ≤ ms ∧ tp_X9_planOf st (fun r1 => (r1 = none → 0 ≤ mc ∧ 0 ≤ ms ∧ post (-1 : Int32) Y) ∧ (∀ y2 : Nat, r1 = some y2 → 0 ≤ mc ∧ 0 ≤ ms ∧ tp_X4_reaches st (fun r4 => (r4 = 0 → 0 ≤ mc ∧ 0 ≤ ms ∧ post (-2 : Int32) Y) ∧ (¬ r4 = 0 → 0 ≤ mc ∧ 0 ≤ ms ∧ tp_X9_isOwed st (fun r6 => (r6 = 0 → 0 ≤ mc ∧ 0 ≤ ms ∧ post (-2 : Int32) Y) ∧ (¬ r6 = 0 → 0 ≤ mc ∧ 0 ≤ ms ∧ tp_X9_isBattery st (fun r8 => (¬ r8 = 0 → ∃ m10 m11 : Nat, 0 + m10 ≤ mc ∧ 0 + m11 ≤ ms ∧ tp_X4_firstDeed st (fun r13 Y12 => (0 + m10) ≤ mc ∧ (0 + m11) ≤ ms ∧ tp_X9_codeOf st (fun r14 => (0 + m10) ≤ mc ∧ (0 + m11) ≤ ms ∧ post r14 Y12) Y12 r13) m10 m11 Y y2 v2 v3 v4 v5) ∧ (r8 = 0 → 0 ≤ mc ∧ 0 ≤ ms ∧ post (-2 : Int32) Y)) Y v4)) Y v3)) Y y2 v2 v5)) Y v0 v1
set_option maxHeartbeats 4000000 in
set_option maxRecDepth 100000 in
theorem t_X9_does {st : TS} {aa : Nat → Nat → Nat} {Y : TY} {X : Hp} {postT : Int32 → TY → Prop} {post : Int32 → Hp → Prop} {mc ms : Nat} {v0 : Nat} {v1 : Int32} {v2 : Int32} {v3 : Int32} {v4 : Int32} {v5 : Int32} (R : Rel st aa Y X) (hk_v0 : tK Y v0 = 9) (h : tp_X9_does st postT mc ms Y v0 v1 v2 v3 v4 v5) (hp : ∀ (r : Int32) (Y' : TY) (X' : Hp) (aa' : Nat → Nat → Nat), postT r Y' → Rel st aa' Y' X' → (∀ a, tK Y a < 11 → tK Y' a = tK Y a) → post r X') : wp_X9_does post mc ms X v0 v1 v2 v3 v4 v5 := by
  unfold tp_X9_does at h
  unfold wp_X9_does
  have hE0 : ∀ a, tK Y a < 11 → tK Y a = tK Y a := fun a _ => rfl
  obtain ⟨Y0, hY0⟩ : ∃ Z : TY, Z = Y := ⟨_, rfl⟩
  have hE0 : ∀ a, tK Y0 a < 11 → tK Y a = tK Y0 a := by rw [hY0]; exact hE0
  rw [← hY0] at hp
  obtain ⟨hq1, hq2, h⟩ := h
  refine ⟨_, ob_9 R hk_v0, hq1, hq2, t_X9_planOf R hk_v0 h (fun r1 h hq => ?_)⟩
  refine ⟨fun c3 => ?_, fun y2 c3 => ?_⟩
  · have h := h.1 c3
    obtain ⟨hq1, hq2, h⟩ := h
    exact ⟨hq1, hq2, hp _ _ _ _ h R hE0⟩
  · have h := h.2 y2 c3
    have ky2 := hq y2 c3
    obtain ⟨hq1, hq2, h⟩ := h
    refine ⟨_, ob_4 R ky2, hq1, hq2, t_X4_reaches R ky2 h (fun r4 h => ?_)⟩
    refine ⟨fun c5 => ?_, fun c5 => ?_⟩
    · have h := h.1 c5
      obtain ⟨hq1, hq2, h⟩ := h
      exact ⟨hq1, hq2, hp _ _ _ _ h R hE0⟩
    · have h := h.2 c5
      obtain ⟨hq1, hq2, h⟩ := h
      refine ⟨hq1, hq2, t_X9_isOwed R  h (fun r6 h => ?_)⟩
      refine ⟨fun c7 => ?_, fun c7 => ?_⟩
      · have h := h.1 c7
        obtain ⟨hq1, hq2, h⟩ := h
        exact ⟨hq1, hq2, hp _ _ _ _ h R hE0⟩
      · have h := h.2 c7
        obtain ⟨hq1, hq2, h⟩ := h
        refine ⟨hq1, hq2, t_X9_isBattery R  h (fun r8 h => ?_)⟩
        refine ⟨fun c9 => ?_, fun c9 => ?_⟩
        · have h := h.1 c9
          obtain ⟨m10, m11, hm1, hm2, h⟩ := h
          refine ⟨_, ob_4 R ky2, m10, m11, hm1, hm2, t_X4_firstDeed R ky2 h (fun r13 Y X aa h R hE => ?_)⟩
          have hk_v0 := (hE _ (by rw [hk_v0]; decide)).trans hk_v0
          have ky2 := (hE _ (by rw [ky2]; decide)).trans ky2
          have hE0 := fun a q => (hE a (by rw [hE0 a q]; exact q)).trans (hE0 a q)
          obtain ⟨hq1, hq2, h⟩ := h
          refine ⟨hq1, hq2, t_X9_codeOf R  h (fun r14 h => ?_)⟩
          obtain ⟨hq1, hq2, h⟩ := h
          exact ⟨hq1, hq2, hp _ _ _ _ h R hE0⟩
        · have h := h.2 c9
          obtain ⟨hq1, hq2, h⟩ := h
          exact ⟨hq1, hq2, hp _ _ _ _ h R hE0⟩
def tp_X9_logged (st : TS) (post : Int32 → TY → Prop) (mc ms : Nat) (Y : TY) (v0 : Nat) (v1 : Int32) (v2 : Int32) (v3 : Int32) (v4 : Int32) : Prop := 0 ≤ mc ∧ 0 ≤ ms ∧ tp_X9_planOf st (fun r1 => (r1 = none → 0 ≤ mc ∧ 0 ≤ ms ∧ post (-1 : Int32) Y) ∧ (∀ y2 : Nat, r1 = some y2 → 0 ≤ mc ∧ 0 ≤ ms ∧ tp_X9_isOwed st (fun r4 => (r4 = 0 → 0 ≤ mc ∧ 0 ≤ ms ∧ post (-2 : Int32) Y) ∧ (¬ r4 = 0 → 0 ≤ mc ∧ 0 ≤ ms ∧ tp_X9_isBattery st (fun r6 => (¬ r6 = 0 → ∃ m8 m9 : Nat, 0 + m8 ≤ mc ∧ 0 + m9 ≤ ms ∧ tp_X4_follow st (fun r11 Y10 => (0 + m8) ≤ mc ∧ (0 + m9) ≤ ms ∧ post r11 Y10) m8 m9 Y y2 v2 v3 v4) ∧ (r6 = 0 → 0 ≤ mc ∧ 0 ≤ ms ∧ post (-2 : Int32) Y)) Y v3)) Y v2)) Y v0 v1
set_option maxHeartbeats 4000000 in
set_option maxRecDepth 100000 in
theorem t_X9_logged {st : TS} {aa : Nat → Nat → Nat} {Y : TY} {X : Hp} {postT : Int32 → TY → Prop} {post : Int32 → Hp → Prop} {mc ms : Nat} {v0 : Nat} {v1 : Int32} {v2 : Int32} {v3 : Int32} {v4 : Int32} (R : Rel st aa Y X) (hk_v0 : tK Y v0 = 9) (h : tp_X9_logged st postT mc ms Y v0 v1 v2 v3 v4) (hp : ∀ (r : Int32) (Y' : TY) (X' : Hp) (aa' : Nat → Nat → Nat), postT r Y' → Rel st aa' Y' X' → (∀ a, tK Y a < 11 → tK Y' a = tK Y a) → post r X') : wp_X9_logged post mc ms X v0 v1 v2 v3 v4 := by
  unfold tp_X9_logged at h
  unfold wp_X9_logged
  have hE0 : ∀ a, tK Y a < 11 → tK Y a = tK Y a := fun a _ => rfl
  obtain ⟨Y0, hY0⟩ : ∃ Z : TY, Z = Y := ⟨_, rfl⟩
  have hE0 : ∀ a, tK Y0 a < 11 → tK Y a = tK Y0 a := by rw [hY0]; exact hE0
  rw [← hY0] at hp
  obtain ⟨hq1, hq2, h⟩ := h
  refine ⟨_, ob_9 R hk_v0, hq1, hq2, t_X9_planOf R hk_v0 h (fun r1 h hq => ?_)⟩
  refine ⟨fun c3 => ?_, fun y2 c3 => ?_⟩
  · have h := h.1 c3
    obtain ⟨hq1, hq2, h⟩ := h
    exact ⟨hq1, hq2, hp _ _ _ _ h R hE0⟩
  · have h := h.2 y2 c3
    have ky2 := hq y2 c3
    obtain ⟨hq1, hq2, h⟩ := h
    refine ⟨hq1, hq2, t_X9_isOwed R  h (fun r4 h => ?_)⟩
    refine ⟨fun c5 => ?_, fun c5 => ?_⟩
    · have h := h.1 c5
      obtain ⟨hq1, hq2, h⟩ := h
      exact ⟨hq1, hq2, hp _ _ _ _ h R hE0⟩
    · have h := h.2 c5
      obtain ⟨hq1, hq2, h⟩ := h
      refine ⟨hq1, hq2, t_X9_isBattery R  h (fun r6 h => ?_)⟩
      refine ⟨fun c7 => ?_, fun c7 => ?_⟩
      · have h := h.1 c7
        obtain ⟨m8, m9, hm1, hm2, h⟩ := h
        refine ⟨_, ob_4 R ky2, m8, m9, hm1, hm2, t_X4_follow R ky2 h (fun r11 Y X aa h R hE => ?_)⟩
        have hk_v0 := (hE _ (by rw [hk_v0]; decide)).trans hk_v0
        have ky2 := (hE _ (by rw [ky2]; decide)).trans ky2
        have hE0 := fun a q => (hE a (by rw [hE0 a q]; exact q)).trans (hE0 a q)
        obtain ⟨hq1, hq2, h⟩ := h
        exact ⟨hq1, hq2, hp _ _ _ _ h R hE0⟩
      · have h := h.2 c7
        obtain ⟨hq1, hq2, h⟩ := h
        exact ⟨hq1, hq2, hp _ _ _ _ h R hE0⟩
def tp_X9_thumb (st : TS) (post : Int32 → TY → Prop) (mc ms : Nat) (Y : TY) (v0 : Nat) (v1 : Int32) (v2 : Int32) (v3 : Int32) (v4 : Int32) : Prop := 0 ≤ mc ∧ 0 ≤ ms ∧ tp_X9_planOf st (fun r1 => (r1 = none → 0 ≤ mc ∧ 0 ≤ ms ∧ post (-1 : Int32) Y) ∧ (∀ y2 : Nat, r1 = some y2 → 0 ≤ mc ∧ 0 ≤ ms ∧ tp_X9_within st (fun r4 => (r4 = 0 → 0 ≤ mc ∧ 0 ≤ ms ∧ post (-2 : Int32) Y) ∧ (¬ r4 = 0 → 0 ≤ mc ∧ 0 ≤ ms ∧ tp_X9_isOwed st (fun r6 => (r6 = 0 → 0 ≤ mc ∧ 0 ≤ ms ∧ post (-2 : Int32) Y) ∧ (¬ r6 = 0 → 0 ≤ mc ∧ 0 ≤ ms ∧ tp_X9_within st (fun r8 => (¬ r8 = 0 → 0 ≤ mc ∧ 0 ≤ ms ∧ tp_X0_setOut st (fun Y12 => 0 ≤ mc ∧ 0 ≤ ms ∧ tp_X0_sailByThumb st (fun Y13 => (v4 = (0 : Int32) → 0 ≤ mc ∧ 0 ≤ ms ∧ tp_X7_safe st (fun r16 => 0 ≤ mc ∧ 0 ≤ ms ∧ post r16 Y13) Y13 (st.1 (st.1 v0 5) 1)) ∧ (v4 = (1 : Int32) → ∃ m18 m19 : Nat, 0 + m18 ≤ mc ∧ 0 + m19 ≤ ms ∧ tp_X4_bestFrom st (fun r21 Y20 => (0 + m18) ≤ mc ∧ (0 + m19) ≤ ms ∧ tp_X7_safe st (fun r23 => (0 + m18) ≤ mc ∧ (0 + m19) ≤ ms ∧ post (r21 - r23) Y20) Y20 (st.1 (st.1 v0 5) 1)) m18 m19 Y13 y2 (0 : Int32) v3 (0 : Int32) (4 : Int32)) ∧ (¬ v4 = (0 : Int32) ∧ ¬ v4 = (1 : Int32) → 0 ≤ mc ∧ 0 ≤ ms ∧ post (tI Y13 (st.1 v0 5) 4) Y13)) Y12 (st.1 v0 5) v2) Y (st.1 v0 5) (st.1 y2 0) v3 (0 : Int32)) ∧ (r8 = 0 → 0 ≤ mc ∧ 0 ≤ ms ∧ post (-2 : Int32) Y)) Y v4 (0 : Int32) (2 : Int32))) Y v3)) Y v2 (0 : Int32) (3 : Int32))) Y v0 v1
set_option maxHeartbeats 4000000 in
set_option maxRecDepth 100000 in
theorem t_X9_thumb {st : TS} {aa : Nat → Nat → Nat} {Y : TY} {X : Hp} {postT : Int32 → TY → Prop} {post : Int32 → Hp → Prop} {mc ms : Nat} {v0 : Nat} {v1 : Int32} {v2 : Int32} {v3 : Int32} {v4 : Int32} (R : Rel st aa Y X) (hk_v0 : tK Y v0 = 9) (h : tp_X9_thumb st postT mc ms Y v0 v1 v2 v3 v4) (hp : ∀ (r : Int32) (Y' : TY) (X' : Hp) (aa' : Nat → Nat → Nat), postT r Y' → Rel st aa' Y' X' → (∀ a, tK Y a < 11 → tK Y' a = tK Y a) → post r X') : wp_X9_thumb post mc ms X v0 v1 v2 v3 v4 := by
  unfold tp_X9_thumb at h
  unfold wp_X9_thumb
  have hE0 : ∀ a, tK Y a < 11 → tK Y a = tK Y a := fun a _ => rfl
  obtain ⟨Y0, hY0⟩ : ∃ Z : TY, Z = Y := ⟨_, rfl⟩
  have hE0 : ∀ a, tK Y0 a < 11 → tK Y a = tK Y0 a := by rw [hY0]; exact hE0
  rw [← hY0] at hp
  obtain ⟨hq1, hq2, h⟩ := h
  refine ⟨_, ob_9 R hk_v0, hq1, hq2, t_X9_planOf R hk_v0 h (fun r1 h hq => ?_)⟩
  refine ⟨fun c3 => ?_, fun y2 c3 => ?_⟩
  · have h := h.1 c3
    obtain ⟨hq1, hq2, h⟩ := h
    exact ⟨hq1, hq2, hp _ _ _ _ h R hE0⟩
  · have h := h.2 y2 c3
    have ky2 := hq y2 c3
    obtain ⟨hq1, hq2, h⟩ := h
    refine ⟨hq1, hq2, t_X9_within R  h (fun r4 h => ?_)⟩
    refine ⟨fun c5 => ?_, fun c5 => ?_⟩
    · have h := h.1 c5
      obtain ⟨hq1, hq2, h⟩ := h
      exact ⟨hq1, hq2, hp _ _ _ _ h R hE0⟩
    · have h := h.2 c5
      obtain ⟨hq1, hq2, h⟩ := h
      refine ⟨hq1, hq2, t_X9_isOwed R  h (fun r6 h => ?_)⟩
      refine ⟨fun c7 => ?_, fun c7 => ?_⟩
      · have h := h.1 c7
        obtain ⟨hq1, hq2, h⟩ := h
        exact ⟨hq1, hq2, hp _ _ _ _ h R hE0⟩
      · have h := h.2 c7
        obtain ⟨hq1, hq2, h⟩ := h
        refine ⟨hq1, hq2, t_X9_within R  h (fun r8 h => ?_)⟩
        refine ⟨fun c9 => ?_, fun c9 => ?_⟩
        · have h := h.1 c9
          refine ⟨_, _, ob_9 R hk_v0, rfl, ?_⟩
          have k10 := wf_9_5 R hk_v0
          refine ⟨_, _, ob_4 R ky2, rfl, ?_⟩
          have k11 := wf_4_0 R ky2
          obtain ⟨hq1, hq2, h⟩ := h
          refine ⟨_, ob_0 R k10, hq1, hq2, t_X0_setOut R k10 k11 h (fun Y X h R hE => ?_)⟩
          have hk_v0 := (hE _).trans hk_v0
          have k10 := (hE _).trans k10
          have k11 := (hE _).trans k11
          have ky2 := (hE _).trans ky2
          have hE0 := fun a q => (hE a).trans (hE0 a q)
          refine ⟨_, _, ob_9 R hk_v0, rfl, ?_⟩
          obtain ⟨hq1, hq2, h⟩ := h
          refine ⟨_, ob_0 R k10, hq1, hq2, t_X0_sailByThumb R k10 h (fun Y X h R hE => ?_)⟩
          have hk_v0 := (hE _).trans hk_v0
          have k10 := (hE _).trans k10
          have k11 := (hE _).trans k11
          have ky2 := (hE _).trans ky2
          have hE0 := fun a q => (hE a).trans (hE0 a q)
          refine ⟨fun c14 => ?_, fun c17 => ?_, fun c24 => ?_⟩
          · have h := h.1 c14
            refine ⟨_, _, ob_9 R hk_v0, rfl, ?_⟩
            refine ⟨_, _, ob_0 R k10, rfl, ?_⟩
            have k15 := wf_0_1 R k10
            obtain ⟨hq1, hq2, h⟩ := h
            refine ⟨_, ob_7 R k15, hq1, hq2, t_X7_safe R k15 h (fun r16 h => ?_)⟩
            obtain ⟨hq1, hq2, h⟩ := h
            exact ⟨hq1, hq2, hp _ _ _ _ h R hE0⟩
          · have h := h.2.1 c17
            obtain ⟨m18, m19, hm1, hm2, h⟩ := h
            refine ⟨_, ob_4 R ky2, m18, m19, hm1, hm2, t_X4_bestFrom R ky2 h (fun r21 Y X aa h R hE => ?_)⟩
            have hk_v0 := (hE _ (by rw [hk_v0]; decide)).trans hk_v0
            have k10 := (hE _ (by rw [k10]; decide)).trans k10
            have k11 := (hE _ (by rw [k11]; decide)).trans k11
            have ky2 := (hE _ (by rw [ky2]; decide)).trans ky2
            have hE0 := fun a q => (hE a (by rw [hE0 a q]; exact q)).trans (hE0 a q)
            refine ⟨_, _, ob_9 R hk_v0, rfl, ?_⟩
            refine ⟨_, _, ob_0 R k10, rfl, ?_⟩
            have k22 := wf_0_1 R k10
            obtain ⟨hq1, hq2, h⟩ := h
            refine ⟨_, ob_7 R k22, hq1, hq2, t_X7_safe R k22 h (fun r23 h => ?_)⟩
            obtain ⟨hq1, hq2, h⟩ := h
            exact ⟨hq1, hq2, hp _ _ _ _ h R hE0⟩
          · have h := h.2.2 c24
            refine ⟨_, _, ob_9 R hk_v0, rfl, ?_⟩
            refine ⟨_, _, ob_0 R k10, rfl, ?_⟩
            obtain ⟨hq1, hq2, h⟩ := h
            exact ⟨hq1, hq2, hp _ _ _ _ h R hE0⟩
        · have h := h.2 c9
          obtain ⟨hq1, hq2, h⟩ := h
          exact ⟨hq1, hq2, hp _ _ _ _ h R hE0⟩
def tp_X9_worth (st : TS) (post : Int32 → TY → Prop) (mc ms : Nat) (Y : TY) (v0 : Nat) (v1 : Int32) (v2 : Int32) (v3 : Int32) (v4 : Int32) : Prop := 0 ≤ mc ∧ 0 ≤ ms ∧ tp_X9_planOf st (fun r1 => (r1 = none → 0 ≤ mc ∧ 0 ≤ ms ∧ post (-1 : Int32) Y) ∧ (∀ y2 : Nat, r1 = some y2 → 0 ≤ mc ∧ 0 ≤ ms ∧ tp_X9_isOwed st (fun r4 => (r4 = 0 → 0 ≤ mc ∧ 0 ≤ ms ∧ post (-2 : Int32) Y) ∧ (¬ r4 = 0 → 0 ≤ mc ∧ 0 ≤ ms ∧ tp_X9_isBattery st (fun r6 => (r6 = 0 → 0 ≤ mc ∧ 0 ≤ ms ∧ post (-2 : Int32) Y) ∧ (¬ r6 = 0 → 0 ≤ mc ∧ 0 ≤ ms ∧ tp_X9_within st (fun r8 => (¬ r8 = 0 → ∃ m10 m11 : Nat, 0 + m10 ≤ mc ∧ 0 + m11 ≤ ms ∧ tp_X4_bestFrom st (fun r13 Y12 => ∃ m14 m15 : Nat, (0 + m10) + m14 ≤ mc ∧ (0 + m11) + m15 ≤ ms ∧ tp_X4_bestFrom st (fun r17 Y16 => ((0 + m10) + m14) ≤ mc ∧ ((0 + m11) + m15) ≤ ms ∧ post (r13 - r17) Y16) m14 m15 Y12 y2 (0 : Int32) v2 v3 (4 : Int32)) m10 m11 Y y2 (0 : Int32) v2 (v3 + v4) (4 : Int32)) ∧ (r8 = 0 → 0 ≤ mc ∧ 0 ≤ ms ∧ post (-2 : Int32) Y)) Y v4 (0 : Int32) ((24 : Int32) - v3))) Y v3)) Y v2)) Y v0 v1
set_option maxHeartbeats 4000000 in
set_option maxRecDepth 100000 in
theorem t_X9_worth {st : TS} {aa : Nat → Nat → Nat} {Y : TY} {X : Hp} {postT : Int32 → TY → Prop} {post : Int32 → Hp → Prop} {mc ms : Nat} {v0 : Nat} {v1 : Int32} {v2 : Int32} {v3 : Int32} {v4 : Int32} (R : Rel st aa Y X) (hk_v0 : tK Y v0 = 9) (h : tp_X9_worth st postT mc ms Y v0 v1 v2 v3 v4) (hp : ∀ (r : Int32) (Y' : TY) (X' : Hp) (aa' : Nat → Nat → Nat), postT r Y' → Rel st aa' Y' X' → (∀ a, tK Y a < 11 → tK Y' a = tK Y a) → post r X') : wp_X9_worth post mc ms X v0 v1 v2 v3 v4 := by
  unfold tp_X9_worth at h
  unfold wp_X9_worth
  have hE0 : ∀ a, tK Y a < 11 → tK Y a = tK Y a := fun a _ => rfl
  obtain ⟨Y0, hY0⟩ : ∃ Z : TY, Z = Y := ⟨_, rfl⟩
  have hE0 : ∀ a, tK Y0 a < 11 → tK Y a = tK Y0 a := by rw [hY0]; exact hE0
  rw [← hY0] at hp
  obtain ⟨hq1, hq2, h⟩ := h
  refine ⟨_, ob_9 R hk_v0, hq1, hq2, t_X9_planOf R hk_v0 h (fun r1 h hq => ?_)⟩
  refine ⟨fun c3 => ?_, fun y2 c3 => ?_⟩
  · have h := h.1 c3
    obtain ⟨hq1, hq2, h⟩ := h
    exact ⟨hq1, hq2, hp _ _ _ _ h R hE0⟩
  · have h := h.2 y2 c3
    have ky2 := hq y2 c3
    obtain ⟨hq1, hq2, h⟩ := h
    refine ⟨hq1, hq2, t_X9_isOwed R  h (fun r4 h => ?_)⟩
    refine ⟨fun c5 => ?_, fun c5 => ?_⟩
    · have h := h.1 c5
      obtain ⟨hq1, hq2, h⟩ := h
      exact ⟨hq1, hq2, hp _ _ _ _ h R hE0⟩
    · have h := h.2 c5
      obtain ⟨hq1, hq2, h⟩ := h
      refine ⟨hq1, hq2, t_X9_isBattery R  h (fun r6 h => ?_)⟩
      refine ⟨fun c7 => ?_, fun c7 => ?_⟩
      · have h := h.1 c7
        obtain ⟨hq1, hq2, h⟩ := h
        exact ⟨hq1, hq2, hp _ _ _ _ h R hE0⟩
      · have h := h.2 c7
        obtain ⟨hq1, hq2, h⟩ := h
        refine ⟨hq1, hq2, t_X9_within R  h (fun r8 h => ?_)⟩
        refine ⟨fun c9 => ?_, fun c9 => ?_⟩
        · have h := h.1 c9
          obtain ⟨m10, m11, hm1, hm2, h⟩ := h
          refine ⟨_, ob_4 R ky2, m10, m11, hm1, hm2, t_X4_bestFrom R ky2 h (fun r13 Y X aa h R hE => ?_)⟩
          have hk_v0 := (hE _ (by rw [hk_v0]; decide)).trans hk_v0
          have ky2 := (hE _ (by rw [ky2]; decide)).trans ky2
          have hE0 := fun a q => (hE a (by rw [hE0 a q]; exact q)).trans (hE0 a q)
          obtain ⟨m14, m15, hm1, hm2, h⟩ := h
          refine ⟨_, ob_4 R ky2, m14, m15, hm1, hm2, t_X4_bestFrom R ky2 h (fun r17 Y X aa h R hE => ?_)⟩
          have hk_v0 := (hE _ (by rw [hk_v0]; decide)).trans hk_v0
          have ky2 := (hE _ (by rw [ky2]; decide)).trans ky2
          have hE0 := fun a q => (hE a (by rw [hE0 a q]; exact q)).trans (hE0 a q)
          obtain ⟨hq1, hq2, h⟩ := h
          exact ⟨hq1, hq2, hp _ _ _ _ h R hE0⟩
        · have h := h.2 c9
          obtain ⟨hq1, hq2, h⟩ := h
          exact ⟨hq1, hq2, hp _ _ _ _ h R hE0⟩
def tp_X9_round (st : TS) (post : Int32 → TY → Prop) (mc ms : Nat) (Y : TY) (v0 : Nat) (v1 : Int32) (v2 : Int32) : Prop := 0 ≤ mc ∧ 0 ≤ ms ∧ tp_X9_isOwed st (fun r1 => (r1 = 0 → 0 ≤ mc ∧ 0 ≤ ms ∧ post (-2 : Int32) Y) ∧ (¬ r1 = 0 → 0 ≤ mc ∧ 0 ≤ ms ∧ tp_X9_isBattery st (fun r3 => (¬ r3 = 0 → vp_in (0 : Int32) 2 ∧ ∃ y5 : Nat, st.2 v0 3 (0 : Int32).toNatClampNeg = some y5 ∧ ∃ m6 m7 : Nat, 0 + m6 ≤ mc ∧ 0 + m7 ≤ ms ∧ tp_X4_bestFrom st (fun r9 Y8 => vp_in (1 : Int32) 2 ∧ ∃ y10 : Nat, st.2 v0 3 (1 : Int32).toNatClampNeg = some y10 ∧ ∃ m11 m12 : Nat, (0 + m6) + m11 ≤ mc ∧ (0 + m7) + m12 ≤ ms ∧ tp_X4_bestFrom st (fun r14 Y13 => (r14 ≤ r9 → ((0 + m6) + m11) ≤ mc ∧ ((0 + m7) + m12) ≤ ms ∧ post (0 : Int32) Y13) ∧ (¬ r14 ≤ r9 → ((0 + m6) + m11) ≤ mc ∧ ((0 + m7) + m12) ≤ ms ∧ post (1 : Int32) Y13)) m11 m12 Y8 y10 (0 : Int32) v1 v2 (4 : Int32)) m6 m7 Y y5 (0 : Int32) v1 v2 (4 : Int32)) ∧ (r3 = 0 → 0 ≤ mc ∧ 0 ≤ ms ∧ post (-2 : Int32) Y)) Y v2)) Y v1
set_option maxHeartbeats 4000000 in
set_option maxRecDepth 100000 in
theorem t_X9_round {st : TS} {aa : Nat → Nat → Nat} {Y : TY} {X : Hp} {postT : Int32 → TY → Prop} {post : Int32 → Hp → Prop} {mc ms : Nat} {v0 : Nat} {v1 : Int32} {v2 : Int32} (R : Rel st aa Y X) (hk_v0 : tK Y v0 = 9) (h : tp_X9_round st postT mc ms Y v0 v1 v2) (hp : ∀ (r : Int32) (Y' : TY) (X' : Hp) (aa' : Nat → Nat → Nat), postT r Y' → Rel st aa' Y' X' → (∀ a, tK Y a < 11 → tK Y' a = tK Y a) → post r X') : wp_X9_round post mc ms X v0 v1 v2 := by
  unfold tp_X9_round at h
  unfold wp_X9_round
  have hE0 : ∀ a, tK Y a < 11 → tK Y a = tK Y a := fun a _ => rfl
  obtain ⟨Y0, hY0⟩ : ∃ Z : TY, Z = Y := ⟨_, rfl⟩
  have hE0 : ∀ a, tK Y0 a < 11 → tK Y a = tK Y0 a := by rw [hY0]; exact hE0
  rw [← hY0] at hp
  obtain ⟨hq1, hq2, h⟩ := h
  refine ⟨hq1, hq2, t_X9_isOwed R  h (fun r1 h => ?_)⟩
  refine ⟨fun c2 => ?_, fun c2 => ?_⟩
  · have h := h.1 c2
    obtain ⟨hq1, hq2, h⟩ := h
    exact ⟨hq1, hq2, hp _ _ _ _ h R hE0⟩
  · have h := h.2 c2
    obtain ⟨hq1, hq2, h⟩ := h
    refine ⟨hq1, hq2, t_X9_isBattery R  h (fun r3 h => ?_)⟩
    refine ⟨fun c4 => ?_, fun c4 => ?_⟩
    · have h := h.1 c4
      refine ⟨_, _, ob_9 R hk_v0, rfl, ?_⟩
      obtain ⟨hi, y5, qy5, h⟩ := h
      refine ⟨_, _, y5, ar_9_3 R hk_v0, hi, qy5, ?_⟩
      have ky5 := wf_9_3 R hk_v0 qy5
      obtain ⟨m6, m7, hm1, hm2, h⟩ := h
      refine ⟨_, ob_4 R ky5, m6, m7, hm1, hm2, t_X4_bestFrom R ky5 h (fun r9 Y X aa h R hE => ?_)⟩
      have hk_v0 := (hE _ (by rw [hk_v0]; decide)).trans hk_v0
      have ky5 := (hE _ (by rw [ky5]; decide)).trans ky5
      have hE0 := fun a q => (hE a (by rw [hE0 a q]; exact q)).trans (hE0 a q)
      refine ⟨_, _, ob_9 R hk_v0, rfl, ?_⟩
      obtain ⟨hi, y10, qy10, h⟩ := h
      refine ⟨_, _, y10, ar_9_3 R hk_v0, hi, qy10, ?_⟩
      have ky10 := wf_9_3 R hk_v0 qy10
      obtain ⟨m11, m12, hm1, hm2, h⟩ := h
      refine ⟨_, ob_4 R ky10, m11, m12, hm1, hm2, t_X4_bestFrom R ky10 h (fun r14 Y X aa h R hE => ?_)⟩
      have hk_v0 := (hE _ (by rw [hk_v0]; decide)).trans hk_v0
      have ky10 := (hE _ (by rw [ky10]; decide)).trans ky10
      have ky5 := (hE _ (by rw [ky5]; decide)).trans ky5
      have hE0 := fun a q => (hE a (by rw [hE0 a q]; exact q)).trans (hE0 a q)
      refine ⟨fun c15 => ?_, fun c15 => ?_⟩
      · have h := h.1 c15
        obtain ⟨hq1, hq2, h⟩ := h
        exact ⟨hq1, hq2, hp _ _ _ _ h R hE0⟩
      · have h := h.2 c15
        obtain ⟨hq1, hq2, h⟩ := h
        exact ⟨hq1, hq2, hp _ _ _ _ h R hE0⟩
    · have h := h.2 c4
      obtain ⟨hq1, hq2, h⟩ := h
      exact ⟨hq1, hq2, hp _ _ _ _ h R hE0⟩
def tk_X9_soonest_45 (st : TS) (post : Int32 → TY → Prop) (mc ms : Nat) (v0 : Nat) (v1 : Int32) (v2 : Int32) (v3 : Int32) (v4 : Int32)  : Nat → TY → Nat → Nat → Nat → Int32 → Prop
  | 0, _, _, _, _, _ => False
  | k + 1, Y, kc, ks, b45_5, b45_6 => ((4 : Int32) < b45_6 → kc ≤ mc ∧ ks ≤ ms ∧ post (-6 : Int32) Y) ∧ (¬ (4 : Int32) < b45_6 → ∃ m12 m13 : Nat, kc + m12 ≤ mc ∧ ks + m13 ≤ ms ∧ tp_X4_bestFrom st (fun r15 Y14 => (r15 < v4 → ∀ x17 : Int32, x17 = b45_6 + (1 : Int32) → (tk_X9_soonest_45 st post mc ms v0 v1 v2 v3 v4 k) Y14 ((kc + m12)) ((ks + m13)) b45_5 x17) ∧ (¬ r15 < v4 → (kc + m12) ≤ mc ∧ (ks + m13) ≤ ms ∧ post ((tI Y14 (st.1 b45_5 0) 1) + b45_6) Y14)) m12 m13 Y b45_5 (0 : Int32) v2 v3 b45_6)
def tp_X9_soonest (st : TS) (post : Int32 → TY → Prop) (mc ms : Nat) (Y : TY) (v0 : Nat) (v1 : Int32) (v2 : Int32) (v3 : Int32) (v4 : Int32) : Prop := 0 ≤ mc ∧ 0 ≤ ms ∧ tp_X9_planOf st (fun r1 => (r1 = none → 0 ≤ mc ∧ 0 ≤ ms ∧ post (-1 : Int32) Y) ∧ (∀ y2 : Nat, r1 = some y2 → 0 ≤ mc ∧ 0 ≤ ms ∧ tp_X9_isOwed st (fun r4 => (r4 = 0 → 0 ≤ mc ∧ 0 ≤ ms ∧ post (-2 : Int32) Y) ∧ (¬ r4 = 0 → 0 ≤ mc ∧ 0 ≤ ms ∧ tp_X9_isBattery st (fun r6 => (r6 = 0 → 0 ≤ mc ∧ 0 ≤ ms ∧ post (-2 : Int32) Y) ∧ (¬ r6 = 0 → 0 ≤ mc ∧ 0 ≤ ms ∧ tp_X9_within st (fun r8 => (¬ r8 = 0 → ∃ n10 : Nat, tk_X9_soonest_45 st post mc ms v0 v1 v2 v3 v4 n10 Y 0 0 y2 (0 : Int32)) ∧ (r8 = 0 → 0 ≤ mc ∧ 0 ≤ ms ∧ post (-2 : Int32) Y)) Y v4 (0 : Int32) (1000000 : Int32))) Y v3)) Y v2)) Y v0 v1
set_option maxHeartbeats 4000000 in
set_option maxRecDepth 100000 in
theorem t_X9_soonest {st : TS} {aa : Nat → Nat → Nat} {Y : TY} {X : Hp} {postT : Int32 → TY → Prop} {post : Int32 → Hp → Prop} {mc ms : Nat} {v0 : Nat} {v1 : Int32} {v2 : Int32} {v3 : Int32} {v4 : Int32} (R : Rel st aa Y X) (hk_v0 : tK Y v0 = 9) (h : tp_X9_soonest st postT mc ms Y v0 v1 v2 v3 v4) (hp : ∀ (r : Int32) (Y' : TY) (X' : Hp) (aa' : Nat → Nat → Nat), postT r Y' → Rel st aa' Y' X' → (∀ a, tK Y a < 11 → tK Y' a = tK Y a) → post r X') : wp_X9_soonest post mc ms X v0 v1 v2 v3 v4 := by
  unfold tp_X9_soonest at h
  unfold wp_X9_soonest
  have hE0 : ∀ a, tK Y a < 11 → tK Y a = tK Y a := fun a _ => rfl
  obtain ⟨Y0, hY0⟩ : ∃ Z : TY, Z = Y := ⟨_, rfl⟩
  have hE0 : ∀ a, tK Y0 a < 11 → tK Y a = tK Y0 a := by rw [hY0]; exact hE0
  rw [← hY0] at hp
  have J_45 : ∀ (n : Nat) (Y : TY) (kc : Nat) (ks : Nat) (b45_5 : Nat) (b45_6 : Int32), ∀ (X : Hp) (aa : Nat → Nat → Nat) (_ : tk_X9_soonest_45 st postT mc ms v0 v1 v2 v3 v4  n Y kc ks b45_5 b45_6), Rel st aa Y X → (∀ a, tK Y0 a < 11 → tK Y a = tK Y0 a) → tK Y v0 = 9 → tK Y b45_5 = 4 → bk_X9_soonest_45 post mc ms v0 v1 v2 v3 v4  n X kc ks b45_5 b45_6 := by
    intro n
    induction n with
    | zero =>
      intro Y kc ks b45_5 b45_6 X aa h R hE0 hk_v0 hk_b45_5
      rw [tk_X9_soonest_45] at h
      exact h.elim
    | succ n_45 ih_45 =>
      intro Y kc ks b45_5 b45_6 X aa h R hE0 hk_v0 hk_b45_5
      rw [tk_X9_soonest_45] at h
      rw [bk_X9_soonest_45]
      refine ⟨fun c11 => ?_, fun c11 => ?_⟩
      · have h := h.1 c11
        obtain ⟨hq1, hq2, h⟩ := h
        exact ⟨hq1, hq2, hp _ _ _ _ h R hE0⟩
      · have h := h.2 c11
        obtain ⟨m12, m13, hm1, hm2, h⟩ := h
        refine ⟨_, ob_4 R hk_b45_5, m12, m13, hm1, hm2, t_X4_bestFrom R hk_b45_5 h (fun r15 Y X aa h R hE => ?_)⟩
        have hk_b45_5 := (hE _ (by rw [hk_b45_5]; decide)).trans hk_b45_5
        have hk_v0 := (hE _ (by rw [hk_v0]; decide)).trans hk_v0
        have hE0 := fun a q => (hE a (by rw [hE0 a q]; exact q)).trans (hE0 a q)
        refine ⟨fun c16 => ?_, fun c16 => ?_⟩
        · have h := h.1 c16
          intro x17 ex17
          have h := h x17 ex17
          exact ih_45 _ _ _ _ _ _ _ h R hE0 (hk_v0) hk_b45_5
        · have h := h.2 c16
          refine ⟨_, _, ob_4 R hk_b45_5, rfl, ?_⟩
          have k18 := wf_4_0 R hk_b45_5
          refine ⟨_, _, ob_8 R k18, rfl, ?_⟩
          obtain ⟨hq1, hq2, h⟩ := h
          exact ⟨hq1, hq2, hp _ _ _ _ h R hE0⟩
  obtain ⟨hq1, hq2, h⟩ := h
  refine ⟨_, ob_9 R hk_v0, hq1, hq2, t_X9_planOf R hk_v0 h (fun r1 h hq => ?_)⟩
  refine ⟨fun c3 => ?_, fun y2 c3 => ?_⟩
  · have h := h.1 c3
    obtain ⟨hq1, hq2, h⟩ := h
    exact ⟨hq1, hq2, hp _ _ _ _ h R hE0⟩
  · have h := h.2 y2 c3
    have ky2 := hq y2 c3
    obtain ⟨hq1, hq2, h⟩ := h
    refine ⟨hq1, hq2, t_X9_isOwed R  h (fun r4 h => ?_)⟩
    refine ⟨fun c5 => ?_, fun c5 => ?_⟩
    · have h := h.1 c5
      obtain ⟨hq1, hq2, h⟩ := h
      exact ⟨hq1, hq2, hp _ _ _ _ h R hE0⟩
    · have h := h.2 c5
      obtain ⟨hq1, hq2, h⟩ := h
      refine ⟨hq1, hq2, t_X9_isBattery R  h (fun r6 h => ?_)⟩
      refine ⟨fun c7 => ?_, fun c7 => ?_⟩
      · have h := h.1 c7
        obtain ⟨hq1, hq2, h⟩ := h
        exact ⟨hq1, hq2, hp _ _ _ _ h R hE0⟩
      · have h := h.2 c7
        obtain ⟨hq1, hq2, h⟩ := h
        refine ⟨hq1, hq2, t_X9_within R  h (fun r8 h => ?_)⟩
        refine ⟨fun c9 => ?_, fun c9 => ?_⟩
        · have h := h.1 c9
          obtain ⟨n10, h⟩ := h
          exact ⟨n10, J_45 n10 _ _ _ _ _ _ _ h R hE0 (hk_v0) ky2⟩
        · have h := h.2 c9
          obtain ⟨hq1, hq2, h⟩ := h
          exact ⟨hq1, hq2, hp _ _ _ _ h R hE0⟩
def tp_X9_two (st : TS) (post : Int32 → TY → Prop) (Y : TY) (v0 : Nat) (v1 : Int32) (v2 : Int32) (v3 : Int32) : Prop := tp_X9_wayOf st (fun r1 => (r1 = none → post (-1 : Int32) Y) ∧ (∀ y2 : Nat, r1 = some y2 → tp_X9_isOwed st (fun r4 => (r4 = 0 → post (-2 : Int32) Y) ∧ (¬ r4 = 0 → tp_X9_within st (fun r6 => (¬ r6 = 0 → tp_X0_safeByTurns st (fun r10 Y9 => post r10 Y9) Y (st.1 v0 5) y2 v2 v3) ∧ (r6 = 0 → post (-2 : Int32) Y)) Y v3 (1 : Int32) (6 : Int32))) Y v2)) Y v0 v1
set_option maxHeartbeats 4000000 in
set_option maxRecDepth 100000 in
theorem t_X9_two {st : TS} {aa : Nat → Nat → Nat} {Y : TY} {X : Hp} {postT : Int32 → TY → Prop} {post : Int32 → Hp → Prop} {v0 : Nat} {v1 : Int32} {v2 : Int32} {v3 : Int32} (R : Rel st aa Y X) (hk_v0 : tK Y v0 = 9) (h : tp_X9_two st postT Y v0 v1 v2 v3) (hp : ∀ (r : Int32) (Y' : TY) (X' : Hp), postT r Y' → Rel st aa Y' X' → (∀ a, tK Y' a = tK Y a) → post r X') : wp_X9_two post X v0 v1 v2 v3 := by
  unfold tp_X9_two at h
  unfold wp_X9_two
  have hE0 : ∀ a, tK Y a = tK Y a := fun a => rfl
  obtain ⟨Y0, hY0⟩ : ∃ Z : TY, Z = Y := ⟨_, rfl⟩
  have hE0 : ∀ a, tK Y a = tK Y0 a := by rw [hY0]; exact hE0
  rw [← hY0] at hp
  refine ⟨_, ob_9 R hk_v0, t_X9_wayOf R hk_v0 h (fun r1 h hq => ?_)⟩
  refine ⟨fun c3 => ?_, fun y2 c3 => ?_⟩
  · have h := h.1 c3
    exact hp _ _ _ h R hE0
  · have h := h.2 y2 c3
    have ky2 := hq y2 c3
    refine t_X9_isOwed R  h (fun r4 h => ?_)
    refine ⟨fun c5 => ?_, fun c5 => ?_⟩
    · have h := h.1 c5
      exact hp _ _ _ h R hE0
    · have h := h.2 c5
      refine t_X9_within R  h (fun r6 h => ?_)
      refine ⟨fun c7 => ?_, fun c7 => ?_⟩
      · have h := h.1 c7
        refine ⟨_, _, ob_9 R hk_v0, rfl, ?_⟩
        have k8 := wf_9_5 R hk_v0
        refine ⟨_, ob_0 R k8, t_X0_safeByTurns R k8 ky2 h (fun r10 Y X h R hE => ?_)⟩
        have hk_v0 := (hE _).trans hk_v0
        have k8 := (hE _).trans k8
        have ky2 := (hE _).trans ky2
        have hE0 := fun a => (hE a).trans (hE0 a)
        exact hp _ _ _ h R hE0
      · have h := h.2 c7
        exact hp _ _ _ h R hE0
def tk_X9_share_75 (st : TS) (post : Int32 → TY → Prop) (v0 : Nat) (v1 : Int32) (v2 : Int32) (r_40 : TY → Nat → Int32 → Int32 → Int32 → Prop) (Y : TY) (b75_3 : Nat) (b75_4 : Int32) (b75_5 : Int32) (b75_6 : Int32) : Prop := ∀ x15 : Int32, x15 = b75_6 + (1 : Int32) → r_40 Y b75_3 b75_4 b75_5 x15
def tk_X9_share_40 (st : TS) (post : Int32 → TY → Prop) (v0 : Nat) (v1 : Int32) (v2 : Int32)  : Nat → TY → Nat → Int32 → Int32 → Int32 → Prop
  | 0, _, _, _, _, _ => False
  | k + 1, Y, b40_3, b40_4, b40_5, b40_6 => ((6 : Int32) < b40_6 → post b40_4 Y) ∧ (¬ (6 : Int32) < b40_6 → tp_X0_safeByTurns st (fun r13 Y12 => (r13 ≤ b40_5 → tk_X9_share_75 st post v0 v1 v2 (tk_X9_share_40 st post v0 v1 v2 k) Y12 b40_3 b40_4 b40_5 b40_6) ∧ (¬ r13 ≤ b40_5 → tk_X9_share_75 st post v0 v1 v2 (tk_X9_share_40 st post v0 v1 v2 k) Y12 b40_3 b40_6 r13 b40_6)) Y (st.1 v0 5) b40_3 v2 b40_6)
def tp_X9_share (st : TS) (post : Int32 → TY → Prop) (Y : TY) (v0 : Nat) (v1 : Int32) (v2 : Int32) : Prop := tp_X9_wayOf st (fun r1 => (r1 = none → post (-1 : Int32) Y) ∧ (∀ y2 : Nat, r1 = some y2 → tp_X9_isOwed st (fun r4 => (¬ r4 = 0 → tp_X0_safeByTurns st (fun r8 Y7 => ∃ n9 : Nat, tk_X9_share_40 st post v0 v1 v2 n9 Y7 y2 (1 : Int32) r8 (2 : Int32)) Y (st.1 v0 5) y2 v2 (1 : Int32)) ∧ (r4 = 0 → post (-2 : Int32) Y)) Y v2)) Y v0 v1
set_option maxHeartbeats 4000000 in
set_option maxRecDepth 100000 in
theorem t_X9_share {st : TS} {aa : Nat → Nat → Nat} {Y : TY} {X : Hp} {postT : Int32 → TY → Prop} {post : Int32 → Hp → Prop} {v0 : Nat} {v1 : Int32} {v2 : Int32} (R : Rel st aa Y X) (hk_v0 : tK Y v0 = 9) (h : tp_X9_share st postT Y v0 v1 v2) (hp : ∀ (r : Int32) (Y' : TY) (X' : Hp), postT r Y' → Rel st aa Y' X' → (∀ a, tK Y' a = tK Y a) → post r X') : wp_X9_share post X v0 v1 v2 := by
  unfold tp_X9_share at h
  unfold wp_X9_share
  have hE0 : ∀ a, tK Y a = tK Y a := fun a => rfl
  obtain ⟨Y0, hY0⟩ : ∃ Z : TY, Z = Y := ⟨_, rfl⟩
  have hE0 : ∀ a, tK Y a = tK Y0 a := by rw [hY0]; exact hE0
  rw [← hY0] at hp
  have J_40 : ∀ (n : Nat) (Y : TY) (b40_3 : Nat) (b40_4 : Int32) (b40_5 : Int32) (b40_6 : Int32), ∀ (X : Hp) (_ : tk_X9_share_40 st postT v0 v1 v2  n Y b40_3 b40_4 b40_5 b40_6), Rel st aa Y X → (∀ a, tK Y a = tK Y0 a) → tK Y v0 = 9 → tK Y b40_3 = 8 → bk_X9_share_40 post v0 v1 v2  n X b40_3 b40_4 b40_5 b40_6 := by
    intro n
    induction n with
    | zero =>
      intro Y b40_3 b40_4 b40_5 b40_6 X h R hE0 hk_v0 hk_b40_3
      rw [tk_X9_share_40] at h
      exact h.elim
    | succ n_40 ih_40 =>
      have J_75 : ∀ (Y : TY) (b75_3 : Nat) (b75_4 : Int32) (b75_5 : Int32) (b75_6 : Int32), ∀ (X : Hp) (_ : tk_X9_share_75 st postT v0 v1 v2 (tk_X9_share_40 st postT v0 v1 v2 n_40) Y b75_3 b75_4 b75_5 b75_6), Rel st aa Y X → (∀ a, tK Y a = tK Y0 a) → tK Y v0 = 9 → tK Y b75_3 = 8 → bk_X9_share_75 post v0 v1 v2 (bk_X9_share_40 post v0 v1 v2 n_40) X b75_3 b75_4 b75_5 b75_6 := by
        intro Y b75_3 b75_4 b75_5 b75_6 X h R hE0 hk_v0 hk_b75_3
        unfold tk_X9_share_75 at h
        unfold bk_X9_share_75
        intro x15 ex15
        have h := h x15 ex15
        exact ih_40 _ _ _ _ _ _ h R hE0 (hk_v0) hk_b75_3
      intro Y b40_3 b40_4 b40_5 b40_6 X h R hE0 hk_v0 hk_b40_3
      rw [tk_X9_share_40] at h
      rw [bk_X9_share_40]
      refine ⟨fun c10 => ?_, fun c10 => ?_⟩
      · have h := h.1 c10
        exact hp _ _ _ h R hE0
      · have h := h.2 c10
        refine ⟨_, _, ob_9 R hk_v0, rfl, ?_⟩
        have k11 := wf_9_5 R hk_v0
        refine ⟨_, ob_0 R k11, t_X0_safeByTurns R k11 hk_b40_3 h (fun r13 Y X h R hE => ?_)⟩
        have hk_b40_3 := (hE _).trans hk_b40_3
        have hk_v0 := (hE _).trans hk_v0
        have k11 := (hE _).trans k11
        have hE0 := fun a => (hE a).trans (hE0 a)
        refine ⟨fun c14 => ?_, fun c14 => ?_⟩
        · have h := h.1 c14
          exact J_75 _ _ _ _ _ _ h R hE0 (hk_v0) hk_b40_3
        · have h := h.2 c14
          exact J_75 _ _ _ _ _ _ h R hE0 (hk_v0) hk_b40_3
  refine ⟨_, ob_9 R hk_v0, t_X9_wayOf R hk_v0 h (fun r1 h hq => ?_)⟩
  refine ⟨fun c3 => ?_, fun y2 c3 => ?_⟩
  · have h := h.1 c3
    exact hp _ _ _ h R hE0
  · have h := h.2 y2 c3
    have ky2 := hq y2 c3
    refine t_X9_isOwed R  h (fun r4 h => ?_)
    refine ⟨fun c5 => ?_, fun c5 => ?_⟩
    · have h := h.1 c5
      refine ⟨_, _, ob_9 R hk_v0, rfl, ?_⟩
      have k6 := wf_9_5 R hk_v0
      refine ⟨_, ob_0 R k6, t_X0_safeByTurns R k6 ky2 h (fun r8 Y X h R hE => ?_)⟩
      have hk_v0 := (hE _).trans hk_v0
      have k6 := (hE _).trans k6
      have ky2 := (hE _).trans ky2
      have hE0 := fun a => (hE a).trans (hE0 a)
      obtain ⟨n9, h⟩ := h
      exact ⟨n9, J_40 n9 _ _ _ _ _ _ h R hE0 (hk_v0) ky2⟩
    · have h := h.2 c5
      exact hp _ _ _ h R hE0
def tp_X9_getsUp (st : TS) (post : Int32 → Prop) (Y : TY) (v0 : Int32) (v1 : Int32) (v2 : Int32) : Prop := ((v0 * v1) < ((1000 : Int32) * ((1 : Int32) + ((10 : Int32) * v2))) → post (0 : Int32)) ∧ (¬ (v0 * v1) < ((1000 : Int32) * ((1 : Int32) + ((10 : Int32) * v2))) → post (1 : Int32))
set_option maxHeartbeats 4000000 in
set_option maxRecDepth 100000 in
theorem t_X9_getsUp {st : TS} {aa : Nat → Nat → Nat} {Y : TY} {X : Hp} {postT : Int32 → Prop} {post : Int32 → Prop} {v0 : Int32} {v1 : Int32} {v2 : Int32} (R : Rel st aa Y X)  (h : tp_X9_getsUp st postT Y v0 v1 v2) (hp : ∀ (r : Int32) , postT r → post r ) : wp_X9_getsUp post X v0 v1 v2 := by
  unfold tp_X9_getsUp at h
  unfold wp_X9_getsUp
  refine ⟨fun c1 => ?_, fun c1 => ?_⟩
  · have h := h.1 c1
    exact hp _ h
  · have h := h.2 c1
    exact hp _ h
def tp_X9_up (st : TS) (post : Int32 → Prop) (Y : TY) (v0 : Nat) (v1 : Int32) (v2 : Int32) (v3 : Int32) : Prop := tp_X9_within st (fun r1 => (r1 = 0 → post (-2 : Int32)) ∧ (¬ r1 = 0 → tp_X9_within st (fun r3 => (r3 = 0 → post (-2 : Int32)) ∧ (¬ r3 = 0 → tp_X9_isOwed st (fun r5 => (¬ r5 = 0 → tp_X9_getsUp st (fun r7 => (r7 = 0 → post (0 : Int32)) ∧ (¬ r7 = 0 → post (1 : Int32))) Y v1 v2 v3) ∧ (r5 = 0 → post (-2 : Int32))) Y v3)) Y v2 (0 : Int32) (10000 : Int32))) Y v1 (0 : Int32) (1000 : Int32)
set_option maxHeartbeats 4000000 in
set_option maxRecDepth 100000 in
theorem t_X9_up {st : TS} {aa : Nat → Nat → Nat} {Y : TY} {X : Hp} {postT : Int32 → Prop} {post : Int32 → Prop} {v0 : Nat} {v1 : Int32} {v2 : Int32} {v3 : Int32} (R : Rel st aa Y X) (hk_v0 : tK Y v0 = 9) (h : tp_X9_up st postT Y v0 v1 v2 v3) (hp : ∀ (r : Int32) , postT r → post r ) : wp_X9_up post X v0 v1 v2 v3 := by
  unfold tp_X9_up at h
  unfold wp_X9_up
  refine t_X9_within R  h (fun r1 h => ?_)
  refine ⟨fun c2 => ?_, fun c2 => ?_⟩
  · have h := h.1 c2
    exact hp _ h
  · have h := h.2 c2
    refine t_X9_within R  h (fun r3 h => ?_)
    refine ⟨fun c4 => ?_, fun c4 => ?_⟩
    · have h := h.1 c4
      exact hp _ h
    · have h := h.2 c4
      refine t_X9_isOwed R  h (fun r5 h => ?_)
      refine ⟨fun c6 => ?_, fun c6 => ?_⟩
      · have h := h.1 c6
        refine t_X9_getsUp R  h (fun r7 h => ?_)
        refine ⟨fun c8 => ?_, fun c8 => ?_⟩
        · have h := h.1 c8
          exact hp _ h
        · have h := h.2 c8
          exact hp _ h
      · have h := h.2 c6
        exact hp _ h
def tk_X9_trust_23 (st : TS) (post : Int32 → Prop) (Y : TY) (v0 : Nat) (v1 : Int32) (v2 : Int32)  : Nat → Int32 → Prop
  | 0, _ => False
  | k + 1, b23_3 => ((1000 : Int32) < b23_3 → post (1001 : Int32)) ∧ (¬ (1000 : Int32) < b23_3 → tp_X9_getsUp st (fun r7 => (r7 = 0 → ∀ x9 : Int32, x9 = b23_3 + (1 : Int32) → (tk_X9_trust_23 st post Y v0 v1 v2 k) x9) ∧ (¬ r7 = 0 → post b23_3)) Y b23_3 v1 v2)
def tp_X9_trust (st : TS) (post : Int32 → Prop) (Y : TY) (v0 : Nat) (v1 : Int32) (v2 : Int32) : Prop := tp_X9_within st (fun r1 => (r1 = 0 → post (-2 : Int32)) ∧ (¬ r1 = 0 → tp_X9_isOwed st (fun r3 => (¬ r3 = 0 → ∃ n5 : Nat, tk_X9_trust_23 st post Y v0 v1 v2 n5 (0 : Int32)) ∧ (r3 = 0 → post (-2 : Int32))) Y v2)) Y v1 (0 : Int32) (10000 : Int32)
set_option maxHeartbeats 4000000 in
set_option maxRecDepth 100000 in
theorem t_X9_trust {st : TS} {aa : Nat → Nat → Nat} {Y : TY} {X : Hp} {postT : Int32 → Prop} {post : Int32 → Prop} {v0 : Nat} {v1 : Int32} {v2 : Int32} (R : Rel st aa Y X) (hk_v0 : tK Y v0 = 9) (h : tp_X9_trust st postT Y v0 v1 v2) (hp : ∀ (r : Int32) , postT r → post r ) : wp_X9_trust post X v0 v1 v2 := by
  unfold tp_X9_trust at h
  unfold wp_X9_trust
  have J_23 : ∀ (n : Nat) (b23_3 : Int32), ∀ (_ : tk_X9_trust_23 st postT Y v0 v1 v2  n b23_3), bk_X9_trust_23 post X v0 v1 v2  n b23_3 := by
    intro n
    induction n with
    | zero =>
      intro b23_3 h  
      rw [tk_X9_trust_23] at h
      exact h.elim
    | succ n_23 ih_23 =>
      intro b23_3 h  
      rw [tk_X9_trust_23] at h
      rw [bk_X9_trust_23]
      refine ⟨fun c6 => ?_, fun c6 => ?_⟩
      · have h := h.1 c6
        exact hp _ h
      · have h := h.2 c6
        refine t_X9_getsUp R  h (fun r7 h => ?_)
        refine ⟨fun c8 => ?_, fun c8 => ?_⟩
        · have h := h.1 c8
          intro x9 ex9
          have h := h x9 ex9
          exact ih_23 _ h  
        · have h := h.2 c8
          exact hp _ h
  refine t_X9_within R  h (fun r1 h => ?_)
  refine ⟨fun c2 => ?_, fun c2 => ?_⟩
  · have h := h.1 c2
    exact hp _ h
  · have h := h.2 c2
    refine t_X9_isOwed R  h (fun r3 h => ?_)
    refine ⟨fun c4 => ?_, fun c4 => ?_⟩
    · have h := h.1 c4
      obtain ⟨n5, h⟩ := h
      exact ⟨n5, J_23 n5 _ h  ⟩
    · have h := h.2 c4
      exact hp _ h
def tp_X9_draw (st : TS) (post : Int32 → TY → Prop) (Y : TY) (v0 : Nat) (v1 : Int32) (v2 : Int32) (v3 : Int32) (v4 : Int32) : Prop := tp_X9_wayOf st (fun r1 => (r1 = none → post (-1 : Int32) Y) ∧ (∀ y2 : Nat, r1 = some y2 → tp_X9_isOwed st (fun r4 => (r4 = 0 → post (-2 : Int32) Y) ∧ (¬ r4 = 0 → tp_X9_isBattery st (fun r6 => (r6 = 0 → post (-2 : Int32) Y) ∧ (¬ r6 = 0 → tp_X9_within st (fun r8 => (¬ r8 = 0 → tp_X3_faultPlace st (fun r11 => (r11 = (-6 : Int32) → tp_X0_setOut st (fun Y14 => tp_X0_sailBy st (fun r16 Y15 => tp_X7_struckBy st (fun r18 => post r18 Y15) Y15 (st.1 (st.1 v0 5) 1) v4) Y14 (st.1 v0 5) (st.1 v0 4)) Y (st.1 v0 5) y2 v2 v3) ∧ (¬ r11 = (-6 : Int32) → post (-5 : Int32) Y)) Y (st.1 v0 4)) ∧ (r8 = 0 → post (-2 : Int32) Y)) Y v4 (0 : Int32) (9999 : Int32))) Y v3)) Y v2)) Y v0 v1
set_option maxHeartbeats 4000000 in
set_option maxRecDepth 100000 in
theorem t_X9_draw {st : TS} {aa : Nat → Nat → Nat} {Y : TY} {X : Hp} {postT : Int32 → TY → Prop} {post : Int32 → Hp → Prop} {v0 : Nat} {v1 : Int32} {v2 : Int32} {v3 : Int32} {v4 : Int32} (R : Rel st aa Y X) (hk_v0 : tK Y v0 = 9) (h : tp_X9_draw st postT Y v0 v1 v2 v3 v4) (hp : ∀ (r : Int32) (Y' : TY) (X' : Hp), postT r Y' → Rel st aa Y' X' → (∀ a, tK Y' a = tK Y a) → post r X') : wp_X9_draw post X v0 v1 v2 v3 v4 := by
  unfold tp_X9_draw at h
  unfold wp_X9_draw
  have hE0 : ∀ a, tK Y a = tK Y a := fun a => rfl
  obtain ⟨Y0, hY0⟩ : ∃ Z : TY, Z = Y := ⟨_, rfl⟩
  have hE0 : ∀ a, tK Y a = tK Y0 a := by rw [hY0]; exact hE0
  rw [← hY0] at hp
  refine ⟨_, ob_9 R hk_v0, t_X9_wayOf R hk_v0 h (fun r1 h hq => ?_)⟩
  refine ⟨fun c3 => ?_, fun y2 c3 => ?_⟩
  · have h := h.1 c3
    exact hp _ _ _ h R hE0
  · have h := h.2 y2 c3
    have ky2 := hq y2 c3
    refine t_X9_isOwed R  h (fun r4 h => ?_)
    refine ⟨fun c5 => ?_, fun c5 => ?_⟩
    · have h := h.1 c5
      exact hp _ _ _ h R hE0
    · have h := h.2 c5
      refine t_X9_isBattery R  h (fun r6 h => ?_)
      refine ⟨fun c7 => ?_, fun c7 => ?_⟩
      · have h := h.1 c7
        exact hp _ _ _ h R hE0
      · have h := h.2 c7
        refine t_X9_within R  h (fun r8 h => ?_)
        refine ⟨fun c9 => ?_, fun c9 => ?_⟩
        · have h := h.1 c9
          refine ⟨_, _, ob_9 R hk_v0, rfl, ?_⟩
          have k10 := wf_9_4 R hk_v0
          refine ⟨_, ob_3 R k10, t_X3_faultPlace R k10 h (fun r11 h => ?_)⟩
          refine ⟨fun c12 => ?_, fun c12 => ?_⟩
          · have h := h.1 c12
            refine ⟨_, _, ob_9 R hk_v0, rfl, ?_⟩
            have k13 := wf_9_5 R hk_v0
            refine ⟨_, ob_0 R k13, t_X0_setOut R k13 ky2 h (fun Y X h R hE => ?_)⟩
            have hk_v0 := (hE _).trans hk_v0
            have k10 := (hE _).trans k10
            have k13 := (hE _).trans k13
            have ky2 := (hE _).trans ky2
            have hE0 := fun a => (hE a).trans (hE0 a)
            refine ⟨_, _, ob_9 R hk_v0, rfl, ?_⟩
            refine ⟨_, _, ob_9 R hk_v0, rfl, ?_⟩
            refine ⟨_, ob_0 R k13, t_X0_sailBy R k13 k10 h (fun r16 Y X h R hE => ?_)⟩
            have hk_v0 := (hE _).trans hk_v0
            have k10 := (hE _).trans k10
            have k13 := (hE _).trans k13
            have ky2 := (hE _).trans ky2
            have hE0 := fun a => (hE a).trans (hE0 a)
            refine ⟨_, _, ob_9 R hk_v0, rfl, ?_⟩
            refine ⟨_, _, ob_0 R k13, rfl, ?_⟩
            have k17 := wf_0_1 R k13
            refine ⟨_, ob_7 R k17, t_X7_struckBy R k17 h (fun r18 h => ?_)⟩
            exact hp _ _ _ h R hE0
          · have h := h.2 c12
            exact hp _ _ _ h R hE0
        · have h := h.2 c9
          exact hp _ _ _ h R hE0
def tp_X9_image (st : TS) (post : Int32 → TY → Prop) (Y : TY) (v0 : Nat) (v1 : Int32) : Prop := tp_X9_within st (fun r1 => (¬ r1 = 0 → vp_in v1 2 ∧ ∃ y3 : Nat, st.2 v0 1 v1.toNatClampNeg = some y3 ∧ tp_X1_copy st (fun Y5 => vp_in v1 2 ∧ ∀ Y6 : TY, Y6 = sF Y5 v0 2 (upd (tA Y5 v0 2) v1.toNatClampNeg (vp_nar .boolean (1 : Int32))) → post (1 : Int32) Y6) Y y3 (st.1 v0 0)) ∧ (r1 = 0 → post (-2 : Int32) Y)) Y v1 (0 : Int32) (1 : Int32)
set_option maxHeartbeats 4000000 in
set_option maxRecDepth 100000 in
theorem t_X9_image {st : TS} {aa : Nat → Nat → Nat} {Y : TY} {X : Hp} {postT : Int32 → TY → Prop} {post : Int32 → Hp → Prop} {v0 : Nat} {v1 : Int32} (R : Rel st aa Y X) (hk_v0 : tK Y v0 = 9) (h : tp_X9_image st postT Y v0 v1) (hp : ∀ (r : Int32) (Y' : TY) (X' : Hp), postT r Y' → Rel st aa Y' X' → (∀ a, tK Y' a = tK Y a) → post r X') : wp_X9_image post X v0 v1 := by
  unfold tp_X9_image at h
  unfold wp_X9_image
  have hE0 : ∀ a, tK Y a = tK Y a := fun a => rfl
  obtain ⟨Y0, hY0⟩ : ∃ Z : TY, Z = Y := ⟨_, rfl⟩
  have hE0 : ∀ a, tK Y a = tK Y0 a := by rw [hY0]; exact hE0
  rw [← hY0] at hp
  refine t_X9_within R  h (fun r1 h => ?_)
  refine ⟨fun c2 => ?_, fun c2 => ?_⟩
  · have h := h.1 c2
    refine ⟨_, _, ob_9 R hk_v0, rfl, ?_⟩
    obtain ⟨hi, y3, qy3, h⟩ := h
    refine ⟨_, _, y3, ar_9_1 R hk_v0, hi, qy3, ?_⟩
    have ky3 := wf_9_1 R hk_v0 qy3
    refine ⟨_, _, ob_9 R hk_v0, rfl, ?_⟩
    have k4 := wf_9_0 R hk_v0
    refine ⟨_, ob_1 R ky3, t_X1_copy R ky3 k4 h (fun Y X h R hE => ?_)⟩
    have hk_v0 := (hE _).trans hk_v0
    have k4 := (hE _).trans k4
    have ky3 := (hE _).trans ky3
    have hE0 := fun a => (hE a).trans (hE0 a)
    refine ⟨_, _, ob_9 R hk_v0, rfl, ?_⟩
    refine ⟨_, _, ar_9_2 R hk_v0, h.1, fun X1 e1 => ?_⟩
    have h := h.2 _ rfl
    have R := as_9_2 R hk_v0 e1
    exact hp _ _ _ h R hE0
  · have h := h.2 c2
    exact hp _ _ _ h R hE0
def tp_X9_restore (st : TS) (post : Int32 → TY → Prop) (Y : TY) (v0 : Nat) (v1 : Int32) : Prop := tp_X9_within st (fun r1 => (¬ r1 = 0 → vp_in v1 2 ∧ (¬ (tA Y v0 2 v1.toNatClampNeg) = 0 → vp_in v1 2 ∧ ∃ y5 : Nat, st.2 v0 1 v1.toNatClampNeg = some y5 ∧ tp_X1_copy st (fun Y6 => tp_X9_forgetPlans st (fun Y7 => post (1 : Int32) Y7) Y6 v0) Y (st.1 v0 0) y5) ∧ ((tA Y v0 2 v1.toNatClampNeg) = 0 → post (-3 : Int32) Y)) ∧ (r1 = 0 → post (-2 : Int32) Y)) Y v1 (0 : Int32) (1 : Int32)
set_option maxHeartbeats 4000000 in
set_option maxRecDepth 100000 in
theorem t_X9_restore {st : TS} {aa : Nat → Nat → Nat} {Y : TY} {X : Hp} {postT : Int32 → TY → Prop} {post : Int32 → Hp → Prop} {v0 : Nat} {v1 : Int32} (R : Rel st aa Y X) (hk_v0 : tK Y v0 = 9) (h : tp_X9_restore st postT Y v0 v1) (hp : ∀ (r : Int32) (Y' : TY) (X' : Hp), postT r Y' → Rel st aa Y' X' → (∀ a, tK Y' a = tK Y a) → post r X') : wp_X9_restore post X v0 v1 := by
  unfold tp_X9_restore at h
  unfold wp_X9_restore
  have hE0 : ∀ a, tK Y a = tK Y a := fun a => rfl
  obtain ⟨Y0, hY0⟩ : ∃ Z : TY, Z = Y := ⟨_, rfl⟩
  have hE0 : ∀ a, tK Y a = tK Y0 a := by rw [hY0]; exact hE0
  rw [← hY0] at hp
  refine t_X9_within R  h (fun r1 h => ?_)
  refine ⟨fun c2 => ?_, fun c2 => ?_⟩
  · have h := h.1 c2
    refine ⟨_, _, ob_9 R hk_v0, rfl, ?_⟩
    refine ⟨_, _, ar_9_2 R hk_v0, h.1, ?_⟩
    have h := h.2
    refine ⟨fun c3 => ?_, fun c3 => ?_⟩
    · have h := h.1 c3
      refine ⟨_, _, ob_9 R hk_v0, rfl, ?_⟩
      have k4 := wf_9_0 R hk_v0
      refine ⟨_, _, ob_9 R hk_v0, rfl, ?_⟩
      obtain ⟨hi, y5, qy5, h⟩ := h
      refine ⟨_, _, y5, ar_9_1 R hk_v0, hi, qy5, ?_⟩
      have ky5 := wf_9_1 R hk_v0 qy5
      refine ⟨_, ob_1 R k4, t_X1_copy R k4 ky5 h (fun Y X h R hE => ?_)⟩
      have hk_v0 := (hE _).trans hk_v0
      have k4 := (hE _).trans k4
      have ky5 := (hE _).trans ky5
      have hE0 := fun a => (hE a).trans (hE0 a)
      refine ⟨_, ob_9 R hk_v0, t_X9_forgetPlans R hk_v0 h (fun Y X h R hE => ?_)⟩
      have hk_v0 := (hE _).trans hk_v0
      have k4 := (hE _).trans k4
      have ky5 := (hE _).trans ky5
      have hE0 := fun a => (hE a).trans (hE0 a)
      exact hp _ _ _ h R hE0
    · have h := h.2 c3
      exact hp _ _ _ h R hE0
  · have h := h.2 c2
    exact hp _ _ _ h R hE0
def tp_X9_told (st : TS) (post : Int32 → Prop) (Y : TY) (v0 : Nat) (v1 : Int32) : Prop := tp_X9_within st (fun r1 => (¬ r1 = 0 → (¬ v1 = 0 → ((2 : Int32) < v1 → ((4 : Int32) < v1 → ((7 : Int32) < v1 → vp_in (v1 - (7 : Int32)) 4 ∧ post (tA Y (st.1 (st.1 v0 0) 1) 1 (v1 - (7 : Int32)).toNatClampNeg)) ∧ (¬ (7 : Int32) < v1 → vp_in (v1 - (4 : Int32)) 4 ∧ post (tA Y (st.1 (st.1 v0 0) 1) 0 (v1 - (4 : Int32)).toNatClampNeg))) ∧ (¬ (4 : Int32) < v1 → vp_in (v1 - (3 : Int32)) 2 ∧ ∃ y12 : Nat, st.2 (st.1 v0 0) 0 (v1 - (3 : Int32)).toNatClampNeg = some y12 ∧ post (tI Y y12 1))) ∧ (¬ (2 : Int32) < v1 → vp_in (v1 - (1 : Int32)) 2 ∧ ∃ y14 : Nat, st.2 (st.1 v0 0) 0 (v1 - (1 : Int32)).toNatClampNeg = some y14 ∧ post (tI Y y14 0))) ∧ (v1 = 0 → post (tI Y (st.1 v0 4) 0))) ∧ (r1 = 0 → post (-2 : Int32))) Y v1 (0 : Int32) (10 : Int32)
set_option maxHeartbeats 4000000 in
set_option maxRecDepth 100000 in
theorem t_X9_told {st : TS} {aa : Nat → Nat → Nat} {Y : TY} {X : Hp} {postT : Int32 → Prop} {post : Int32 → Prop} {v0 : Nat} {v1 : Int32} (R : Rel st aa Y X) (hk_v0 : tK Y v0 = 9) (h : tp_X9_told st postT Y v0 v1) (hp : ∀ (r : Int32) , postT r → post r ) : wp_X9_told post X v0 v1 := by
  unfold tp_X9_told at h
  unfold wp_X9_told
  refine t_X9_within R  h (fun r1 h => ?_)
  refine ⟨fun c2 => ?_, fun c2 => ?_⟩
  · have h := h.1 c2
    refine ⟨fun c3 => ?_, fun c3 => ?_⟩
    · have h := h.1 c3
      refine ⟨fun c4 => ?_, fun c4 => ?_⟩
      · have h := h.1 c4
        refine ⟨fun c5 => ?_, fun c5 => ?_⟩
        · have h := h.1 c5
          refine ⟨fun c6 => ?_, fun c6 => ?_⟩
          · have h := h.1 c6
            refine ⟨_, _, ob_9 R hk_v0, rfl, ?_⟩
            have k7 := wf_9_0 R hk_v0
            refine ⟨_, _, ob_1 R k7, rfl, ?_⟩
            have k8 := wf_1_1 R k7
            refine ⟨_, _, ob_2 R k8, rfl, ?_⟩
            refine ⟨_, _, ar_2_1 R k8, h.1, ?_⟩
            have h := h.2
            exact hp _ h
          · have h := h.2 c6
            refine ⟨_, _, ob_9 R hk_v0, rfl, ?_⟩
            have k9 := wf_9_0 R hk_v0
            refine ⟨_, _, ob_1 R k9, rfl, ?_⟩
            have k10 := wf_1_1 R k9
            refine ⟨_, _, ob_2 R k10, rfl, ?_⟩
            refine ⟨_, _, ar_2_0 R k10, h.1, ?_⟩
            have h := h.2
            exact hp _ h
        · have h := h.2 c5
          refine ⟨_, _, ob_9 R hk_v0, rfl, ?_⟩
          have k11 := wf_9_0 R hk_v0
          refine ⟨_, _, ob_1 R k11, rfl, ?_⟩
          obtain ⟨hi, y12, qy12, h⟩ := h
          refine ⟨_, _, y12, ar_1_0 R k11, hi, qy12, ?_⟩
          have ky12 := wf_1_0 R k11 qy12
          refine ⟨_, _, ob_8 R ky12, rfl, ?_⟩
          exact hp _ h
      · have h := h.2 c4
        refine ⟨_, _, ob_9 R hk_v0, rfl, ?_⟩
        have k13 := wf_9_0 R hk_v0
        refine ⟨_, _, ob_1 R k13, rfl, ?_⟩
        obtain ⟨hi, y14, qy14, h⟩ := h
        refine ⟨_, _, y14, ar_1_0 R k13, hi, qy14, ?_⟩
        have ky14 := wf_1_0 R k13 qy14
        refine ⟨_, _, ob_8 R ky14, rfl, ?_⟩
        exact hp _ h
    · have h := h.2 c3
      refine ⟨_, _, ob_9 R hk_v0, rfl, ?_⟩
      have k15 := wf_9_4 R hk_v0
      refine ⟨_, _, ob_3 R k15, rfl, ?_⟩
      exact hp _ h
  · have h := h.2 c2
    exact hp _ h
