def tk_X4_forget_31 (st : TS) (post : TY → Prop) (v0 : Nat) (r_2 : TY → Int32 → Prop) (Y : TY) (b31_1 : Int32) : Prop := ∀ x8 : Int32, x8 = b31_1 + (1 : Int32) → r_2 Y x8
def tk_X4_forget_2 (st : TS) (post : TY → Prop) (v0 : Nat)  : Nat → TY → Int32 → Prop
  | 0, _, _ => False
  | k + 1, Y, b2_1 => ((nI 125) ≤ b2_1 → post Y) ∧ (¬ (nI 125) ≤ b2_1 → vp_in b2_1 125 ∧ (tP Y v0 b2_1.toNatClampNeg = none → tk_X4_forget_31 st post v0 (tk_X4_forget_2 st post v0 k) Y b2_1) ∧ (∀ y3 : Nat, tP Y v0 b2_1.toNatClampNeg = some y3 → vp_in b2_1 125 ∧ (tP Y v0 b2_1.toNatClampNeg = none → False) ∧ (∀ y5 : Nat, tP Y v0 b2_1.toNatClampNeg = some y5 → ∀ Y7 : TY, Y7 = sI Y y5 0 (49 : Int32) → tk_X4_forget_31 st post v0 (tk_X4_forget_2 st post v0 k) Y7 b2_1)))
def tp_X4_forget (st : TS) (post : TY → Prop) (Y : TY) (v0 : Nat) : Prop := ∃ n1 : Nat, tk_X4_forget_2 st post v0 n1 Y (0 : Int32)
set_option maxHeartbeats 4000000 in
set_option maxRecDepth 100000 in
theorem t_X4_forget {st : TS} {aa : Nat → Nat → Nat} {Y : TY} {X : Hp} {postT : TY → Prop} {post : Hp → Prop} {v0 : Nat} (R : Rel st aa Y X) (hk_v0 : tK Y v0 = 4) (h : tp_X4_forget st postT Y v0) (hp : ∀ (Y' : TY) (X' : Hp), postT Y' → Rel st aa Y' X' → (∀ a, tK Y' a = tK Y a) → post X') : wp_X4_forget post X v0 := by
  unfold tp_X4_forget at h
  unfold wp_X4_forget
  have hE0 : ∀ a, tK Y a = tK Y a := fun a => rfl
  obtain ⟨Y0, hY0⟩ : ∃ Z : TY, Z = Y := ⟨_, rfl⟩
  have hE0 : ∀ a, tK Y a = tK Y0 a := by rw [hY0]; exact hE0
  rw [← hY0] at hp
  have J_2 : ∀ (n : Nat) (Y : TY) (b2_1 : Int32), ∀ (X : Hp) (_ : tk_X4_forget_2 st postT v0  n Y b2_1), Rel st aa Y X → (∀ a, tK Y a = tK Y0 a) → tK Y v0 = 4 → bk_X4_forget_2 post v0  n X b2_1 := by
    intro n
    induction n with
    | zero =>
      intro Y b2_1 X h R hE0 hk_v0 
      rw [tk_X4_forget_2] at h
      exact h.elim
    | succ n_2 ih_2 =>
      have J_31 : ∀ (Y : TY) (b31_1 : Int32), ∀ (X : Hp) (_ : tk_X4_forget_31 st postT v0 (tk_X4_forget_2 st postT v0 n_2) Y b31_1), Rel st aa Y X → (∀ a, tK Y a = tK Y0 a) → tK Y v0 = 4 → bk_X4_forget_31 post v0 (bk_X4_forget_2 post v0 n_2) X b31_1 := by
        intro Y b31_1 X h R hE0 hk_v0 
        unfold tk_X4_forget_31 at h
        unfold bk_X4_forget_31
        intro x8 ex8
        have h := h x8 ex8
        exact ih_2 _ _ _ h R hE0 (hk_v0) 
      intro Y b2_1 X h R hE0 hk_v0 
      rw [tk_X4_forget_2] at h
      rw [bk_X4_forget_2]
      refine ⟨_, _, ob_4 R hk_v0, rfl, ?_⟩
      refine ⟨_, _, ar_4_3 R hk_v0, ?_⟩
      refine ⟨fun c2 => ?_, fun c2 => ?_⟩
      · have h := h.1 c2
        exact hp _ _ h R hE0
      · have h := h.2 c2
        refine ⟨_, _, ob_4 R hk_v0, rfl, ?_⟩
        refine ⟨_, _, ar_4_3 R hk_v0, h.1, fun c4 => ?_, fun y3 c4 => ?_⟩
        · have h := h.2.1 c4
          exact J_31 _ _ _ h R hE0 (hk_v0) 
        · have h := h.2.2 y3 c4
          have ky3 := wf_4_3 R hk_v0 c4
          refine ⟨_, _, ob_4 R hk_v0, rfl, ?_⟩
          refine ⟨_, _, ar_4_3 R hk_v0, h.1, fun c6 => ?_, fun y5 c6 => ?_⟩
          · have h := h.2.1 c6
            exact h.elim
          · have h := h.2.2 y5 c6
            have ky5 := wf_4_3 R hk_v0 c6
            refine ⟨_, ob_5 R ky5, (by decide : 0 < 2), fun X1 e1 => ?_⟩
            have h := h _ rfl
            have R := pu_5_0 R ky5 e1
            exact J_31 _ _ _ h R hE0 (hk_v0) 
  obtain ⟨n1, h⟩ := h
  exact ⟨n1, J_2 n1 _ _ _ h R hE0 (hk_v0) ⟩
def tp_X4_reaches (st : TS) (post : Int32 → Prop) (Y : TY) (v0 : Nat) (v1 : Int32) (v2 : Int32) : Prop := tp_X9_within st (fun r2 => (r2 = 0 → post (0 : Int32)) ∧ (¬ r2 = 0 → tp_X9_within st (fun r4 => (r4 = 0 → post (0 : Int32)) ∧ (¬ r4 = 0 → post (1 : Int32))) Y v2 (0 : Int32) (4 : Int32))) Y v1 (0 : Int32) (tI Y (st.1 v0 0) 1)
set_option maxHeartbeats 4000000 in
set_option maxRecDepth 100000 in
theorem t_X4_reaches {st : TS} {aa : Nat → Nat → Nat} {Y : TY} {X : Hp} {postT : Int32 → Prop} {post : Int32 → Prop} {v0 : Nat} {v1 : Int32} {v2 : Int32} (R : Rel st aa Y X) (hk_v0 : tK Y v0 = 4) (h : tp_X4_reaches st postT Y v0 v1 v2) (hp : ∀ (r : Int32) , postT r → post r ) : wp_X4_reaches post X v0 v1 v2 := by
  unfold tp_X4_reaches at h
  unfold wp_X4_reaches
  refine ⟨_, _, ob_4 R hk_v0, rfl, ?_⟩
  have k1 := wf_4_0 R hk_v0
  refine ⟨_, _, ob_8 R k1, rfl, ?_⟩
  refine t_X9_within R  h (fun r2 h => ?_)
  refine ⟨fun c3 => ?_, fun c3 => ?_⟩
  · have h := h.1 c3
    exact hp _ h
  · have h := h.2 c3
    refine t_X9_within R  h (fun r4 h => ?_)
    refine ⟨fun c5 => ?_, fun c5 => ?_⟩
    · have h := h.1 c5
      exact hp _ h
    · have h := h.2 c5
      exact hp _ h
def tk_X4_planeBehind_55 (st : TS) (post : Option Nat → TY → Prop) (mc ms : Nat) (v0 : Nat) (v1 : Int32) (v2 : Int32) (v3 : Int32) (v4 : Int32)  (Y : TY) (kc : Nat) (ks : Nat) (b55_s0 : Int32) (b55_s1 : Int32) (b55_s2 : Int32) : Prop := ∃ m9 m10 : Nat, kc + m9 ≤ mc ∧ ks + m10 ≤ ms ∧ tp_X4_planeOf st (fun r12 Y11 => (r12 = none → (kc + m9) ≤ mc ∧ (ks + m10) ≤ ms ∧ post none Y11) ∧ (∀ y13 : Nat, r12 = some y13 → (kc + m9) ≤ mc ∧ (ks + m10) ≤ ms ∧ post (some y13) Y11)) m9 m10 Y v0 b55_s2 b55_s1 b55_s0
def tk_X4_planeBehind_25 (st : TS) (post : Option Nat → TY → Prop) (mc ms : Nat) (v0 : Nat) (v1 : Int32) (v2 : Int32) (v3 : Int32) (v4 : Int32)  (Y : TY) (kc : Nat) (ks : Nat) : Prop := kc ≤ mc ∧ ks ≤ ms ∧ post none Y
def tp_X4_planeBehind (st : TS) (post : Option Nat → TY → Prop) (mc ms : Nat) (Y : TY) (v0 : Nat) (v1 : Int32) (v2 : Int32) (v3 : Int32) (v4 : Int32) : Prop := ∀ x1 : Int32, x1 = (v4 / (2 : Int32)) → (v4 = (1 : Int32) → tk_X4_planeBehind_25 st post mc ms v0 v1 v2 v3 v4 Y 0 0) ∧ (¬ v4 = (1 : Int32) → 0 ≤ mc ∧ 0 ≤ ms ∧ tp_X8_lets st (fun r4 => (¬ r4 = 0 → 0 ≤ mc ∧ 0 ≤ ms ∧ tp_X9_hoursOf st (fun r6 => 0 ≤ mc ∧ 0 ≤ ms ∧ tp_X9_batteryOf st (fun r7 => (¬ x1 = (4 : Int32) → tk_X4_planeBehind_55 st post mc ms v0 v1 v2 v3 v4 Y 0 0 v3 ((v2 - r7)) ((v1 + r6))) ∧ (x1 = (4 : Int32) → tk_X4_planeBehind_55 st post mc ms v0 v1 v2 v3 v4 Y 0 0 ((v3 - (1 : Int32))) ((v2 - r7)) ((v1 + r6)))) Y v4) Y x1) ∧ (r4 = 0 → tk_X4_planeBehind_25 st post mc ms v0 v1 v2 v3 v4 Y 0 0)) Y (st.1 v0 0) v1 x1)
set_option maxHeartbeats 4000000 in
set_option maxRecDepth 100000 in
theorem t_X4_planeBehind {st : TS} {aa : Nat → Nat → Nat} {Y : TY} {X : Hp} {postT : Option Nat → TY → Prop} {post : Option Nat → Hp → Prop} {mc ms : Nat} {v0 : Nat} {v1 : Int32} {v2 : Int32} {v3 : Int32} {v4 : Int32} (R : Rel st aa Y X) (hk_v0 : tK Y v0 = 4) (h : tp_X4_planeBehind st postT mc ms Y v0 v1 v2 v3 v4) (hp : ∀ (r : Option Nat) (Y' : TY) (X' : Hp) (aa' : Nat → Nat → Nat), postT r Y' → Rel st aa' Y' X' → (∀ a, tK Y a < 11 → tK Y' a = tK Y a) → (∀ b : Nat, r = some b → tK Y' b = 5) → post r X') : wp_X4_planeBehind post mc ms X v0 v1 v2 v3 v4 := by
  unfold tp_X4_planeBehind at h
  unfold wp_X4_planeBehind
  have hE0 : ∀ a, tK Y a < 11 → tK Y a = tK Y a := fun a _ => rfl
  obtain ⟨Y0, hY0⟩ : ∃ Z : TY, Z = Y := ⟨_, rfl⟩
  have hE0 : ∀ a, tK Y0 a < 11 → tK Y a = tK Y0 a := by rw [hY0]; exact hE0
  rw [← hY0] at hp
  have J_55 : ∀ (Y : TY) (kc : Nat) (ks : Nat) (b55_s0 : Int32) (b55_s1 : Int32) (b55_s2 : Int32), ∀ (X : Hp) (aa : Nat → Nat → Nat) (_ : tk_X4_planeBehind_55 st postT mc ms v0 v1 v2 v3 v4  Y kc ks b55_s0 b55_s1 b55_s2), Rel st aa Y X → (∀ a, tK Y0 a < 11 → tK Y a = tK Y0 a) → tK Y v0 = 4 → bk_X4_planeBehind_55 post mc ms v0 v1 v2 v3 v4  X kc ks b55_s0 b55_s1 b55_s2 := by
    intro Y kc ks b55_s0 b55_s1 b55_s2 X aa h R hE0 hk_v0 
    unfold tk_X4_planeBehind_55 at h
    unfold bk_X4_planeBehind_55
    obtain ⟨m9, m10, hm1, hm2, h⟩ := h
    refine ⟨_, ob_4 R hk_v0, m9, m10, hm1, hm2, t_X4_planeOf R hk_v0 h (fun r12 Y X aa h R hE hq => ?_)⟩
    have hk_v0 := (hE _ (by rw [hk_v0]; decide)).trans hk_v0
    have hE0 := fun a q => (hE a (by rw [hE0 a q]; exact q)).trans (hE0 a q)
    refine ⟨fun c14 => ?_, fun y13 c14 => ?_⟩
    · have h := h.1 c14
      obtain ⟨hq1, hq2, h⟩ := h
      exact ⟨hq1, hq2, hp _ _ _ _ h R hE0 (fun _ q => by cases q)⟩
    · have h := h.2 y13 c14
      have ky13 := hq y13 c14
      obtain ⟨hq1, hq2, h⟩ := h
      exact ⟨hq1, hq2, hp _ _ _ _ h R hE0 (fun _ q => by cases q; exact ky13)⟩
  have J_25 : ∀ (Y : TY) (kc : Nat) (ks : Nat), ∀ (X : Hp) (aa : Nat → Nat → Nat) (_ : tk_X4_planeBehind_25 st postT mc ms v0 v1 v2 v3 v4  Y kc ks), Rel st aa Y X → (∀ a, tK Y0 a < 11 → tK Y a = tK Y0 a) → tK Y v0 = 4 → bk_X4_planeBehind_25 post mc ms v0 v1 v2 v3 v4  X kc ks := by
    intro Y kc ks X aa h R hE0 hk_v0 
    unfold tk_X4_planeBehind_25 at h
    unfold bk_X4_planeBehind_25
    obtain ⟨hq1, hq2, h⟩ := h
    exact ⟨hq1, hq2, hp _ _ _ _ h R hE0 (fun _ q => by cases q)⟩
  intro x1 ex1
  have h := h x1 ex1
  refine ⟨fun c2 => ?_, fun c2 => ?_⟩
  · have h := h.1 c2
    exact J_25 _ _ _ _ _ h R hE0 (hk_v0) 
  · have h := h.2 c2
    refine ⟨_, _, ob_4 R hk_v0, rfl, ?_⟩
    have k3 := wf_4_0 R hk_v0
    obtain ⟨hq1, hq2, h⟩ := h
    refine ⟨_, ob_8 R k3, hq1, hq2, t_X8_lets R k3 h (fun r4 h => ?_)⟩
    refine ⟨fun c5 => ?_, fun c5 => ?_⟩
    · have h := h.1 c5
      obtain ⟨hq1, hq2, h⟩ := h
      refine ⟨hq1, hq2, t_X9_hoursOf R  h (fun r6 h => ?_)⟩
      obtain ⟨hq1, hq2, h⟩ := h
      refine ⟨hq1, hq2, t_X9_batteryOf R  h (fun r7 h => ?_)⟩
      refine ⟨fun c8 => ?_, fun c8 => ?_⟩
      · have h := h.1 c8
        exact J_55 _ _ _ _ _ _ _ _ h R hE0 (hk_v0) 
      · have h := h.2 c8
        exact J_55 _ _ _ _ _ _ _ _ h R hE0 (hk_v0) 
    · have h := h.2 c5
      exact J_25 _ _ _ _ _ h R hE0 (hk_v0) 
def tk_X4_weigh_53 (st : TS) (post : TY → Prop) (v0 : Nat) (v1 : Nat) (v2 : Int32) (v3 : Int32) (v4 : Nat) (r_3 : TY → Int32 → Prop) (Y : TY) (b53_5 : Int32) : Prop := ∀ x8 : Int32, x8 = b53_5 + (1 : Int32) → r_3 Y x8
def tk_X4_weigh_3 (st : TS) (post : TY → Prop) (v0 : Nat) (v1 : Nat) (v2 : Int32) (v3 : Int32) (v4 : Nat)  : Nat → TY → Int32 → Prop
  | 0, _, _ => False
  | k + 1, Y, b3_5 => ((21 : Int32) ≤ b3_5 → post Y) ∧ (¬ (21 : Int32) ≤ b3_5 → tp_X6_safeBy st (fun r4 => tp_X5_at st (fun r5 => (r4 ≤ r5 → tk_X4_weigh_53 st post v0 v1 v2 v3 v4 (tk_X4_weigh_3 st post v0 v1 v2 v3 v4 k) Y b3_5) ∧ (¬ r4 ≤ r5 → tp_X5_put st (fun Y7 => tk_X4_weigh_53 st post v0 v1 v2 v3 v4 (tk_X4_weigh_3 st post v0 v1 v2 v3 v4 k) Y7 b3_5) Y v1 ((v2 * (21 : Int32)) + b3_5) r4)) Y v1 ((v2 * (21 : Int32)) + b3_5)) Y (st.1 v0 2) v3 b3_5 v4)
def tp_X4_weigh (st : TS) (post : TY → Prop) (Y : TY) (v0 : Nat) (v1 : Nat) (v2 : Int32) (v3 : Int32) (v4 : Nat) : Prop := ∃ n1 : Nat, tk_X4_weigh_3 st post v0 v1 v2 v3 v4 n1 Y (0 : Int32)
set_option maxHeartbeats 4000000 in
set_option maxRecDepth 100000 in
theorem t_X4_weigh {st : TS} {aa : Nat → Nat → Nat} {Y : TY} {X : Hp} {postT : TY → Prop} {post : Hp → Prop} {v0 : Nat} {v1 : Nat} {v2 : Int32} {v3 : Int32} {v4 : Nat} (R : Rel st aa Y X) (hk_v0 : tK Y v0 = 4) (hk_v1 : tK Y v1 = 5) (hk_v4 : tK Y v4 = 5) (h : tp_X4_weigh st postT Y v0 v1 v2 v3 v4) (hp : ∀ (Y' : TY) (X' : Hp), postT Y' → Rel st aa Y' X' → (∀ a, tK Y' a = tK Y a) → post X') : wp_X4_weigh post X v0 v1 v2 v3 v4 := by
  unfold tp_X4_weigh at h
  unfold wp_X4_weigh
  have hE0 : ∀ a, tK Y a = tK Y a := fun a => rfl
  obtain ⟨Y0, hY0⟩ : ∃ Z : TY, Z = Y := ⟨_, rfl⟩
  have hE0 : ∀ a, tK Y a = tK Y0 a := by rw [hY0]; exact hE0
  rw [← hY0] at hp
  have J_3 : ∀ (n : Nat) (Y : TY) (b3_5 : Int32), ∀ (X : Hp) (_ : tk_X4_weigh_3 st postT v0 v1 v2 v3 v4  n Y b3_5), Rel st aa Y X → (∀ a, tK Y a = tK Y0 a) → tK Y v0 = 4 → tK Y v1 = 5 → tK Y v4 = 5 → bk_X4_weigh_3 post v0 v1 v2 v3 v4  n X b3_5 := by
    intro n
    induction n with
    | zero =>
      intro Y b3_5 X h R hE0 hk_v0 hk_v1 hk_v4 
      rw [tk_X4_weigh_3] at h
      exact h.elim
    | succ n_3 ih_3 =>
      have J_53 : ∀ (Y : TY) (b53_5 : Int32), ∀ (X : Hp) (_ : tk_X4_weigh_53 st postT v0 v1 v2 v3 v4 (tk_X4_weigh_3 st postT v0 v1 v2 v3 v4 n_3) Y b53_5), Rel st aa Y X → (∀ a, tK Y a = tK Y0 a) → tK Y v0 = 4 → tK Y v1 = 5 → tK Y v4 = 5 → bk_X4_weigh_53 post v0 v1 v2 v3 v4 (bk_X4_weigh_3 post v0 v1 v2 v3 v4 n_3) X b53_5 := by
        intro Y b53_5 X h R hE0 hk_v0 hk_v1 hk_v4 
        unfold tk_X4_weigh_53 at h
        unfold bk_X4_weigh_53
        intro x8 ex8
        have h := h x8 ex8
        exact ih_3 _ _ _ h R hE0 (hk_v0) (hk_v1) (hk_v4) 
      intro Y b3_5 X h R hE0 hk_v0 hk_v1 hk_v4 
      rw [tk_X4_weigh_3] at h
      rw [bk_X4_weigh_3]
      refine ⟨fun c2 => ?_, fun c2 => ?_⟩
      · have h := h.1 c2
        exact hp _ _ h R hE0
      · have h := h.2 c2
        refine ⟨_, _, ob_4 R hk_v0, rfl, ?_⟩
        have k3 := wf_4_2 R hk_v0
        refine ⟨_, ob_6 R k3, t_X6_safeBy R k3 hk_v4 h (fun r4 h => ?_)⟩
        refine ⟨_, ob_5 R hk_v1, t_X5_at R hk_v1 h (fun r5 h => ?_)⟩
        refine ⟨fun c6 => ?_, fun c6 => ?_⟩
        · have h := h.1 c6
          exact J_53 _ _ _ h R hE0 (hk_v0) (hk_v1) (hk_v4) 
        · have h := h.2 c6
          refine ⟨_, ob_5 R hk_v1, t_X5_put R hk_v1 h (fun Y X h R hE => ?_)⟩
          have hk_v0 := (hE _).trans hk_v0
          have hk_v1 := (hE _).trans hk_v1
          have hk_v4 := (hE _).trans hk_v4
          have k3 := (hE _).trans k3
          have hE0 := fun a => (hE a).trans (hE0 a)
          exact J_53 _ _ _ h R hE0 (hk_v0) (hk_v1) (hk_v4) 
  obtain ⟨n1, h⟩ := h
  exact ⟨n1, J_3 n1 _ _ _ h R hE0 (hk_v0) (hk_v1) (hk_v4) ⟩
def tk_X4_fillHour_112 (st : TS) (post : TY → Prop) (mc ms : Nat) (v0 : Nat) (v1 : Int32) (v2 : Int32) (v3 : Int32) (r_78 : TY → Nat → Nat → Nat → Int32 → Prop) (Y : TY) (kc : Nat) (ks : Nat) (b112_4 : Nat) (b112_5 : Int32) : Prop := ∀ x24 : Int32, x24 = b112_5 + (1 : Int32) → r_78 Y kc ks b112_4 x24
def tk_X4_fillHour_78 (st : TS) (post : TY → Prop) (mc ms : Nat) (v0 : Nat) (v1 : Int32) (v2 : Int32) (v3 : Int32)  : Nat → TY → Nat → Nat → Nat → Int32 → Prop
  | 0, _, _, _, _, _ => False
  | k + 1, Y, kc, ks, b78_4, b78_5 => ((10 : Int32) ≤ b78_5 → kc ≤ mc ∧ ks ≤ ms ∧ post Y) ∧ (¬ (10 : Int32) ≤ b78_5 → ∃ m17 m18 : Nat, kc + m17 ≤ mc ∧ ks + m18 ≤ ms ∧ tp_X4_planeBehind st (fun r20 Y19 => (r20 = none → tk_X4_fillHour_112 st post mc ms v0 v1 v2 v3 (tk_X4_fillHour_78 st post mc ms v0 v1 v2 v3 k) Y19 ((kc + m17)) ((ks + m18)) b78_4 b78_5) ∧ (∀ y21 : Nat, r20 = some y21 → (kc + m17) ≤ mc ∧ (ks + m18) ≤ ms ∧ tp_X4_weigh st (fun Y23 => tk_X4_fillHour_112 st post mc ms v0 v1 v2 v3 (tk_X4_fillHour_78 st post mc ms v0 v1 v2 v3 k) Y23 ((kc + m17)) ((ks + m18)) b78_4 b78_5) Y19 v0 b78_4 v1 b78_5 y21)) m17 m18 Y v0 v1 v2 v3 b78_5)
def tk_X4_fillHour_66 (st : TS) (post : TY → Prop) (mc ms : Nat) (v0 : Nat) (v1 : Int32) (v2 : Int32) (v3 : Int32) (r_33 : TY → Nat → Nat → Nat → Int32 → Prop) (Y : TY) (kc : Nat) (ks : Nat) (b66_4 : Nat) (b66_5 : Int32) (b66_s0 : Int32) (b66_s1 : Int32) (b66_s2 : Nat) : Prop := kc ≤ mc ∧ ks ≤ ms ∧ tp_X5_put st (fun Y14 => ∀ x15 : Int32, x15 = b66_5 + (1 : Int32) → r_33 Y14 kc ks b66_4 x15) Y b66_s2 b66_s1 b66_s0
def tk_X4_fillHour_33 (st : TS) (post : TY → Prop) (mc ms : Nat) (v0 : Nat) (v1 : Int32) (v2 : Int32) (v3 : Int32)  : Nat → TY → Nat → Nat → Nat → Int32 → Prop
  | 0, _, _, _, _, _ => False
  | k + 1, Y, kc, ks, b33_4, b33_5 => ((21 : Int32) ≤ b33_5 → ∃ n11 : Nat, tk_X4_fillHour_78 st post mc ms v0 v1 v2 v3 n11 Y kc ks b33_4 (0 : Int32)) ∧ (¬ (21 : Int32) ≤ b33_5 → (¬ v1 = (tI Y (st.1 v0 0) 1) → tk_X4_fillHour_66 st post mc ms v0 v1 v2 v3 (tk_X4_fillHour_33 st post mc ms v0 v1 v2 v3 k) Y kc ks b33_4 b33_5 (0 : Int32) (((v1 * (21 : Int32)) + b33_5)) b33_4) ∧ (v1 = (tI Y (st.1 v0 0) 1) → tk_X4_fillHour_66 st post mc ms v0 v1 v2 v3 (tk_X4_fillHour_33 st post mc ms v0 v1 v2 v3 k) Y kc ks b33_4 b33_5 (1000000 : Int32) (((v1 * (21 : Int32)) + b33_5)) b33_4))
def tp_X4_fillHour (st : TS) (post : TY → Prop) (mc ms : Nat) (Y : TY) (v0 : Nat) (v1 : Int32) (v2 : Int32) (v3 : Int32) : Prop := ∃ m1 m2 : Nat, 0 + m1 ≤ mc ∧ 0 + m2 ≤ ms ∧ tp_X4_planeOf st (fun r4 Y3 => (r4 = none → (0 + m1) ≤ mc ∧ (0 + m2) ≤ ms ∧ post Y3) ∧ (∀ y5 : Nat, r4 = some y5 → (v1 < (tI Y3 y5 0) → ∀ Y8 : TY, Y8 = sI Y3 y5 0 v1 → ∃ n9 : Nat, tk_X4_fillHour_33 st post mc ms v0 v1 v2 v3 n9 Y8 ((0 + m1)) ((0 + m2)) y5 (0 : Int32)) ∧ (¬ v1 < (tI Y3 y5 0) → (0 + m1) ≤ mc ∧ (0 + m2) ≤ ms ∧ post Y3))) m1 m2 Y v0 v1 v2 v3
set_option maxHeartbeats 4000000 in
set_option maxRecDepth 100000 in
theorem t_X4_fillHour {st : TS} {aa : Nat → Nat → Nat} {Y : TY} {X : Hp} {postT : TY → Prop} {post : Hp → Prop} {mc ms : Nat} {v0 : Nat} {v1 : Int32} {v2 : Int32} {v3 : Int32} (R : Rel st aa Y X) (hk_v0 : tK Y v0 = 4) (h : tp_X4_fillHour st postT mc ms Y v0 v1 v2 v3) (hp : ∀ (Y' : TY) (X' : Hp) (aa' : Nat → Nat → Nat), postT Y' → Rel st aa' Y' X' → (∀ a, tK Y a < 11 → tK Y' a = tK Y a) → post X') : wp_X4_fillHour post mc ms X v0 v1 v2 v3 := by
  unfold tp_X4_fillHour at h
  unfold wp_X4_fillHour
  have hE0 : ∀ a, tK Y a < 11 → tK Y a = tK Y a := fun a _ => rfl
  obtain ⟨Y0, hY0⟩ : ∃ Z : TY, Z = Y := ⟨_, rfl⟩
  have hE0 : ∀ a, tK Y0 a < 11 → tK Y a = tK Y0 a := by rw [hY0]; exact hE0
  rw [← hY0] at hp
  have J_78 : ∀ (n : Nat) (Y : TY) (kc : Nat) (ks : Nat) (b78_4 : Nat) (b78_5 : Int32), ∀ (X : Hp) (aa : Nat → Nat → Nat) (_ : tk_X4_fillHour_78 st postT mc ms v0 v1 v2 v3  n Y kc ks b78_4 b78_5), Rel st aa Y X → (∀ a, tK Y0 a < 11 → tK Y a = tK Y0 a) → tK Y v0 = 4 → tK Y b78_4 = 5 → bk_X4_fillHour_78 post mc ms v0 v1 v2 v3  n X kc ks b78_4 b78_5 := by
    intro n
    induction n with
    | zero =>
      intro Y kc ks b78_4 b78_5 X aa h R hE0 hk_v0 hk_b78_4
      rw [tk_X4_fillHour_78] at h
      exact h.elim
    | succ n_78 ih_78 =>
      have J_112 : ∀ (Y : TY) (kc : Nat) (ks : Nat) (b112_4 : Nat) (b112_5 : Int32), ∀ (X : Hp) (aa : Nat → Nat → Nat) (_ : tk_X4_fillHour_112 st postT mc ms v0 v1 v2 v3 (tk_X4_fillHour_78 st postT mc ms v0 v1 v2 v3 n_78) Y kc ks b112_4 b112_5), Rel st aa Y X → (∀ a, tK Y0 a < 11 → tK Y a = tK Y0 a) → tK Y v0 = 4 → tK Y b112_4 = 5 → bk_X4_fillHour_112 post mc ms v0 v1 v2 v3 (bk_X4_fillHour_78 post mc ms v0 v1 v2 v3 n_78) X kc ks b112_4 b112_5 := by
        intro Y kc ks b112_4 b112_5 X aa h R hE0 hk_v0 hk_b112_4
        unfold tk_X4_fillHour_112 at h
        unfold bk_X4_fillHour_112
        intro x24 ex24
        have h := h x24 ex24
        exact ih_78 _ _ _ _ _ _ _ h R hE0 (hk_v0) hk_b112_4
      intro Y kc ks b78_4 b78_5 X aa h R hE0 hk_v0 hk_b78_4
      rw [tk_X4_fillHour_78] at h
      rw [bk_X4_fillHour_78]
      refine ⟨fun c16 => ?_, fun c16 => ?_⟩
      · have h := h.1 c16
        obtain ⟨hq1, hq2, h⟩ := h
        exact ⟨hq1, hq2, hp _ _ _ h R hE0⟩
      · have h := h.2 c16
        obtain ⟨m17, m18, hm1, hm2, h⟩ := h
        refine ⟨_, ob_4 R hk_v0, m17, m18, hm1, hm2, t_X4_planeBehind R hk_v0 h (fun r20 Y X aa h R hE hq => ?_)⟩
        have hk_b78_4 := (hE _ (by rw [hk_b78_4]; decide)).trans hk_b78_4
        have hk_v0 := (hE _ (by rw [hk_v0]; decide)).trans hk_v0
        have hE0 := fun a q => (hE a (by rw [hE0 a q]; exact q)).trans (hE0 a q)
        refine ⟨fun c22 => ?_, fun y21 c22 => ?_⟩
        · have h := h.1 c22
          exact J_112 _ _ _ _ _ _ _ h R hE0 (hk_v0) hk_b78_4
        · have h := h.2 y21 c22
          have ky21 := hq y21 c22
          obtain ⟨hq1, hq2, h⟩ := h
          refine ⟨_, ob_4 R hk_v0, hq1, hq2, t_X4_weigh R hk_v0 hk_b78_4 ky21 h (fun Y X h R hE => ?_)⟩
          have hk_b78_4 := (hE _).trans hk_b78_4
          have hk_v0 := (hE _).trans hk_v0
          have ky21 := (hE _).trans ky21
          have hE0 := fun a q => (hE a).trans (hE0 a q)
          exact J_112 _ _ _ _ _ _ _ h R hE0 (hk_v0) hk_b78_4
  have J_33 : ∀ (n : Nat) (Y : TY) (kc : Nat) (ks : Nat) (b33_4 : Nat) (b33_5 : Int32), ∀ (X : Hp) (aa : Nat → Nat → Nat) (_ : tk_X4_fillHour_33 st postT mc ms v0 v1 v2 v3  n Y kc ks b33_4 b33_5), Rel st aa Y X → (∀ a, tK Y0 a < 11 → tK Y a = tK Y0 a) → tK Y v0 = 4 → tK Y b33_4 = 5 → bk_X4_fillHour_33 post mc ms v0 v1 v2 v3  n X kc ks b33_4 b33_5 := by
    intro n
    induction n with
    | zero =>
      intro Y kc ks b33_4 b33_5 X aa h R hE0 hk_v0 hk_b33_4
      rw [tk_X4_fillHour_33] at h
      exact h.elim
    | succ n_33 ih_33 =>
      have J_66 : ∀ (Y : TY) (kc : Nat) (ks : Nat) (b66_4 : Nat) (b66_5 : Int32) (b66_s0 : Int32) (b66_s1 : Int32) (b66_s2 : Nat), ∀ (X : Hp) (aa : Nat → Nat → Nat) (_ : tk_X4_fillHour_66 st postT mc ms v0 v1 v2 v3 (tk_X4_fillHour_33 st postT mc ms v0 v1 v2 v3 n_33) Y kc ks b66_4 b66_5 b66_s0 b66_s1 b66_s2), Rel st aa Y X → (∀ a, tK Y0 a < 11 → tK Y a = tK Y0 a) → tK Y v0 = 4 → tK Y b66_4 = 5 → tK Y b66_s2 = 5 → bk_X4_fillHour_66 post mc ms v0 v1 v2 v3 (bk_X4_fillHour_33 post mc ms v0 v1 v2 v3 n_33) X kc ks b66_4 b66_5 b66_s0 b66_s1 b66_s2 := by
        intro Y kc ks b66_4 b66_5 b66_s0 b66_s1 b66_s2 X aa h R hE0 hk_v0 hk_b66_4 hk_b66_s2
        unfold tk_X4_fillHour_66 at h
        unfold bk_X4_fillHour_66
        obtain ⟨hq1, hq2, h⟩ := h
        refine ⟨_, ob_5 R hk_b66_s2, hq1, hq2, t_X5_put R hk_b66_s2 h (fun Y X h R hE => ?_)⟩
        have hk_b66_4 := (hE _).trans hk_b66_4
        have hk_b66_s2 := (hE _).trans hk_b66_s2
        have hk_v0 := (hE _).trans hk_v0
        have hE0 := fun a q => (hE a).trans (hE0 a q)
        intro x15 ex15
        have h := h x15 ex15
        exact ih_33 _ _ _ _ _ _ _ h R hE0 (hk_v0) hk_b66_4
      intro Y kc ks b33_4 b33_5 X aa h R hE0 hk_v0 hk_b33_4
      rw [tk_X4_fillHour_33] at h
      rw [bk_X4_fillHour_33]
      refine ⟨fun c10 => ?_, fun c10 => ?_⟩
      · have h := h.1 c10
        obtain ⟨n11, h⟩ := h
        exact ⟨n11, J_78 n11 _ _ _ _ _ _ _ h R hE0 (hk_v0) hk_b33_4⟩
      · have h := h.2 c10
        refine ⟨_, _, ob_4 R hk_v0, rfl, ?_⟩
        have k12 := wf_4_0 R hk_v0
        refine ⟨_, _, ob_8 R k12, rfl, ?_⟩
        refine ⟨fun c13 => ?_, fun c13 => ?_⟩
        · have h := h.1 c13
          exact J_66 _ _ _ _ _ _ _ _ _ _ h R hE0 (hk_v0) hk_b33_4 hk_b33_4
        · have h := h.2 c13
          exact J_66 _ _ _ _ _ _ _ _ _ _ h R hE0 (hk_v0) hk_b33_4 hk_b33_4
  obtain ⟨m1, m2, hm1, hm2, h⟩ := h
  refine ⟨_, ob_4 R hk_v0, m1, m2, hm1, hm2, t_X4_planeOf R hk_v0 h (fun r4 Y X aa h R hE hq => ?_)⟩
  have hk_v0 := (hE _ (by rw [hk_v0]; decide)).trans hk_v0
  have hE0 := fun a q => (hE a (by rw [hE0 a q]; exact q)).trans (hE0 a q)
  refine ⟨fun c6 => ?_, fun y5 c6 => ?_⟩
  · have h := h.1 c6
    obtain ⟨hq1, hq2, h⟩ := h
    exact ⟨hq1, hq2, hp _ _ _ h R hE0⟩
  · have h := h.2 y5 c6
    have ky5 := hq y5 c6
    refine ⟨_, _, ob_5 R ky5, rfl, ?_⟩
    refine ⟨fun c7 => ?_, fun c7 => ?_⟩
    · have h := h.1 c7
      refine ⟨_, ob_5 R ky5, (by decide : 0 < 2), fun X1 e1 => ?_⟩
      have h := h _ rfl
      have R := pu_5_0 R ky5 e1
      obtain ⟨n9, h⟩ := h
      exact ⟨n9, J_33 n9 _ _ _ _ _ _ _ h R hE0 (hk_v0) ky5⟩
    · have h := h.2 c7
      obtain ⟨hq1, hq2, h⟩ := h
      exact ⟨hq1, hq2, hp _ _ _ h R hE0⟩
def tk_X4_fill_79 (st : TS) (post : TY → Prop) (mc ms : Nat) (v0 : Nat) (v1 : Int32) (v2 : Int32) (v3 : Int32) (r_33 : TY → Nat → Nat → Int32 → Prop) (r_59 : TY → Nat → Nat → Int32 → Int32 → Prop) : Nat → TY → Nat → Nat → Int32 → Int32 → Int32 → Int32 → Prop
  | 0, _, _, _, _, _, _, _ => False
  | k + 1, Y, kc, ks, b79_5, b79_6, b79_7, b79_8 => (b79_7 < b79_8 → ∀ x21 : Int32, x21 = b79_6 + (1 : Int32) → r_59 Y kc ks b79_5 x21) ∧ (¬ b79_7 < b79_8 → ∃ m22 m23 : Nat, kc + m22 ≤ mc ∧ ks + m23 ≤ ms ∧ tp_X4_fillHour st (fun Y24 => ∀ x25 : Int32, x25 = b79_8 + (1 : Int32) → (tk_X4_fill_79 st post mc ms v0 v1 v2 v3 r_33 r_59 k) Y24 ((kc + m22)) ((ks + m23)) b79_5 b79_6 b79_7 x25) m22 m23 Y v0 b79_5 b79_8 b79_6)
def tk_X4_fill_59 (st : TS) (post : TY → Prop) (mc ms : Nat) (v0 : Nat) (v1 : Int32) (v2 : Int32) (v3 : Int32) (r_33 : TY → Nat → Nat → Int32 → Prop) : Nat → TY → Nat → Nat → Int32 → Int32 → Prop
  | 0, _, _, _, _, _ => False
  | k + 1, Y, kc, ks, b59_5, b59_6 => (v3 < b59_6 → ∀ x17 : Int32, x17 = b59_5 + (-1 : Int32) → r_33 Y kc ks x17) ∧ (¬ v3 < b59_6 → kc ≤ mc ∧ ks ≤ ms ∧ tp_X4_spendable st (fun r18 => ∃ n19 : Nat, tk_X4_fill_79 st post mc ms v0 v1 v2 v3 r_33 (tk_X4_fill_59 st post mc ms v0 v1 v2 v3 r_33 k) n19 Y kc ks b59_5 b59_6 r18 (0 : Int32)) Y v0 b59_5 v2 b59_6)
def tk_X4_fill_33 (st : TS) (post : TY → Prop) (mc ms : Nat) (v0 : Nat) (v1 : Int32) (v2 : Int32) (v3 : Int32)  : Nat → TY → Nat → Nat → Int32 → Prop
  | 0, _, _, _, _ => False
  | k + 1, Y, kc, ks, b33_5 => (b33_5 < v1 → kc ≤ mc ∧ ks ≤ ms ∧ post Y) ∧ (¬ b33_5 < v1 → kc ≤ mc ∧ ks ≤ ms ∧ tp_X6_ready st (fun Y14 => ∃ n15 : Nat, tk_X4_fill_59 st post mc ms v0 v1 v2 v3 (tk_X4_fill_33 st post mc ms v0 v1 v2 v3 k) n15 Y14 kc ks b33_5 (0 : Int32)) Y (st.1 v0 2) (st.1 v0 0) (st.1 v0 1) b33_5)
def tp_X4_fill (st : TS) (post : TY → Prop) (mc ms : Nat) (Y : TY) (v0 : Nat) (v1 : Int32) (v2 : Int32) (v3 : Int32) : Prop := ∃ m1 m2 : Nat, 0 + m1 ≤ mc ∧ 0 + m2 ≤ ms ∧ tp_X4_planeOf st (fun r4 Y3 => (r4 = none → (0 + m1) ≤ mc ∧ (0 + m2) ≤ ms ∧ post Y3) ∧ (∀ y5 : Nat, r4 = some y5 → (v1 < (tI Y3 y5 0) → ∃ n9 : Nat, tk_X4_fill_33 st post mc ms v0 v1 v2 v3 n9 Y3 ((0 + m1)) ((0 + m2)) ((tI Y3 (st.1 v0 0) 1))) ∧ (¬ v1 < (tI Y3 y5 0) → (0 + m1) ≤ mc ∧ (0 + m2) ≤ ms ∧ post Y3))) m1 m2 Y v0 v1 v2 v3
set_option maxHeartbeats 4000000 in
set_option maxRecDepth 100000 in
theorem t_X4_fill {st : TS} {aa : Nat → Nat → Nat} {Y : TY} {X : Hp} {postT : TY → Prop} {post : Hp → Prop} {mc ms : Nat} {v0 : Nat} {v1 : Int32} {v2 : Int32} {v3 : Int32} (R : Rel st aa Y X) (hk_v0 : tK Y v0 = 4) (h : tp_X4_fill st postT mc ms Y v0 v1 v2 v3) (hp : ∀ (Y' : TY) (X' : Hp) (aa' : Nat → Nat → Nat), postT Y' → Rel st aa' Y' X' → (∀ a, tK Y a < 11 → tK Y' a = tK Y a) → post X') : wp_X4_fill post mc ms X v0 v1 v2 v3 := by
  unfold tp_X4_fill at h
  unfold wp_X4_fill
  have hE0 : ∀ a, tK Y a < 11 → tK Y a = tK Y a := fun a _ => rfl
  obtain ⟨Y0, hY0⟩ : ∃ Z : TY, Z = Y := ⟨_, rfl⟩
  have hE0 : ∀ a, tK Y0 a < 11 → tK Y a = tK Y0 a := by rw [hY0]; exact hE0
  rw [← hY0] at hp
  have J_33 : ∀ (n : Nat) (Y : TY) (kc : Nat) (ks : Nat) (b33_5 : Int32), ∀ (X : Hp) (aa : Nat → Nat → Nat) (_ : tk_X4_fill_33 st postT mc ms v0 v1 v2 v3  n Y kc ks b33_5), Rel st aa Y X → (∀ a, tK Y0 a < 11 → tK Y a = tK Y0 a) → tK Y v0 = 4 → bk_X4_fill_33 post mc ms v0 v1 v2 v3  n X kc ks b33_5 := by
    intro n
    induction n with
    | zero =>
      intro Y kc ks b33_5 X aa h R hE0 hk_v0 
      rw [tk_X4_fill_33] at h
      exact h.elim
    | succ n_33 ih_33 =>
      have J_59 : ∀ (n : Nat) (Y : TY) (kc : Nat) (ks : Nat) (b59_5 : Int32) (b59_6 : Int32), ∀ (X : Hp) (aa : Nat → Nat → Nat) (_ : tk_X4_fill_59 st postT mc ms v0 v1 v2 v3 (tk_X4_fill_33 st postT mc ms v0 v1 v2 v3 n_33) n Y kc ks b59_5 b59_6), Rel st aa Y X → (∀ a, tK Y0 a < 11 → tK Y a = tK Y0 a) → tK Y v0 = 4 → bk_X4_fill_59 post mc ms v0 v1 v2 v3 (bk_X4_fill_33 post mc ms v0 v1 v2 v3 n_33) n X kc ks b59_5 b59_6 := by
        intro n
        induction n with
        | zero =>
          intro Y kc ks b59_5 b59_6 X aa h R hE0 hk_v0 
          rw [tk_X4_fill_59] at h
          exact h.elim
        | succ n_59 ih_59 =>
          have J_79 : ∀ (n : Nat) (Y : TY) (kc : Nat) (ks : Nat) (b79_5 : Int32) (b79_6 : Int32) (b79_7 : Int32) (b79_8 : Int32), ∀ (X : Hp) (aa : Nat → Nat → Nat) (_ : tk_X4_fill_79 st postT mc ms v0 v1 v2 v3 (tk_X4_fill_33 st postT mc ms v0 v1 v2 v3 n_33) (tk_X4_fill_59 st postT mc ms v0 v1 v2 v3 (tk_X4_fill_33 st postT mc ms v0 v1 v2 v3 n_33) n_59) n Y kc ks b79_5 b79_6 b79_7 b79_8), Rel st aa Y X → (∀ a, tK Y0 a < 11 → tK Y a = tK Y0 a) → tK Y v0 = 4 → bk_X4_fill_79 post mc ms v0 v1 v2 v3 (bk_X4_fill_33 post mc ms v0 v1 v2 v3 n_33) (bk_X4_fill_59 post mc ms v0 v1 v2 v3 (bk_X4_fill_33 post mc ms v0 v1 v2 v3 n_33) n_59) n X kc ks b79_5 b79_6 b79_7 b79_8 := by
            intro n
            induction n with
            | zero =>
              intro Y kc ks b79_5 b79_6 b79_7 b79_8 X aa h R hE0 hk_v0 
              rw [tk_X4_fill_79] at h
              exact h.elim
            | succ n_79 ih_79 =>
              intro Y kc ks b79_5 b79_6 b79_7 b79_8 X aa h R hE0 hk_v0 
              rw [tk_X4_fill_79] at h
              rw [bk_X4_fill_79]
              refine ⟨fun c20 => ?_, fun c20 => ?_⟩
              · have h := h.1 c20
                intro x21 ex21
                have h := h x21 ex21
                exact ih_59 _ _ _ _ _ _ _ h R hE0 (hk_v0) 
              · have h := h.2 c20
                obtain ⟨m22, m23, hm1, hm2, h⟩ := h
                refine ⟨_, ob_4 R hk_v0, m22, m23, hm1, hm2, t_X4_fillHour R hk_v0 h (fun Y X aa h R hE => ?_)⟩
                have hk_v0 := (hE _ (by rw [hk_v0]; decide)).trans hk_v0
                have hE0 := fun a q => (hE a (by rw [hE0 a q]; exact q)).trans (hE0 a q)
                intro x25 ex25
                have h := h x25 ex25
                exact ih_79 _ _ _ _ _ _ _ _ _ h R hE0 (hk_v0) 
          intro Y kc ks b59_5 b59_6 X aa h R hE0 hk_v0 
          rw [tk_X4_fill_59] at h
          rw [bk_X4_fill_59]
          refine ⟨fun c16 => ?_, fun c16 => ?_⟩
          · have h := h.1 c16
            intro x17 ex17
            have h := h x17 ex17
            exact ih_33 _ _ _ _ _ _ h R hE0 (hk_v0) 
          · have h := h.2 c16
            obtain ⟨hq1, hq2, h⟩ := h
            refine ⟨_, ob_4 R hk_v0, hq1, hq2, t_X4_spendable R hk_v0 h (fun r18 h => ?_)⟩
            obtain ⟨n19, h⟩ := h
            exact ⟨n19, J_79 n19 _ _ _ _ _ _ _ _ _ h R hE0 (hk_v0) ⟩
      intro Y kc ks b33_5 X aa h R hE0 hk_v0 
      rw [tk_X4_fill_33] at h
      rw [bk_X4_fill_33]
      refine ⟨fun c10 => ?_, fun c10 => ?_⟩
      · have h := h.1 c10
        obtain ⟨hq1, hq2, h⟩ := h
        exact ⟨hq1, hq2, hp _ _ _ h R hE0⟩
      · have h := h.2 c10
        refine ⟨_, _, ob_4 R hk_v0, rfl, ?_⟩
        have k11 := wf_4_2 R hk_v0
        refine ⟨_, _, ob_4 R hk_v0, rfl, ?_⟩
        have k12 := wf_4_0 R hk_v0
        refine ⟨_, _, ob_4 R hk_v0, rfl, ?_⟩
        have k13 := wf_4_1 R hk_v0
        obtain ⟨hq1, hq2, h⟩ := h
        refine ⟨_, ob_6 R k11, hq1, hq2, t_X6_ready R k11 k12 k13 h (fun Y X h R hE => ?_)⟩
        have hk_v0 := (hE _).trans hk_v0
        have k11 := (hE _).trans k11
        have k12 := (hE _).trans k12
        have k13 := (hE _).trans k13
        have hE0 := fun a q => (hE a).trans (hE0 a q)
        obtain ⟨n15, h⟩ := h
        exact ⟨n15, J_59 n15 _ _ _ _ _ _ _ h R hE0 (hk_v0) ⟩
  obtain ⟨m1, m2, hm1, hm2, h⟩ := h
  refine ⟨_, ob_4 R hk_v0, m1, m2, hm1, hm2, t_X4_planeOf R hk_v0 h (fun r4 Y X aa h R hE hq => ?_)⟩
  have hk_v0 := (hE _ (by rw [hk_v0]; decide)).trans hk_v0
  have hE0 := fun a q => (hE a (by rw [hE0 a q]; exact q)).trans (hE0 a q)
  refine ⟨fun c6 => ?_, fun y5 c6 => ?_⟩
  · have h := h.1 c6
    obtain ⟨hq1, hq2, h⟩ := h
    exact ⟨hq1, hq2, hp _ _ _ h R hE0⟩
  · have h := h.2 y5 c6
    have ky5 := hq y5 c6
    refine ⟨_, _, ob_5 R ky5, rfl, ?_⟩
    refine ⟨fun c7 => ?_, fun c7 => ?_⟩
    · have h := h.1 c7
      refine ⟨_, _, ob_4 R hk_v0, rfl, ?_⟩
      have k8 := wf_4_0 R hk_v0
      refine ⟨_, _, ob_8 R k8, rfl, ?_⟩
      obtain ⟨n9, h⟩ := h
      exact ⟨n9, J_33 n9 _ _ _ _ _ _ h R hE0 (hk_v0) ⟩
    · have h := h.2 c7
      obtain ⟨hq1, hq2, h⟩ := h
      exact ⟨hq1, hq2, hp _ _ _ h R hE0⟩
def tp_X4_bestFrom (st : TS) (post : Int32 → TY → Prop) (mc ms : Nat) (Y : TY) (v0 : Nat) (v1 : Int32) (v2 : Int32) (v3 : Int32) (v4 : Int32) : Prop := ∃ m1 m2 : Nat, 0 + m1 ≤ mc ∧ 0 + m2 ≤ ms ∧ tp_X4_fill st (fun Y3 => ∃ m4 m5 : Nat, (0 + m1) + m4 ≤ mc ∧ (0 + m2) + m5 ≤ ms ∧ tp_X4_planeOf st (fun r7 Y6 => (r7 = none → ((0 + m1) + m4) ≤ mc ∧ ((0 + m2) + m5) ≤ ms ∧ post (0 : Int32) Y6) ∧ (∀ y8 : Nat, r7 = some y8 → ((0 + m1) + m4) ≤ mc ∧ ((0 + m2) + m5) ≤ ms ∧ tp_X5_at st (fun r10 => ((0 + m1) + m4) ≤ mc ∧ ((0 + m2) + m5) ≤ ms ∧ post r10 Y6) Y6 y8 ((v1 * (21 : Int32)) + v2))) m4 m5 Y3 v0 v1 v3 v4) m1 m2 Y v0 v1 v3 v4
set_option maxHeartbeats 4000000 in
set_option maxRecDepth 100000 in
theorem t_X4_bestFrom {st : TS} {aa : Nat → Nat → Nat} {Y : TY} {X : Hp} {postT : Int32 → TY → Prop} {post : Int32 → Hp → Prop} {mc ms : Nat} {v0 : Nat} {v1 : Int32} {v2 : Int32} {v3 : Int32} {v4 : Int32} (R : Rel st aa Y X) (hk_v0 : tK Y v0 = 4) (h : tp_X4_bestFrom st postT mc ms Y v0 v1 v2 v3 v4) (hp : ∀ (r : Int32) (Y' : TY) (X' : Hp) (aa' : Nat → Nat → Nat), postT r Y' → Rel st aa' Y' X' → (∀ a, tK Y a < 11 → tK Y' a = tK Y a) → post r X') : wp_X4_bestFrom post mc ms X v0 v1 v2 v3 v4 := by
  unfold tp_X4_bestFrom at h
  unfold wp_X4_bestFrom
  have hE0 : ∀ a, tK Y a < 11 → tK Y a = tK Y a := fun a _ => rfl
  obtain ⟨Y0, hY0⟩ : ∃ Z : TY, Z = Y := ⟨_, rfl⟩
  have hE0 : ∀ a, tK Y0 a < 11 → tK Y a = tK Y0 a := by rw [hY0]; exact hE0
  rw [← hY0] at hp
  obtain ⟨m1, m2, hm1, hm2, h⟩ := h
  refine ⟨_, ob_4 R hk_v0, m1, m2, hm1, hm2, t_X4_fill R hk_v0 h (fun Y X aa h R hE => ?_)⟩
  have hk_v0 := (hE _ (by rw [hk_v0]; decide)).trans hk_v0
  have hE0 := fun a q => (hE a (by rw [hE0 a q]; exact q)).trans (hE0 a q)
  obtain ⟨m4, m5, hm1, hm2, h⟩ := h
  refine ⟨_, ob_4 R hk_v0, m4, m5, hm1, hm2, t_X4_planeOf R hk_v0 h (fun r7 Y X aa h R hE hq => ?_)⟩
  have hk_v0 := (hE _ (by rw [hk_v0]; decide)).trans hk_v0
  have hE0 := fun a q => (hE a (by rw [hE0 a q]; exact q)).trans (hE0 a q)
  refine ⟨fun c9 => ?_, fun y8 c9 => ?_⟩
  · have h := h.1 c9
    obtain ⟨hq1, hq2, h⟩ := h
    exact ⟨hq1, hq2, hp _ _ _ _ h R hE0⟩
  · have h := h.2 y8 c9
    have ky8 := hq y8 c9
    obtain ⟨hq1, hq2, h⟩ := h
    refine ⟨_, ob_5 R ky8, hq1, hq2, t_X5_at R ky8 h (fun r10 h => ?_)⟩
    obtain ⟨hq1, hq2, h⟩ := h
    exact ⟨hq1, hq2, hp _ _ _ _ h R hE0⟩
def tk_X4_deedThere_91 (st : TS) (post : Int32 → TY → Prop) (mc ms : Nat) (v0 : Nat) (v1 : Int32) (v2 : Int32) (v3 : Int32) (v4 : Int32) (r_38 : TY → Nat → Nat → Nat → Int32 → Prop) (Y : TY) (kc : Nat) (ks : Nat) (b91_5 : Nat) (b91_6 : Int32) : Prop := ∀ x23 : Int32, x23 = b91_6 + (1 : Int32) → r_38 Y kc ks b91_5 x23
def tk_X4_deedThere_38 (st : TS) (post : Int32 → TY → Prop) (mc ms : Nat) (v0 : Nat) (v1 : Int32) (v2 : Int32) (v3 : Int32) (v4 : Int32)  : Nat → TY → Nat → Nat → Nat → Int32 → Prop
  | 0, _, _, _, _, _ => False
  | k + 1, Y, kc, ks, b38_5, b38_6 => ((10 : Int32) ≤ b38_6 → kc ≤ mc ∧ ks ≤ ms ∧ post (-6 : Int32) Y) ∧ (¬ (10 : Int32) ≤ b38_6 → ∃ m13 m14 : Nat, kc + m13 ≤ mc ∧ ks + m14 ≤ ms ∧ tp_X4_planeBehind st (fun r16 Y15 => (r16 = none → tk_X4_deedThere_91 st post mc ms v0 v1 v2 v3 v4 (tk_X4_deedThere_38 st post mc ms v0 v1 v2 v3 v4 k) Y15 ((kc + m13)) ((ks + m14)) b38_5 b38_6) ∧ (∀ y17 : Nat, r16 = some y17 → (kc + m13) ≤ mc ∧ (ks + m14) ≤ ms ∧ tp_X6_safeBy st (fun r20 => (kc + m13) ≤ mc ∧ (ks + m14) ≤ ms ∧ tp_X5_at st (fun r21 => (¬ r20 = r21 → tk_X4_deedThere_91 st post mc ms v0 v1 v2 v3 v4 (tk_X4_deedThere_38 st post mc ms v0 v1 v2 v3 v4 k) Y15 ((kc + m13)) ((ks + m14)) b38_5 b38_6) ∧ (r20 = r21 → (kc + m13) ≤ mc ∧ (ks + m14) ≤ ms ∧ post b38_6 Y15)) Y15 b38_5 ((v1 * (21 : Int32)) + v2)) Y15 (st.1 v0 2) b38_6 v2 y17)) m13 m14 Y v0 v1 v3 v4 b38_6)
def tp_X4_deedThere (st : TS) (post : Int32 → TY → Prop) (mc ms : Nat) (Y : TY) (v0 : Nat) (v1 : Int32) (v2 : Int32) (v3 : Int32) (v4 : Int32) : Prop := ∃ m1 m2 : Nat, 0 + m1 ≤ mc ∧ 0 + m2 ≤ ms ∧ tp_X4_planeOf st (fun r4 Y3 => (r4 = none → (0 + m1) ≤ mc ∧ (0 + m2) ≤ ms ∧ post (-6 : Int32) Y3) ∧ (∀ y5 : Nat, r4 = some y5 → (0 + m1) ≤ mc ∧ (0 + m2) ≤ ms ∧ tp_X6_readyFor st (fun Y10 => ∃ n11 : Nat, tk_X4_deedThere_38 st post mc ms v0 v1 v2 v3 v4 n11 Y10 ((0 + m1)) ((0 + m2)) y5 (0 : Int32)) Y3 (st.1 v0 2) (st.1 v0 0) (st.1 v0 1) v1 v2)) m1 m2 Y v0 v1 v3 v4
set_option maxHeartbeats 4000000 in
set_option maxRecDepth 100000 in
theorem t_X4_deedThere {st : TS} {aa : Nat → Nat → Nat} {Y : TY} {X : Hp} {postT : Int32 → TY → Prop} {post : Int32 → Hp → Prop} {mc ms : Nat} {v0 : Nat} {v1 : Int32} {v2 : Int32} {v3 : Int32} {v4 : Int32} (R : Rel st aa Y X) (hk_v0 : tK Y v0 = 4) (h : tp_X4_deedThere st postT mc ms Y v0 v1 v2 v3 v4) (hp : ∀ (r : Int32) (Y' : TY) (X' : Hp) (aa' : Nat → Nat → Nat), postT r Y' → Rel st aa' Y' X' → (∀ a, tK Y a < 11 → tK Y' a = tK Y a) → post r X') : wp_X4_deedThere post mc ms X v0 v1 v2 v3 v4 := by
  unfold tp_X4_deedThere at h
  unfold wp_X4_deedThere
  have hE0 : ∀ a, tK Y a < 11 → tK Y a = tK Y a := fun a _ => rfl
  obtain ⟨Y0, hY0⟩ : ∃ Z : TY, Z = Y := ⟨_, rfl⟩
  have hE0 : ∀ a, tK Y0 a < 11 → tK Y a = tK Y0 a := by rw [hY0]; exact hE0
  rw [← hY0] at hp
  have J_38 : ∀ (n : Nat) (Y : TY) (kc : Nat) (ks : Nat) (b38_5 : Nat) (b38_6 : Int32), ∀ (X : Hp) (aa : Nat → Nat → Nat) (_ : tk_X4_deedThere_38 st postT mc ms v0 v1 v2 v3 v4  n Y kc ks b38_5 b38_6), Rel st aa Y X → (∀ a, tK Y0 a < 11 → tK Y a = tK Y0 a) → tK Y v0 = 4 → tK Y b38_5 = 5 → bk_X4_deedThere_38 post mc ms v0 v1 v2 v3 v4  n X kc ks b38_5 b38_6 := by
    intro n
    induction n with
    | zero =>
      intro Y kc ks b38_5 b38_6 X aa h R hE0 hk_v0 hk_b38_5
      rw [tk_X4_deedThere_38] at h
      exact h.elim
    | succ n_38 ih_38 =>
      have J_91 : ∀ (Y : TY) (kc : Nat) (ks : Nat) (b91_5 : Nat) (b91_6 : Int32), ∀ (X : Hp) (aa : Nat → Nat → Nat) (_ : tk_X4_deedThere_91 st postT mc ms v0 v1 v2 v3 v4 (tk_X4_deedThere_38 st postT mc ms v0 v1 v2 v3 v4 n_38) Y kc ks b91_5 b91_6), Rel st aa Y X → (∀ a, tK Y0 a < 11 → tK Y a = tK Y0 a) → tK Y v0 = 4 → tK Y b91_5 = 5 → bk_X4_deedThere_91 post mc ms v0 v1 v2 v3 v4 (bk_X4_deedThere_38 post mc ms v0 v1 v2 v3 v4 n_38) X kc ks b91_5 b91_6 := by
        intro Y kc ks b91_5 b91_6 X aa h R hE0 hk_v0 hk_b91_5
        unfold tk_X4_deedThere_91 at h
        unfold bk_X4_deedThere_91
        intro x23 ex23
        have h := h x23 ex23
        exact ih_38 _ _ _ _ _ _ _ h R hE0 (hk_v0) hk_b91_5
      intro Y kc ks b38_5 b38_6 X aa h R hE0 hk_v0 hk_b38_5
      rw [tk_X4_deedThere_38] at h
      rw [bk_X4_deedThere_38]
      refine ⟨fun c12 => ?_, fun c12 => ?_⟩
      · have h := h.1 c12
        obtain ⟨hq1, hq2, h⟩ := h
        exact ⟨hq1, hq2, hp _ _ _ _ h R hE0⟩
      · have h := h.2 c12
        obtain ⟨m13, m14, hm1, hm2, h⟩ := h
        refine ⟨_, ob_4 R hk_v0, m13, m14, hm1, hm2, t_X4_planeBehind R hk_v0 h (fun r16 Y X aa h R hE hq => ?_)⟩
        have hk_b38_5 := (hE _ (by rw [hk_b38_5]; decide)).trans hk_b38_5
        have hk_v0 := (hE _ (by rw [hk_v0]; decide)).trans hk_v0
        have hE0 := fun a q => (hE a (by rw [hE0 a q]; exact q)).trans (hE0 a q)
        refine ⟨fun c18 => ?_, fun y17 c18 => ?_⟩
        · have h := h.1 c18
          exact J_91 _ _ _ _ _ _ _ h R hE0 (hk_v0) hk_b38_5
        · have h := h.2 y17 c18
          have ky17 := hq y17 c18
          refine ⟨_, _, ob_4 R hk_v0, rfl, ?_⟩
          have k19 := wf_4_2 R hk_v0
          obtain ⟨hq1, hq2, h⟩ := h
          refine ⟨_, ob_6 R k19, hq1, hq2, t_X6_safeBy R k19 ky17 h (fun r20 h => ?_)⟩
          obtain ⟨hq1, hq2, h⟩ := h
          refine ⟨_, ob_5 R hk_b38_5, hq1, hq2, t_X5_at R hk_b38_5 h (fun r21 h => ?_)⟩
          refine ⟨fun c22 => ?_, fun c22 => ?_⟩
          · have h := h.1 c22
            exact J_91 _ _ _ _ _ _ _ h R hE0 (hk_v0) hk_b38_5
          · have h := h.2 c22
            obtain ⟨hq1, hq2, h⟩ := h
            exact ⟨hq1, hq2, hp _ _ _ _ h R hE0⟩
  obtain ⟨m1, m2, hm1, hm2, h⟩ := h
  refine ⟨_, ob_4 R hk_v0, m1, m2, hm1, hm2, t_X4_planeOf R hk_v0 h (fun r4 Y X aa h R hE hq => ?_)⟩
  have hk_v0 := (hE _ (by rw [hk_v0]; decide)).trans hk_v0
  have hE0 := fun a q => (hE a (by rw [hE0 a q]; exact q)).trans (hE0 a q)
  refine ⟨fun c6 => ?_, fun y5 c6 => ?_⟩
  · have h := h.1 c6
    obtain ⟨hq1, hq2, h⟩ := h
    exact ⟨hq1, hq2, hp _ _ _ _ h R hE0⟩
  · have h := h.2 y5 c6
    have ky5 := hq y5 c6
    refine ⟨_, _, ob_4 R hk_v0, rfl, ?_⟩
    have k7 := wf_4_2 R hk_v0
    refine ⟨_, _, ob_4 R hk_v0, rfl, ?_⟩
    have k8 := wf_4_0 R hk_v0
    refine ⟨_, _, ob_4 R hk_v0, rfl, ?_⟩
    have k9 := wf_4_1 R hk_v0
    obtain ⟨hq1, hq2, h⟩ := h
    refine ⟨_, ob_6 R k7, hq1, hq2, t_X6_readyFor R k7 k8 k9 h (fun Y X h R hE => ?_)⟩
    have hk_v0 := (hE _).trans hk_v0
    have k7 := (hE _).trans k7
    have k8 := (hE _).trans k8
    have k9 := (hE _).trans k9
    have ky5 := (hE _).trans ky5
    have hE0 := fun a q => (hE a).trans (hE0 a q)
    obtain ⟨n11, h⟩ := h
    exact ⟨n11, J_38 n11 _ _ _ _ _ _ _ h R hE0 (hk_v0) ky5⟩
def tp_X4_firstDeed (st : TS) (post : Int32 → TY → Prop) (mc ms : Nat) (Y : TY) (v0 : Nat) (v1 : Int32) (v2 : Int32) (v3 : Int32) (v4 : Int32) : Prop := ∃ m1 m2 : Nat, 0 + m1 ≤ mc ∧ 0 + m2 ≤ ms ∧ tp_X4_fill st (fun Y3 => ∃ m4 m5 : Nat, (0 + m1) + m4 ≤ mc ∧ (0 + m2) + m5 ≤ ms ∧ tp_X4_deedThere st (fun r7 Y6 => ((0 + m1) + m4) ≤ mc ∧ ((0 + m2) + m5) ≤ ms ∧ post r7 Y6) m4 m5 Y3 v0 v1 v2 v3 v4) m1 m2 Y v0 v1 v3 v4
set_option maxHeartbeats 4000000 in
set_option maxRecDepth 100000 in
theorem t_X4_firstDeed {st : TS} {aa : Nat → Nat → Nat} {Y : TY} {X : Hp} {postT : Int32 → TY → Prop} {post : Int32 → Hp → Prop} {mc ms : Nat} {v0 : Nat} {v1 : Int32} {v2 : Int32} {v3 : Int32} {v4 : Int32} (R : Rel st aa Y X) (hk_v0 : tK Y v0 = 4) (h : tp_X4_firstDeed st postT mc ms Y v0 v1 v2 v3 v4) (hp : ∀ (r : Int32) (Y' : TY) (X' : Hp) (aa' : Nat → Nat → Nat), postT r Y' → Rel st aa' Y' X' → (∀ a, tK Y a < 11 → tK Y' a = tK Y a) → post r X') : wp_X4_firstDeed post mc ms X v0 v1 v2 v3 v4 := by
  unfold tp_X4_firstDeed at h
  unfold wp_X4_firstDeed
  have hE0 : ∀ a, tK Y a < 11 → tK Y a = tK Y a := fun a _ => rfl
  obtain ⟨Y0, hY0⟩ : ∃ Z : TY, Z = Y := ⟨_, rfl⟩
  have hE0 : ∀ a, tK Y0 a < 11 → tK Y a = tK Y0 a := by rw [hY0]; exact hE0
  rw [← hY0] at hp
  obtain ⟨m1, m2, hm1, hm2, h⟩ := h
  refine ⟨_, ob_4 R hk_v0, m1, m2, hm1, hm2, t_X4_fill R hk_v0 h (fun Y X aa h R hE => ?_)⟩
  have hk_v0 := (hE _ (by rw [hk_v0]; decide)).trans hk_v0
  have hE0 := fun a q => (hE a (by rw [hE0 a q]; exact q)).trans (hE0 a q)
  obtain ⟨m4, m5, hm1, hm2, h⟩ := h
  refine ⟨_, ob_4 R hk_v0, m4, m5, hm1, hm2, t_X4_deedThere R hk_v0 h (fun r7 Y X aa h R hE => ?_)⟩
  have hk_v0 := (hE _ (by rw [hk_v0]; decide)).trans hk_v0
  have hE0 := fun a q => (hE a (by rw [hE0 a q]; exact q)).trans (hE0 a q)
  obtain ⟨hq1, hq2, h⟩ := h
  exact ⟨hq1, hq2, hp _ _ _ _ h R hE0⟩
def tp_X9_codeOf (st : TS) (post : Int32 → Prop) (Y : TY) (v0 : Int32) : Prop := (0 ≤ v0 → post ((v0 / (2 : Int32)) + ((10 : Int32) * (v0 - v0 / (2 : Int32) * (2 : Int32))))) ∧ (¬ 0 ≤ v0 → post (-6 : Int32))
set_option maxHeartbeats 4000000 in
set_option maxRecDepth 100000 in
theorem t_X9_codeOf {st : TS} {aa : Nat → Nat → Nat} {Y : TY} {X : Hp} {postT : Int32 → Prop} {post : Int32 → Prop} {v0 : Int32} (R : Rel st aa Y X)  (h : tp_X9_codeOf st postT Y v0) (hp : ∀ (r : Int32) , postT r → post r ) : wp_X9_codeOf post X v0 := by
  unfold tp_X9_codeOf at h
  unfold wp_X9_codeOf
  refine ⟨fun c1 => ?_, fun c1 => ?_⟩
  · have h := h.1 c1
    exact hp _ h
  · have h := h.2 c1
    exact hp _ h
def tk_X4_follow_124 (st : TS) (post : Int32 → TY → Prop) (mc ms : Nat) (v0 : Nat) (v1 : Int32) (v2 : Int32) (v3 : Int32) (r_25 : TY → Nat → Nat → Int32 → Int32 → Int32 → Int32 → Int32 → Prop) (Y : TY) (kc : Nat) (ks : Nat) (b124_4 : Int32) (b124_5 : Int32) (b124_6 : Int32) (b124_8 : Int32) (b124_9 : Int32) (b124_s0 : Int32) (b124_s1 : Int32) : Prop := ∀ x20 : Int32, x20 = (b124_s1 - b124_s0) → kc ≤ mc ∧ ks ≤ ms ∧ tp_X9_hoursOf st (fun r21 => ∀ x22 : Int32, x22 = (b124_4 + r21) → ∀ x23 : Int32, x23 = b124_8 + (1 : Int32) → r_25 Y kc ks x22 b124_5 b124_6 x20 x23) Y (b124_9 / (2 : Int32))
def tk_X4_follow_25 (st : TS) (post : Int32 → TY → Prop) (mc ms : Nat) (v0 : Nat) (v1 : Int32) (v2 : Int32) (v3 : Int32)  : Nat → TY → Nat → Nat → Int32 → Int32 → Int32 → Int32 → Int32 → Prop
  | 0, _, _, _, _, _, _, _, _ => False
  | k + 1, Y, kc, ks, b25_4, b25_5, b25_6, b25_7, b25_8 => ((52 : Int32) < b25_8 → kc ≤ mc ∧ ks ≤ ms ∧ post (-6 : Int32) Y) ∧ (¬ (52 : Int32) < b25_8 → ∃ m6 m7 : Nat, kc + m6 ≤ mc ∧ ks + m7 ≤ ms ∧ tp_X4_deedThere st (fun r9 Y8 => (¬ r9 = (-6 : Int32) → (¬ b25_8 = v3 → (kc + m6) ≤ mc ∧ (ks + m7) ≤ ms ∧ tp_X2_owedBehind st (fun r14 => (kc + m6) ≤ mc ∧ (ks + m7) ≤ ms ∧ tp_X9_batteryOf st (fun r15 => ∀ x16 : Int32, x16 = (b25_6 - r15) → (¬ (r9 / (2 : Int32)) = (4 : Int32) → tk_X4_follow_124 st post mc ms v0 v1 v2 v3 (tk_X4_follow_25 st post mc ms v0 v1 v2 v3 k) Y8 ((kc + m6)) ((ks + m7)) b25_4 r14 x16 b25_8 r9 (0 : Int32) b25_7) ∧ ((r9 / (2 : Int32)) = (4 : Int32) → tk_X4_follow_124 st post mc ms v0 v1 v2 v3 (tk_X4_follow_25 st post mc ms v0 v1 v2 v3 k) Y8 ((kc + m6)) ((ks + m7)) b25_4 r14 x16 b25_8 r9 (1 : Int32) b25_7)) Y8 r9) Y8 (st.1 v0 1) (st.1 v0 0) b25_4 b25_5 (r9 / (2 : Int32))) ∧ (b25_8 = v3 → (kc + m6) ≤ mc ∧ (ks + m7) ≤ ms ∧ tp_X9_codeOf st (fun r18 => (kc + m6) ≤ mc ∧ (ks + m7) ≤ ms ∧ post r18 Y8) Y8 r9)) ∧ (r9 = (-6 : Int32) → (¬ v3 = (-1 : Int32) → (kc + m6) ≤ mc ∧ (ks + m7) ≤ ms ∧ post (-6 : Int32) Y8) ∧ (v3 = (-1 : Int32) → (kc + m6) ≤ mc ∧ (ks + m7) ≤ ms ∧ post b25_8 Y8))) m6 m7 Y v0 b25_4 b25_5 b25_6 b25_7)
def tp_X4_follow (st : TS) (post : Int32 → TY → Prop) (mc ms : Nat) (Y : TY) (v0 : Nat) (v1 : Int32) (v2 : Int32) (v3 : Int32) : Prop := ∃ m1 m2 : Nat, 0 + m1 ≤ mc ∧ 0 + m2 ≤ ms ∧ tp_X4_fill st (fun Y3 => ∃ n4 : Nat, tk_X4_follow_25 st post mc ms v0 v1 v2 v3 n4 Y3 ((0 + m1)) ((0 + m2)) (0 : Int32) v1 v2 (4 : Int32) (0 : Int32)) m1 m2 Y v0 (0 : Int32) v2 (4 : Int32)
set_option maxHeartbeats 4000000 in
set_option maxRecDepth 100000 in
theorem t_X4_follow {st : TS} {aa : Nat → Nat → Nat} {Y : TY} {X : Hp} {postT : Int32 → TY → Prop} {post : Int32 → Hp → Prop} {mc ms : Nat} {v0 : Nat} {v1 : Int32} {v2 : Int32} {v3 : Int32} (R : Rel st aa Y X) (hk_v0 : tK Y v0 = 4) (h : tp_X4_follow st postT mc ms Y v0 v1 v2 v3) (hp : ∀ (r : Int32) (Y' : TY) (X' : Hp) (aa' : Nat → Nat → Nat), postT r Y' → Rel st aa' Y' X' → (∀ a, tK Y a < 11 → tK Y' a = tK Y a) → post r X') : wp_X4_follow post mc ms X v0 v1 v2 v3 := by
  unfold tp_X4_follow at h
  unfold wp_X4_follow
  have hE0 : ∀ a, tK Y a < 11 → tK Y a = tK Y a := fun a _ => rfl
  obtain ⟨Y0, hY0⟩ : ∃ Z : TY, Z = Y := ⟨_, rfl⟩
  have hE0 : ∀ a, tK Y0 a < 11 → tK Y a = tK Y0 a := by rw [hY0]; exact hE0
  rw [← hY0] at hp
  have J_25 : ∀ (n : Nat) (Y : TY) (kc : Nat) (ks : Nat) (b25_4 : Int32) (b25_5 : Int32) (b25_6 : Int32) (b25_7 : Int32) (b25_8 : Int32), ∀ (X : Hp) (aa : Nat → Nat → Nat) (_ : tk_X4_follow_25 st postT mc ms v0 v1 v2 v3  n Y kc ks b25_4 b25_5 b25_6 b25_7 b25_8), Rel st aa Y X → (∀ a, tK Y0 a < 11 → tK Y a = tK Y0 a) → tK Y v0 = 4 → bk_X4_follow_25 post mc ms v0 v1 v2 v3  n X kc ks b25_4 b25_5 b25_6 b25_7 b25_8 := by
    intro n
    induction n with
    | zero =>
      intro Y kc ks b25_4 b25_5 b25_6 b25_7 b25_8 X aa h R hE0 hk_v0 
      rw [tk_X4_follow_25] at h
      exact h.elim
    | succ n_25 ih_25 =>
      have J_124 : ∀ (Y : TY) (kc : Nat) (ks : Nat) (b124_4 : Int32) (b124_5 : Int32) (b124_6 : Int32) (b124_8 : Int32) (b124_9 : Int32) (b124_s0 : Int32) (b124_s1 : Int32), ∀ (X : Hp) (aa : Nat → Nat → Nat) (_ : tk_X4_follow_124 st postT mc ms v0 v1 v2 v3 (tk_X4_follow_25 st postT mc ms v0 v1 v2 v3 n_25) Y kc ks b124_4 b124_5 b124_6 b124_8 b124_9 b124_s0 b124_s1), Rel st aa Y X → (∀ a, tK Y0 a < 11 → tK Y a = tK Y0 a) → tK Y v0 = 4 → bk_X4_follow_124 post mc ms v0 v1 v2 v3 (bk_X4_follow_25 post mc ms v0 v1 v2 v3 n_25) X kc ks b124_4 b124_5 b124_6 b124_8 b124_9 b124_s0 b124_s1 := by
        intro Y kc ks b124_4 b124_5 b124_6 b124_8 b124_9 b124_s0 b124_s1 X aa h R hE0 hk_v0 
        unfold tk_X4_follow_124 at h
        unfold bk_X4_follow_124
        intro x20 ex20
        have h := h x20 ex20
        obtain ⟨hq1, hq2, h⟩ := h
        refine ⟨hq1, hq2, t_X9_hoursOf R  h (fun r21 h => ?_)⟩
        intro x22 ex22
        have h := h x22 ex22
        intro x23 ex23
        have h := h x23 ex23
        exact ih_25 _ _ _ _ _ _ _ _ _ _ h R hE0 (hk_v0) 
      intro Y kc ks b25_4 b25_5 b25_6 b25_7 b25_8 X aa h R hE0 hk_v0 
      rw [tk_X4_follow_25] at h
      rw [bk_X4_follow_25]
      refine ⟨fun c5 => ?_, fun c5 => ?_⟩
      · have h := h.1 c5
        obtain ⟨hq1, hq2, h⟩ := h
        exact ⟨hq1, hq2, hp _ _ _ _ h R hE0⟩
      · have h := h.2 c5
        obtain ⟨m6, m7, hm1, hm2, h⟩ := h
        refine ⟨_, ob_4 R hk_v0, m6, m7, hm1, hm2, t_X4_deedThere R hk_v0 h (fun r9 Y X aa h R hE => ?_)⟩
        have hk_v0 := (hE _ (by rw [hk_v0]; decide)).trans hk_v0
        have hE0 := fun a q => (hE a (by rw [hE0 a q]; exact q)).trans (hE0 a q)
        refine ⟨fun c10 => ?_, fun c10 => ?_⟩
        · have h := h.1 c10
          refine ⟨fun c11 => ?_, fun c11 => ?_⟩
          · have h := h.1 c11
            refine ⟨_, _, ob_4 R hk_v0, rfl, ?_⟩
            have k12 := wf_4_1 R hk_v0
            refine ⟨_, _, ob_4 R hk_v0, rfl, ?_⟩
            have k13 := wf_4_0 R hk_v0
            obtain ⟨hq1, hq2, h⟩ := h
            refine ⟨_, ob_2 R k12, hq1, hq2, t_X2_owedBehind R k12 k13 h (fun r14 h => ?_)⟩
            obtain ⟨hq1, hq2, h⟩ := h
            refine ⟨hq1, hq2, t_X9_batteryOf R  h (fun r15 h => ?_)⟩
            intro x16 ex16
            have h := h x16 ex16
            refine ⟨fun c17 => ?_, fun c17 => ?_⟩
            · have h := h.1 c17
              exact J_124 _ _ _ _ _ _ _ _ _ _ _ _ h R hE0 (hk_v0) 
            · have h := h.2 c17
              exact J_124 _ _ _ _ _ _ _ _ _ _ _ _ h R hE0 (hk_v0) 
          · have h := h.2 c11
            obtain ⟨hq1, hq2, h⟩ := h
            refine ⟨hq1, hq2, t_X9_codeOf R  h (fun r18 h => ?_)⟩
            obtain ⟨hq1, hq2, h⟩ := h
            exact ⟨hq1, hq2, hp _ _ _ _ h R hE0⟩
        · have h := h.2 c10
          refine ⟨fun c19 => ?_, fun c19 => ?_⟩
          · have h := h.1 c19
            obtain ⟨hq1, hq2, h⟩ := h
            exact ⟨hq1, hq2, hp _ _ _ _ h R hE0⟩
          · have h := h.2 c19
            obtain ⟨hq1, hq2, h⟩ := h
            exact ⟨hq1, hq2, hp _ _ _ _ h R hE0⟩
  obtain ⟨m1, m2, hm1, hm2, h⟩ := h
  refine ⟨_, ob_4 R hk_v0, m1, m2, hm1, hm2, t_X4_fill R hk_v0 h (fun Y X aa h R hE => ?_)⟩
  have hk_v0 := (hE _ (by rw [hk_v0]; decide)).trans hk_v0
  have hE0 := fun a q => (hE a (by rw [hE0 a q]; exact q)).trans (hE0 a q)
  obtain ⟨n4, h⟩ := h
  exact ⟨n4, J_25 n4 _ _ _ _ _ _ _ _ _ _ h R hE0 (hk_v0) ⟩
