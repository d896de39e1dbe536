def tp_X3_write (st : TS) (post : Int32 → TY → Prop) (Y : TY) (v0 : Nat) (v1 : Int32) : Prop := ((tI Y v0 0) < (60 : Int32) → vp_in (tI Y v0 0) 60 ∧ ∀ Y2 : TY, Y2 = sF Y v0 1 (upd (tA Y v0 1) (tI Y v0 0).toNatClampNeg v1) → ∀ Y3 : TY, Y3 = sI Y2 v0 0 ((tI Y2 v0 0) + (1 : Int32)) → post (1 : Int32) Y3) ∧ (¬ (tI Y v0 0) < (60 : Int32) → post (0 : Int32) Y)
set_option maxHeartbeats 4000000 in
set_option maxRecDepth 100000 in
theorem t_X3_write {st : TS} {aa : Nat → Nat → Nat} {Y : TY} {X : Hp} {postT : Int32 → TY → Prop} {post : Int32 → Hp → Prop} {v0 : Nat} {v1 : Int32} (R : Rel st aa Y X) (hk_v0 : tK Y v0 = 3) (h : tp_X3_write st postT Y v0 v1) (hp : ∀ (r : Int32) (Y' : TY) (X' : Hp), postT r Y' → Rel st aa Y' X' → (∀ a, tK Y' a = tK Y a) → post r X') : wp_X3_write post X v0 v1 := by
  unfold tp_X3_write at h
  unfold wp_X3_write
  have hE0 : ∀ a, tK Y a = tK Y a := fun a => rfl
  obtain ⟨Y0, hY0⟩ : ∃ Z : TY, Z = Y := ⟨_, rfl⟩
  have hE0 : ∀ a, tK Y a = tK Y0 a := by rw [hY0]; exact hE0
  rw [← hY0] at hp
  refine ⟨_, _, ob_3 R hk_v0, rfl, ?_⟩
  refine ⟨fun c1 => ?_, fun c1 => ?_⟩
  · have h := h.1 c1
    refine ⟨_, _, ob_3 R hk_v0, rfl, ?_⟩
    refine ⟨_, _, ob_3 R hk_v0, rfl, ?_⟩
    refine ⟨_, _, ar_3_1 R hk_v0, h.1, fun X1 e1 => ?_⟩
    have h := h.2 _ rfl
    have R := as_3_1 R hk_v0 e1
    refine ⟨_, _, ob_3 R hk_v0, rfl, ?_⟩
    refine ⟨_, ob_3 R hk_v0, (by decide : 0 < 2), fun X1 e1 => ?_⟩
    have h := h _ rfl
    have R := pu_3_0 R hk_v0 e1
    exact hp _ _ _ h R hE0
  · have h := h.2 c1
    exact hp _ _ _ h R hE0
def tp_X3_thingOf (st : TS) (post : Int32 → Prop) (Y : TY) (v0 : Int32) : Prop := (v0 = (49 : Int32) → post (1 : Int32)) ∧ (v0 = (50 : Int32) → post (2 : Int32)) ∧ (v0 = (51 : Int32) → post (3 : Int32)) ∧ (v0 = (108 : Int32) → post (4 : Int32)) ∧ (v0 = (119 : Int32) → post (0 : Int32)) ∧ (¬ v0 = (49 : Int32) ∧ ¬ v0 = (50 : Int32) ∧ ¬ v0 = (51 : Int32) ∧ ¬ v0 = (108 : Int32) ∧ ¬ v0 = (119 : Int32) → post (-6 : Int32))
set_option maxHeartbeats 4000000 in
set_option maxRecDepth 100000 in
theorem t_X3_thingOf {st : TS} {aa : Nat → Nat → Nat} {Y : TY} {X : Hp} {postT : Int32 → Prop} {post : Int32 → Prop} {v0 : Int32} (R : Rel st aa Y X)  (h : tp_X3_thingOf st postT Y v0) (hp : ∀ (r : Int32) , postT r → post r ) : wp_X3_thingOf post X v0 := by
  unfold tp_X3_thingOf at h
  unfold wp_X3_thingOf
  refine ⟨fun c1 => ?_, fun c2 => ?_, fun c3 => ?_, fun c4 => ?_, fun c5 => ?_, fun c6 => ?_⟩
  · have h := h.1 c1
    exact hp _ h
  · have h := h.2.1 c2
    exact hp _ h
  · have h := h.2.2.1 c3
    exact hp _ h
  · have h := h.2.2.2.1 c4
    exact hp _ h
  · have h := h.2.2.2.2.1 c5
    exact hp _ h
  · have h := h.2.2.2.2.2 c6
    exact hp _ h
def tk_X3_wantedBehind_55 (st : TS) (post : Int32 → Prop) (Y : TY) (v0 : Int32) (v1 : Int32)  (b55_2 : Int32) : Prop := (¬ b55_2 = (3 : Int32) → post (0 : Int32)) ∧ (b55_2 = (3 : Int32) → post (2 : Int32))
def tp_X3_wantedBehind (st : TS) (post : Int32 → Prop) (Y : TY) (v0 : Int32) (v1 : Int32) : Prop := (¬ v0 = (2 : Int32) → (¬ v1 = (33 : Int32) → tp_X3_thingOf st (fun r3 => (r3 = (-6 : Int32) → post (3 : Int32)) ∧ (¬ r3 = (-6 : Int32) → (¬ r3 = 0 → tk_X3_wantedBehind_55 st post Y v0 v1 r3) ∧ (r3 = 0 → (¬ v0 = (1 : Int32) → tk_X3_wantedBehind_55 st post Y v0 v1 r3) ∧ (v0 = (1 : Int32) → post (3 : Int32))))) Y v1) ∧ (v1 = (33 : Int32) → (¬ v0 = 0 → post (3 : Int32)) ∧ (v0 = 0 → post (1 : Int32)))) ∧ (v0 = (2 : Int32) → (¬ v1 = (46 : Int32) → post (3 : Int32)) ∧ (v1 = (46 : Int32) → post (0 : Int32)))
set_option maxHeartbeats 4000000 in
set_option maxRecDepth 100000 in
theorem t_X3_wantedBehind {st : TS} {aa : Nat → Nat → Nat} {Y : TY} {X : Hp} {postT : Int32 → Prop} {post : Int32 → Prop} {v0 : Int32} {v1 : Int32} (R : Rel st aa Y X)  (h : tp_X3_wantedBehind st postT Y v0 v1) (hp : ∀ (r : Int32) , postT r → post r ) : wp_X3_wantedBehind post X v0 v1 := by
  unfold tp_X3_wantedBehind at h
  unfold wp_X3_wantedBehind
  have J_55 : ∀ (b55_2 : Int32), ∀ (_ : tk_X3_wantedBehind_55 st postT Y v0 v1  b55_2), bk_X3_wantedBehind_55 post X v0 v1  b55_2 := by
    intro b55_2 h  
    unfold tk_X3_wantedBehind_55 at h
    unfold bk_X3_wantedBehind_55
    refine ⟨fun c9 => ?_, fun c9 => ?_⟩
    · have h := h.1 c9
      exact hp _ h
    · have h := h.2 c9
      exact hp _ h
  refine ⟨fun c1 => ?_, fun c1 => ?_⟩
  · have h := h.1 c1
    refine ⟨fun c2 => ?_, fun c2 => ?_⟩
    · have h := h.1 c2
      refine t_X3_thingOf R  h (fun r3 h => ?_)
      refine ⟨fun c4 => ?_, fun c4 => ?_⟩
      · have h := h.1 c4
        exact hp _ h
      · have h := h.2 c4
        refine ⟨fun c5 => ?_, fun c5 => ?_⟩
        · have h := h.1 c5
          exact J_55 _ h  
        · have h := h.2 c5
          refine ⟨fun c6 => ?_, fun c6 => ?_⟩
          · have h := h.1 c6
            exact J_55 _ h  
          · have h := h.2 c6
            exact hp _ h
    · have h := h.2 c2
      refine ⟨fun c7 => ?_, fun c7 => ?_⟩
      · have h := h.1 c7
        exact hp _ h
      · have h := h.2 c7
        exact hp _ h
  · have h := h.2 c1
    refine ⟨fun c8 => ?_, fun c8 => ?_⟩
    · have h := h.1 c8
      exact hp _ h
    · have h := h.2 c8
      exact hp _ h
def tk_X3_faultPlace_4 (st : TS) (post : Int32 → Prop) (Y : TY) (v0 : Nat)  : Nat → Int32 → Int32 → Prop
  | 0, _, _ => False
  | k + 1, b4_1, b4_2 => ((tI Y v0 0) ≤ b4_2 → (¬ b4_1 = 0 → post (tI Y v0 0)) ∧ (b4_1 = 0 → post (-6 : Int32))) ∧ (¬ (tI Y v0 0) ≤ b4_2 → vp_in b4_2 60 ∧ tp_X3_wantedBehind st (fun r4 => (¬ r4 = (3 : Int32) → ∀ x6 : Int32, x6 = b4_2 + (1 : Int32) → (tk_X3_faultPlace_4 st post Y v0 k) r4 x6) ∧ (r4 = (3 : Int32) → post b4_2)) Y b4_1 (tA Y v0 1 b4_2.toNatClampNeg))
def tp_X3_faultPlace (st : TS) (post : Int32 → Prop) (Y : TY) (v0 : Nat) : Prop := ∃ n1 : Nat, tk_X3_faultPlace_4 st post Y v0 n1 (0 : Int32) (0 : Int32)
set_option maxHeartbeats 4000000 in
set_option maxRecDepth 100000 in
theorem t_X3_faultPlace {st : TS} {aa : Nat → Nat → Nat} {Y : TY} {X : Hp} {postT : Int32 → Prop} {post : Int32 → Prop} {v0 : Nat} (R : Rel st aa Y X) (hk_v0 : tK Y v0 = 3) (h : tp_X3_faultPlace st postT Y v0) (hp : ∀ (r : Int32) , postT r → post r ) : wp_X3_faultPlace post X v0 := by
  unfold tp_X3_faultPlace at h
  unfold wp_X3_faultPlace
  have J_4 : ∀ (n : Nat) (b4_1 : Int32) (b4_2 : Int32), ∀ (_ : tk_X3_faultPlace_4 st postT Y v0  n b4_1 b4_2), bk_X3_faultPlace_4 post X v0  n b4_1 b4_2 := by
    intro n
    induction n with
    | zero =>
      intro b4_1 b4_2 h  
      rw [tk_X3_faultPlace_4] at h
      exact h.elim
    | succ n_4 ih_4 =>
      intro b4_1 b4_2 h  
      rw [tk_X3_faultPlace_4] at h
      rw [bk_X3_faultPlace_4]
      refine ⟨_, _, ob_3 R hk_v0, rfl, ?_⟩
      refine ⟨fun c2 => ?_, fun c2 => ?_⟩
      · have h := h.1 c2
        refine ⟨fun c3 => ?_, fun c3 => ?_⟩
        · have h := h.1 c3
          refine ⟨_, _, ob_3 R hk_v0, rfl, ?_⟩
          exact hp _ h
        · have h := h.2 c3
          exact hp _ h
      · have h := h.2 c2
        refine ⟨_, _, ob_3 R hk_v0, rfl, ?_⟩
        refine ⟨_, _, ar_3_1 R hk_v0, h.1, ?_⟩
        have h := h.2
        refine t_X3_wantedBehind R  h (fun r4 h => ?_)
        refine ⟨fun c5 => ?_, fun c5 => ?_⟩
        · have h := h.1 c5
          intro x6 ex6
          have h := h x6 ex6
          exact ih_4 _ _ h  
        · have h := h.2 c5
          exact hp _ h
  obtain ⟨n1, h⟩ := h
  exact ⟨n1, J_4 n1 _ _ h  ⟩
def tp_X5_at (st : TS) (post : Int32 → Prop) (Y : TY) (v0 : Nat) (v1 : Int32) : Prop := (v1 < 0 → post (0 : Int32)) ∧ (¬ v1 < 0 → ((nI 1029) ≤ v1 → post (0 : Int32)) ∧ (¬ (nI 1029) ≤ v1 → vp_in v1 1029 ∧ post (tA Y v0 1 v1.toNatClampNeg)))
set_option maxHeartbeats 4000000 in
set_option maxRecDepth 100000 in
theorem t_X5_at {st : TS} {aa : Nat → Nat → Nat} {Y : TY} {X : Hp} {postT : Int32 → Prop} {post : Int32 → Prop} {v0 : Nat} {v1 : Int32} (R : Rel st aa Y X) (hk_v0 : tK Y v0 = 5) (h : tp_X5_at st postT Y v0 v1) (hp : ∀ (r : Int32) , postT r → post r ) : wp_X5_at post X v0 v1 := by
  unfold tp_X5_at at h
  unfold wp_X5_at
  refine ⟨fun c1 => ?_, fun c1 => ?_⟩
  · have h := h.1 c1
    exact hp _ h
  · have h := h.2 c1
    refine ⟨_, _, ob_5 R hk_v0, rfl, ?_⟩
    refine ⟨_, _, ar_5_1 R hk_v0, ?_⟩
    refine ⟨fun c2 => ?_, fun c2 => ?_⟩
    · have h := h.1 c2
      exact hp _ h
    · have h := h.2 c2
      refine ⟨_, _, ob_5 R hk_v0, rfl, ?_⟩
      refine ⟨_, _, ar_5_1 R hk_v0, h.1, ?_⟩
      have h := h.2
      exact hp _ h
def tp_X5_put (st : TS) (post : TY → Prop) (Y : TY) (v0 : Nat) (v1 : Int32) (v2 : Int32) : Prop := (v1 < 0 → post Y) ∧ (¬ v1 < 0 → ((nI 1029) ≤ v1 → post Y) ∧ (¬ (nI 1029) ≤ v1 → vp_in v1 1029 ∧ ∀ Y3 : TY, Y3 = sF Y v0 1 (upd (tA Y v0 1) v1.toNatClampNeg v2) → post Y3))
set_option maxHeartbeats 4000000 in
set_option maxRecDepth 100000 in
theorem t_X5_put {st : TS} {aa : Nat → Nat → Nat} {Y : TY} {X : Hp} {postT : TY → Prop} {post : Hp → Prop} {v0 : Nat} {v1 : Int32} {v2 : Int32} (R : Rel st aa Y X) (hk_v0 : tK Y v0 = 5) (h : tp_X5_put st postT Y v0 v1 v2) (hp : ∀ (Y' : TY) (X' : Hp), postT Y' → Rel st aa Y' X' → (∀ a, tK Y' a = tK Y a) → post X') : wp_X5_put post X v0 v1 v2 := by
  unfold tp_X5_put at h
  unfold wp_X5_put
  have hE0 : ∀ a, tK Y a = tK Y a := fun a => rfl
  obtain ⟨Y0, hY0⟩ : ∃ Z : TY, Z = Y := ⟨_, rfl⟩
  have hE0 : ∀ a, tK Y a = tK Y0 a := by rw [hY0]; exact hE0
  rw [← hY0] at hp
  refine ⟨fun c1 => ?_, fun c1 => ?_⟩
  · have h := h.1 c1
    exact hp _ _ h R hE0
  · have h := h.2 c1
    refine ⟨_, _, ob_5 R hk_v0, rfl, ?_⟩
    refine ⟨_, _, ar_5_1 R hk_v0, ?_⟩
    refine ⟨fun c2 => ?_, fun c2 => ?_⟩
    · have h := h.1 c2
      exact hp _ _ h R hE0
    · have h := h.2 c2
      refine ⟨_, _, ob_5 R hk_v0, rfl, ?_⟩
      refine ⟨_, _, ar_5_1 R hk_v0, h.1, fun X1 e1 => ?_⟩
      have h := h.2 _ rfl
      have R := as_5_1 R hk_v0 e1
      exact hp _ _ h R hE0
def tp_X7_pass (st : TS) (post : TY → Prop) (Y : TY) (v0 : Nat) (v1 : Int32) (v2 : Int32) : Prop := ((60 : Int32) ≤ (tI Y v0 0) → post Y) ∧ (¬ (60 : Int32) ≤ (tI Y v0 0) → vp_in (tI Y v0 0) 60 ∧ ∀ Y2 : TY, Y2 = sF Y v0 1 (upd (tA Y v0 1) (tI Y v0 0).toNatClampNeg v1) → vp_in (tI Y2 v0 0) 60 ∧ ∀ Y3 : TY, Y3 = sF Y2 v0 2 (upd (tA Y2 v0 2) (tI Y2 v0 0).toNatClampNeg v2) → ∀ Y4 : TY, Y4 = sI Y3 v0 0 ((tI Y3 v0 0) + (1 : Int32)) → post Y4)
set_option maxHeartbeats 4000000 in
set_option maxRecDepth 100000 in
theorem t_X7_pass {st : TS} {aa : Nat → Nat → Nat} {Y : TY} {X : Hp} {postT : TY → Prop} {post : Hp → Prop} {v0 : Nat} {v1 : Int32} {v2 : Int32} (R : Rel st aa Y X) (hk_v0 : tK Y v0 = 7) (h : tp_X7_pass st postT Y v0 v1 v2) (hp : ∀ (Y' : TY) (X' : Hp), postT Y' → Rel st aa Y' X' → (∀ a, tK Y' a = tK Y a) → post X') : wp_X7_pass post X v0 v1 v2 := by
  unfold tp_X7_pass at h
  unfold wp_X7_pass
  have hE0 : ∀ a, tK Y a = tK Y a := fun a => rfl
  obtain ⟨Y0, hY0⟩ : ∃ Z : TY, Z = Y := ⟨_, rfl⟩
  have hE0 : ∀ a, tK Y a = tK Y0 a := by rw [hY0]; exact hE0
  rw [← hY0] at hp
  refine ⟨_, _, ob_7 R hk_v0, rfl, ?_⟩
  refine ⟨fun c1 => ?_, fun c1 => ?_⟩
  · have h := h.1 c1
    exact hp _ _ h R hE0
  · have h := h.2 c1
    refine ⟨_, _, ob_7 R hk_v0, rfl, ?_⟩
    refine ⟨_, _, ob_7 R hk_v0, rfl, ?_⟩
    refine ⟨_, _, ar_7_1 R hk_v0, h.1, fun X1 e1 => ?_⟩
    have h := h.2 _ rfl
    have R := as_7_1 R hk_v0 e1
    refine ⟨_, _, ob_7 R hk_v0, rfl, ?_⟩
    refine ⟨_, _, ob_7 R hk_v0, rfl, ?_⟩
    refine ⟨_, _, ar_7_2 R hk_v0, h.1, fun X1 e1 => ?_⟩
    have h := h.2 _ rfl
    have R := as_7_2 R hk_v0 e1
    refine ⟨_, _, ob_7 R hk_v0, rfl, ?_⟩
    refine ⟨_, ob_7 R hk_v0, (by decide : 0 < 3), fun X1 e1 => ?_⟩
    have h := h _ rfl
    have R := pu_7_0 R hk_v0 e1
    exact hp _ _ h R hE0
def tp_X9_lessened (st : TS) (post : Int32 → Prop) (Y : TY) (v0 : Int32) (v1 : Int32) : Prop := post ((((v0.toInt64) * (((1000000 : Int32) - v1).toInt64)) / (1000000 : Int64)).toInt32)
set_option maxHeartbeats 4000000 in
set_option maxRecDepth 100000 in
theorem t_X9_lessened {st : TS} {aa : Nat → Nat → Nat} {Y : TY} {X : Hp} {postT : Int32 → Prop} {post : Int32 → Prop} {v0 : Int32} {v1 : Int32} (R : Rel st aa Y X)  (h : tp_X9_lessened st postT Y v0 v1) (hp : ∀ (r : Int32) , postT r → post r ) : wp_X9_lessened post X v0 v1 := by
  unfold tp_X9_lessened at h
  unfold wp_X9_lessened
  exact hp _ h
def tk_X7_safe_10 (st : TS) (post : Int32 → Prop) (Y : TY) (v0 : Nat)  : Nat → Int32 → Int32 → Prop
  | 0, _, _ => False
  | k + 1, b10_1, b10_2 => (b10_2 < 0 → post b10_1) ∧ (¬ b10_2 < 0 → vp_in b10_2 60 ∧ vp_in b10_2 60 ∧ tp_X9_lessened st (fun r4 => ∀ x5 : Int32, x5 = b10_2 + (-1 : Int32) → (tk_X7_safe_10 st post Y v0 k) r4 x5) Y b10_1 ((tA Y v0 1 b10_2.toNatClampNeg) * (tA Y v0 2 b10_2.toNatClampNeg)))
def tp_X7_safe (st : TS) (post : Int32 → Prop) (Y : TY) (v0 : Nat) : Prop := ∀ x1 : Int32, x1 = ((tI Y v0 0) - (1 : Int32)) → ∃ n2 : Nat, tk_X7_safe_10 st post Y v0 n2 (1000000 : Int32) x1
set_option maxHeartbeats 4000000 in
set_option maxRecDepth 100000 in
theorem t_X7_safe {st : TS} {aa : Nat → Nat → Nat} {Y : TY} {X : Hp} {postT : Int32 → Prop} {post : Int32 → Prop} {v0 : Nat} (R : Rel st aa Y X) (hk_v0 : tK Y v0 = 7) (h : tp_X7_safe st postT Y v0) (hp : ∀ (r : Int32) , postT r → post r ) : wp_X7_safe post X v0 := by
  unfold tp_X7_safe at h
  unfold wp_X7_safe
  have J_10 : ∀ (n : Nat) (b10_1 : Int32) (b10_2 : Int32), ∀ (_ : tk_X7_safe_10 st postT Y v0  n b10_1 b10_2), bk_X7_safe_10 post X v0  n b10_1 b10_2 := by
    intro n
    induction n with
    | zero =>
      intro b10_1 b10_2 h  
      rw [tk_X7_safe_10] at h
      exact h.elim
    | succ n_10 ih_10 =>
      intro b10_1 b10_2 h  
      rw [tk_X7_safe_10] at h
      rw [bk_X7_safe_10]
      refine ⟨fun c3 => ?_, fun c3 => ?_⟩
      · have h := h.1 c3
        exact hp _ h
      · have h := h.2 c3
        refine ⟨_, _, ob_7 R hk_v0, rfl, ?_⟩
        refine ⟨_, _, ar_7_1 R hk_v0, h.1, ?_⟩
        have h := h.2
        refine ⟨_, _, ob_7 R hk_v0, rfl, ?_⟩
        refine ⟨_, _, ar_7_2 R hk_v0, h.1, ?_⟩
        have h := h.2
        refine t_X9_lessened R  h (fun r4 h => ?_)
        intro x5 ex5
        have h := h x5 ex5
        exact ih_10 _ _ h  
  refine ⟨_, _, ob_7 R hk_v0, rfl, ?_⟩
  intro x1 ex1
  have h := h x1 ex1
  obtain ⟨n2, h⟩ := h
  exact ⟨n2, J_10 n2 _ _ h  ⟩
def tk_X7_riskiest_48 (st : TS) (post : Int32 → Prop) (Y : TY) (v0 : Nat) (r_7 : Int32 → Int32 → Int32 → Prop) (b48_1 : Int32) (b48_2 : Int32) (b48_3 : Int32) : Prop := ∀ x5 : Int32, x5 = b48_3 + (1 : Int32) → r_7 b48_1 b48_2 x5
def tk_X7_riskiest_7 (st : TS) (post : Int32 → Prop) (Y : TY) (v0 : Nat)  : Nat → Int32 → Int32 → Int32 → Prop
  | 0, _, _, _ => False
  | k + 1, b7_1, b7_2, b7_3 => ((tI Y v0 0) ≤ b7_3 → post b7_1) ∧ (¬ (tI Y v0 0) ≤ b7_3 → vp_in b7_3 60 ∧ vp_in b7_3 60 ∧ (((tA Y v0 1 b7_3.toNatClampNeg) * (tA Y v0 2 b7_3.toNatClampNeg)) ≤ b7_2 → tk_X7_riskiest_48 st post Y v0 (tk_X7_riskiest_7 st post Y v0 k) b7_1 b7_2 b7_3) ∧ (¬ ((tA Y v0 1 b7_3.toNatClampNeg) * (tA Y v0 2 b7_3.toNatClampNeg)) ≤ b7_2 → vp_in b7_3 60 ∧ vp_in b7_3 60 ∧ ∀ x4 : Int32, x4 = ((tA Y v0 1 b7_3.toNatClampNeg) * (tA Y v0 2 b7_3.toNatClampNeg)) → tk_X7_riskiest_48 st post Y v0 (tk_X7_riskiest_7 st post Y v0 k) b7_3 x4 b7_3))
def tp_X7_riskiest (st : TS) (post : Int32 → Prop) (Y : TY) (v0 : Nat) : Prop := ∃ n1 : Nat, tk_X7_riskiest_7 st post Y v0 n1 (-6 : Int32) (-1 : Int32) (0 : Int32)
set_option maxHeartbeats 4000000 in
set_option maxRecDepth 100000 in
theorem t_X7_riskiest {st : TS} {aa : Nat → Nat → Nat} {Y : TY} {X : Hp} {postT : Int32 → Prop} {post : Int32 → Prop} {v0 : Nat} (R : Rel st aa Y X) (hk_v0 : tK Y v0 = 7) (h : tp_X7_riskiest st postT Y v0) (hp : ∀ (r : Int32) , postT r → post r ) : wp_X7_riskiest post X v0 := by
  unfold tp_X7_riskiest at h
  unfold wp_X7_riskiest
  have J_7 : ∀ (n : Nat) (b7_1 : Int32) (b7_2 : Int32) (b7_3 : Int32), ∀ (_ : tk_X7_riskiest_7 st postT Y v0  n b7_1 b7_2 b7_3), bk_X7_riskiest_7 post X v0  n b7_1 b7_2 b7_3 := by
    intro n
    induction n with
    | zero =>
      intro b7_1 b7_2 b7_3 h  
      rw [tk_X7_riskiest_7] at h
      exact h.elim
    | succ n_7 ih_7 =>
      have J_48 : ∀ (b48_1 : Int32) (b48_2 : Int32) (b48_3 : Int32), ∀ (_ : tk_X7_riskiest_48 st postT Y v0 (tk_X7_riskiest_7 st postT Y v0 n_7) b48_1 b48_2 b48_3), bk_X7_riskiest_48 post X v0 (bk_X7_riskiest_7 post X v0 n_7) b48_1 b48_2 b48_3 := by
        intro b48_1 b48_2 b48_3 h  
        unfold tk_X7_riskiest_48 at h
        unfold bk_X7_riskiest_48
        intro x5 ex5
        have h := h x5 ex5
        exact ih_7 _ _ _ h  
      intro b7_1 b7_2 b7_3 h  
      rw [tk_X7_riskiest_7] at h
      rw [bk_X7_riskiest_7]
      refine ⟨_, _, ob_7 R hk_v0, rfl, ?_⟩
      refine ⟨fun c2 => ?_, fun c2 => ?_⟩
      · have h := h.1 c2
        exact hp _ h
      · have h := h.2 c2
        refine ⟨_, _, ob_7 R hk_v0, rfl, ?_⟩
        refine ⟨_, _, ar_7_1 R hk_v0, h.1, ?_⟩
        have h := h.2
        refine ⟨_, _, ob_7 R hk_v0, rfl, ?_⟩
        refine ⟨_, _, ar_7_2 R hk_v0, h.1, ?_⟩
        have h := h.2
        refine ⟨fun c3 => ?_, fun c3 => ?_⟩
        · have h := h.1 c3
          exact J_48 _ _ _ h  
        · have h := h.2 c3
          refine ⟨_, _, ob_7 R hk_v0, rfl, ?_⟩
          refine ⟨_, _, ar_7_1 R hk_v0, h.1, ?_⟩
          have h := h.2
          refine ⟨_, _, ob_7 R hk_v0, rfl, ?_⟩
          refine ⟨_, _, ar_7_2 R hk_v0, h.1, ?_⟩
          have h := h.2
          intro x4 ex4
          have h := h x4 ex4
          exact J_48 _ _ _ h  
  obtain ⟨n1, h⟩ := h
  exact ⟨n1, J_7 n1 _ _ _ h  ⟩
def tp_X7_drawBehind (st : TS) (post : Int32 → Prop) (Y : TY) (v0 : Int32) : Prop := post (((v0 * (75 : Int32)) + (74 : Int32)) - ((v0 * (75 : Int32)) + (74 : Int32)) / (65537 : Int32) * (65537 : Int32))
set_option maxHeartbeats 4000000 in
set_option maxRecDepth 100000 in
theorem t_X7_drawBehind {st : TS} {aa : Nat → Nat → Nat} {Y : TY} {X : Hp} {postT : Int32 → Prop} {post : Int32 → Prop} {v0 : Int32} (R : Rel st aa Y X)  (h : tp_X7_drawBehind st postT Y v0) (hp : ∀ (r : Int32) , postT r → post r ) : wp_X7_drawBehind post X v0 := by
  unfold tp_X7_drawBehind at h
  unfold wp_X7_drawBehind
  exact hp _ h
def tk_X7_struckBy_52 (st : TS) (post : Int32 → Prop) (Y : TY) (v0 : Nat) (v1 : Int32) (r_4 : Int32 → Int32 → Prop) (b52_2 : Int32) (b52_3 : Int32) : Prop := ∀ x7 : Int32, x7 = b52_3 + (1 : Int32) → r_4 b52_2 x7
def tk_X7_struckBy_4 (st : TS) (post : Int32 → Prop) (Y : TY) (v0 : Nat) (v1 : Int32)  : Nat → Int32 → Int32 → Prop
  | 0, _, _ => False
  | k + 1, b4_2, b4_3 => ((tI Y v0 0) ≤ b4_3 → post (-6 : Int32)) ∧ (¬ (tI Y v0 0) ≤ b4_3 → tp_X7_drawBehind st (fun r3 => vp_in b4_3 60 ∧ ((tA Y v0 1 b4_3.toNatClampNeg) ≤ (r3 - r3 / (1000 : Int32) * (1000 : Int32)) → tk_X7_struckBy_52 st post Y v0 v1 (tk_X7_struckBy_4 st post Y v0 v1 k) r3 b4_3) ∧ (¬ (tA Y v0 1 b4_3.toNatClampNeg) ≤ (r3 - r3 / (1000 : Int32) * (1000 : Int32)) → tp_X7_drawBehind st (fun r5 => vp_in b4_3 60 ∧ ((tA Y v0 2 b4_3.toNatClampNeg) ≤ (r5 - r5 / (1000 : Int32) * (1000 : Int32)) → tk_X7_struckBy_52 st post Y v0 v1 (tk_X7_struckBy_4 st post Y v0 v1 k) r5 b4_3) ∧ (¬ (tA Y v0 2 b4_3.toNatClampNeg) ≤ (r5 - r5 / (1000 : Int32) * (1000 : Int32)) → post b4_3)) Y r3)) Y b4_2)
def tp_X7_struckBy (st : TS) (post : Int32 → Prop) (Y : TY) (v0 : Nat) (v1 : Int32) : Prop := ∃ n1 : Nat, tk_X7_struckBy_4 st post Y v0 v1 n1 v1 (0 : Int32)
set_option maxHeartbeats 4000000 in
set_option maxRecDepth 100000 in
theorem t_X7_struckBy {st : TS} {aa : Nat → Nat → Nat} {Y : TY} {X : Hp} {postT : Int32 → Prop} {post : Int32 → Prop} {v0 : Nat} {v1 : Int32} (R : Rel st aa Y X) (hk_v0 : tK Y v0 = 7) (h : tp_X7_struckBy st postT Y v0 v1) (hp : ∀ (r : Int32) , postT r → post r ) : wp_X7_struckBy post X v0 v1 := by
  unfold tp_X7_struckBy at h
  unfold wp_X7_struckBy
  have J_4 : ∀ (n : Nat) (b4_2 : Int32) (b4_3 : Int32), ∀ (_ : tk_X7_struckBy_4 st postT Y v0 v1  n b4_2 b4_3), bk_X7_struckBy_4 post X v0 v1  n b4_2 b4_3 := by
    intro n
    induction n with
    | zero =>
      intro b4_2 b4_3 h  
      rw [tk_X7_struckBy_4] at h
      exact h.elim
    | succ n_4 ih_4 =>
      have J_52 : ∀ (b52_2 : Int32) (b52_3 : Int32), ∀ (_ : tk_X7_struckBy_52 st postT Y v0 v1 (tk_X7_struckBy_4 st postT Y v0 v1 n_4) b52_2 b52_3), bk_X7_struckBy_52 post X v0 v1 (bk_X7_struckBy_4 post X v0 v1 n_4) b52_2 b52_3 := by
        intro b52_2 b52_3 h  
        unfold tk_X7_struckBy_52 at h
        unfold bk_X7_struckBy_52
        intro x7 ex7
        have h := h x7 ex7
        exact ih_4 _ _ h  
      intro b4_2 b4_3 h  
      rw [tk_X7_struckBy_4] at h
      rw [bk_X7_struckBy_4]
      refine ⟨_, _, ob_7 R hk_v0, rfl, ?_⟩
      refine ⟨fun c2 => ?_, fun c2 => ?_⟩
      · have h := h.1 c2
        exact hp _ h
      · have h := h.2 c2
        refine t_X7_drawBehind R  h (fun r3 h => ?_)
        refine ⟨_, _, ob_7 R hk_v0, rfl, ?_⟩
        refine ⟨_, _, ar_7_1 R hk_v0, h.1, ?_⟩
        have h := h.2
        refine ⟨fun c4 => ?_, fun c4 => ?_⟩
        · have h := h.1 c4
          exact J_52 _ _ h  
        · have h := h.2 c4
          refine t_X7_drawBehind R  h (fun r5 h => ?_)
          refine ⟨_, _, ob_7 R hk_v0, rfl, ?_⟩
          refine ⟨_, _, ar_7_2 R hk_v0, h.1, ?_⟩
          have h := h.2
          refine ⟨fun c6 => ?_, fun c6 => ?_⟩
          · have h := h.1 c6
            exact J_52 _ _ h  
          · have h := h.2 c6
            exact hp _ h
  obtain ⟨n1, h⟩ := h
  exact ⟨n1, J_4 n1 _ _ h  ⟩
def tp_X8_hasRoom (st : TS) (post : Int32 → Prop) (Y : TY) (v0 : Nat) (v1 : Int32) : Prop := ((8 : Int32) ≤ (tI Y v0 0) → post (0 : Int32)) ∧ (¬ (8 : Int32) ≤ (tI Y v0 0) → ((48 : Int32) < ((tI Y v0 1) + v1) → post (0 : Int32)) ∧ (¬ (48 : Int32) < ((tI Y v0 1) + v1) → post (1 : Int32)))
set_option maxHeartbeats 4000000 in
set_option maxRecDepth 100000 in
theorem t_X8_hasRoom {st : TS} {aa : Nat → Nat → Nat} {Y : TY} {X : Hp} {postT : Int32 → Prop} {post : Int32 → Prop} {v0 : Nat} {v1 : Int32} (R : Rel st aa Y X) (hk_v0 : tK Y v0 = 8) (h : tp_X8_hasRoom st postT Y v0 v1) (hp : ∀ (r : Int32) , postT r → post r ) : wp_X8_hasRoom post X v0 v1 := by
  unfold tp_X8_hasRoom at h
  unfold wp_X8_hasRoom
  refine ⟨_, _, ob_8 R hk_v0, rfl, ?_⟩
  refine ⟨fun c1 => ?_, fun c1 => ?_⟩
  · have h := h.1 c1
    exact hp _ h
  · have h := h.2 c1
    refine ⟨_, _, ob_8 R hk_v0, rfl, ?_⟩
    refine ⟨fun c2 => ?_, fun c2 => ?_⟩
    · have h := h.1 c2
      exact hp _ h
    · have h := h.2 c2
      exact hp _ h
def tp_X9_within (st : TS) (post : Int32 → Prop) (Y : TY) (v0 : Int32) (v1 : Int32) (v2 : Int32) : Prop := (v0 < v1 → post (0 : Int32)) ∧ (¬ v0 < v1 → (v2 < v0 → post (0 : Int32)) ∧ (¬ v2 < v0 → post (1 : Int32)))
set_option maxHeartbeats 4000000 in
set_option maxRecDepth 100000 in
theorem t_X9_within {st : TS} {aa : Nat → Nat → Nat} {Y : TY} {X : Hp} {postT : Int32 → Prop} {post : Int32 → Prop} {v0 : Int32} {v1 : Int32} {v2 : Int32} (R : Rel st aa Y X)  (h : tp_X9_within st postT Y v0 v1 v2) (hp : ∀ (r : Int32) , postT r → post r ) : wp_X9_within post X v0 v1 v2 := by
  unfold tp_X9_within at h
  unfold wp_X9_within
  refine ⟨fun c1 => ?_, fun c1 => ?_⟩
  · have h := h.1 c1
    exact hp _ h
  · have h := h.2 c1
    refine ⟨fun c2 => ?_, fun c2 => ?_⟩
    · have h := h.1 c2
      exact hp _ h
    · have h := h.2 c2
      exact hp _ h
def tp_X8_hasLeg (st : TS) (post : Int32 → Prop) (Y : TY) (v0 : Nat) (v1 : Int32) : Prop := tp_X9_within st (fun r1 => (r1 = 0 ∨ r1 = 1) ∧ post r1) Y v1 (0 : Int32) ((tI Y v0 0) - (1 : Int32))
set_option maxHeartbeats 4000000 in
set_option maxRecDepth 100000 in
theorem t_X8_hasLeg {st : TS} {aa : Nat → Nat → Nat} {Y : TY} {X : Hp} {postT : Int32 → Prop} {post : Int32 → Prop} {v0 : Nat} {v1 : Int32} (R : Rel st aa Y X) (hk_v0 : tK Y v0 = 8) (h : tp_X8_hasLeg st postT Y v0 v1) (hp : ∀ (r : Int32) , postT r → post r ) : wp_X8_hasLeg post X v0 v1 := by
  unfold tp_X8_hasLeg at h
  unfold wp_X8_hasLeg
  refine ⟨_, _, ob_8 R hk_v0, rfl, ?_⟩
  refine t_X9_within R  h (fun r1 h => ?_)
  obtain ⟨hz, h⟩ := h
  exact ⟨hz, hp _ h⟩
def tp_X8_hasHour (st : TS) (post : Int32 → Prop) (Y : TY) (v0 : Nat) (v1 : Int32) : Prop := (v1 < 0 → post (0 : Int32)) ∧ (¬ v1 < 0 → ((tI Y v0 1) ≤ v1 → post (0 : Int32)) ∧ (¬ (tI Y v0 1) ≤ v1 → post (1 : Int32)))
set_option maxHeartbeats 4000000 in
set_option maxRecDepth 100000 in
theorem t_X8_hasHour {st : TS} {aa : Nat → Nat → Nat} {Y : TY} {X : Hp} {postT : Int32 → Prop} {post : Int32 → Prop} {v0 : Nat} {v1 : Int32} (R : Rel st aa Y X) (hk_v0 : tK Y v0 = 8) (h : tp_X8_hasHour st postT Y v0 v1) (hp : ∀ (r : Int32) , postT r → post r ) : wp_X8_hasHour post X v0 v1 := by
  unfold tp_X8_hasHour at h
  unfold wp_X8_hasHour
  refine ⟨fun c1 => ?_, fun c1 => ?_⟩
  · have h := h.1 c1
    exact hp _ h
  · have h := h.2 c1
    refine ⟨_, _, ob_8 R hk_v0, rfl, ?_⟩
    refine ⟨fun c2 => ?_, fun c2 => ?_⟩
    · have h := h.1 c2
      exact hp _ h
    · have h := h.2 c2
      exact hp _ h
def tk_X8_lengthen_52 (st : TS) (post : TY → Prop) (v0 : Nat) (v1 : Int32) (v2 : Int32) (v3 : Int32)  : Nat → TY → Int32 → Prop
  | 0, _, _ => False
  | k + 1, Y, b52_4 => (v1 ≤ b52_4 → post Y) ∧ (¬ v1 ≤ b52_4 → vp_in (tI Y v0 1) 48 ∧ ∀ Y9 : TY, Y9 = sF Y v0 5 (upd (tA Y v0 5) (tI Y v0 1).toNatClampNeg v2) → vp_in (tI Y9 v0 1) 48 ∧ ∀ Y10 : TY, Y10 = sF Y9 v0 6 (upd (tA Y9 v0 6) (tI Y9 v0 1).toNatClampNeg v3) → ∀ Y11 : TY, Y11 = sI Y10 v0 1 ((tI Y10 v0 1) + (1 : Int32)) → ∀ x12 : Int32, x12 = b52_4 + (1 : Int32) → (tk_X8_lengthen_52 st post v0 v1 v2 v3 k) Y11 x12)
def tp_X8_lengthen (st : TS) (post : TY → Prop) (Y : TY) (v0 : Nat) (v1 : Int32) (v2 : Int32) (v3 : Int32) : Prop := tp_X8_hasRoom st (fun r1 => (¬ r1 = 0 → vp_in (tI Y v0 0) 8 ∧ ∀ Y3 : TY, Y3 = sF Y v0 2 (upd (tA Y v0 2) (tI Y v0 0).toNatClampNeg v1) → vp_in (tI Y3 v0 0) 8 ∧ ∀ Y4 : TY, Y4 = sF Y3 v0 3 (upd (tA Y3 v0 3) (tI Y3 v0 0).toNatClampNeg v2) → vp_in (tI Y4 v0 0) 8 ∧ ∀ Y5 : TY, Y5 = sF Y4 v0 4 (upd (tA Y4 v0 4) (tI Y4 v0 0).toNatClampNeg v3) → ∀ Y6 : TY, Y6 = sI Y5 v0 0 ((tI Y5 v0 0) + (1 : Int32)) → ∃ n7 : Nat, tk_X8_lengthen_52 st post v0 v1 v2 v3 n7 Y6 (0 : Int32)) ∧ (r1 = 0 → post Y)) Y v0 v1
set_option maxHeartbeats 4000000 in
set_option maxRecDepth 100000 in
theorem t_X8_lengthen {st : TS} {aa : Nat → Nat → Nat} {Y : TY} {X : Hp} {postT : TY → Prop} {post : Hp → Prop} {v0 : Nat} {v1 : Int32} {v2 : Int32} {v3 : Int32} (R : Rel st aa Y X) (hk_v0 : tK Y v0 = 8) (h : tp_X8_lengthen st postT Y v0 v1 v2 v3) (hp : ∀ (Y' : TY) (X' : Hp), postT Y' → Rel st aa Y' X' → (∀ a, tK Y' a = tK Y a) → post X') : wp_X8_lengthen post X v0 v1 v2 v3 := by
  unfold tp_X8_lengthen at h
  unfold wp_X8_lengthen
  have hE0 : ∀ a, tK Y a = tK Y a := fun a => rfl
  obtain ⟨Y0, hY0⟩ : ∃ Z : TY, Z = Y := ⟨_, rfl⟩
  have hE0 : ∀ a, tK Y a = tK Y0 a := by rw [hY0]; exact hE0
  rw [← hY0] at hp
  have J_52 : ∀ (n : Nat) (Y : TY) (b52_4 : Int32), ∀ (X : Hp) (_ : tk_X8_lengthen_52 st postT v0 v1 v2 v3  n Y b52_4), Rel st aa Y X → (∀ a, tK Y a = tK Y0 a) → tK Y v0 = 8 → bk_X8_lengthen_52 post v0 v1 v2 v3  n X b52_4 := by
    intro n
    induction n with
    | zero =>
      intro Y b52_4 X h R hE0 hk_v0 
      rw [tk_X8_lengthen_52] at h
      exact h.elim
    | succ n_52 ih_52 =>
      intro Y b52_4 X h R hE0 hk_v0 
      rw [tk_X8_lengthen_52] at h
      rw [bk_X8_lengthen_52]
      refine ⟨fun c8 => ?_, fun c8 => ?_⟩
      · have h := h.1 c8
        exact hp _ _ h R hE0
      · have h := h.2 c8
        refine ⟨_, _, ob_8 R hk_v0, rfl, ?_⟩
        refine ⟨_, _, ob_8 R hk_v0, rfl, ?_⟩
        refine ⟨_, _, ar_8_5 R hk_v0, h.1, fun X1 e1 => ?_⟩
        have h := h.2 _ rfl
        have R := as_8_5 R hk_v0 e1
        refine ⟨_, _, ob_8 R hk_v0, rfl, ?_⟩
        refine ⟨_, _, ob_8 R hk_v0, rfl, ?_⟩
        refine ⟨_, _, ar_8_6 R hk_v0, h.1, fun X1 e1 => ?_⟩
        have h := h.2 _ rfl
        have R := as_8_6 R hk_v0 e1
        refine ⟨_, _, ob_8 R hk_v0, rfl, ?_⟩
        refine ⟨_, ob_8 R hk_v0, (by decide : 1 < 7), fun X1 e1 => ?_⟩
        have h := h _ rfl
        have R := pu_8_1 R hk_v0 e1
        intro x12 ex12
        have h := h x12 ex12
        exact ih_52 _ _ _ h R hE0 (hk_v0) 
  refine ⟨_, ob_8 R hk_v0, t_X8_hasRoom R hk_v0 h (fun r1 h => ?_)⟩
  refine ⟨fun c2 => ?_, fun c2 => ?_⟩
  · have h := h.1 c2
    refine ⟨_, _, ob_8 R hk_v0, rfl, ?_⟩
    refine ⟨_, _, ob_8 R hk_v0, rfl, ?_⟩
    refine ⟨_, _, ar_8_2 R hk_v0, h.1, fun X1 e1 => ?_⟩
    have h := h.2 _ rfl
    have R := as_8_2 R hk_v0 e1
    refine ⟨_, _, ob_8 R hk_v0, rfl, ?_⟩
    refine ⟨_, _, ob_8 R hk_v0, rfl, ?_⟩
    refine ⟨_, _, ar_8_3 R hk_v0, h.1, fun X1 e1 => ?_⟩
    have h := h.2 _ rfl
    have R := as_8_3 R hk_v0 e1
    refine ⟨_, _, ob_8 R hk_v0, rfl, ?_⟩
    refine ⟨_, _, ob_8 R hk_v0, rfl, ?_⟩
    refine ⟨_, _, ar_8_4 R hk_v0, h.1, fun X1 e1 => ?_⟩
    have h := h.2 _ rfl
    have R := as_8_4 R hk_v0 e1
    refine ⟨_, _, ob_8 R hk_v0, rfl, ?_⟩
    refine ⟨_, ob_8 R hk_v0, (by decide : 0 < 7), fun X1 e1 => ?_⟩
    have h := h _ rfl
    have R := pu_8_0 R hk_v0 e1
    obtain ⟨n7, h⟩ := h
    exact ⟨n7, J_52 n7 _ _ _ h R hE0 (hk_v0) ⟩
  · have h := h.2 c2
    exact hp _ _ h R hE0
def tp_X8_shorten (st : TS) (post : TY → Prop) (Y : TY) (v0 : Nat) : Prop := ((tI Y v0 0) ≤ 0 → post Y) ∧ (¬ (tI Y v0 0) ≤ 0 → ∀ Y2 : TY, Y2 = sI Y v0 0 ((tI Y v0 0) - (1 : Int32)) → vp_in (tI Y2 v0 0) 8 ∧ ∀ Y3 : TY, Y3 = sI Y2 v0 1 ((tI Y2 v0 1) - (tA Y2 v0 2 (tI Y2 v0 0).toNatClampNeg)) → post Y3)
set_option maxHeartbeats 4000000 in
set_option maxRecDepth 100000 in
theorem t_X8_shorten {st : TS} {aa : Nat → Nat → Nat} {Y : TY} {X : Hp} {postT : TY → Prop} {post : Hp → Prop} {v0 : Nat} (R : Rel st aa Y X) (hk_v0 : tK Y v0 = 8) (h : tp_X8_shorten st postT Y v0) (hp : ∀ (Y' : TY) (X' : Hp), postT Y' → Rel st aa Y' X' → (∀ a, tK Y' a = tK Y a) → post X') : wp_X8_shorten post X v0 := by
  unfold tp_X8_shorten at h
  unfold wp_X8_shorten
  have hE0 : ∀ a, tK Y a = tK Y a := fun a => rfl
  obtain ⟨Y0, hY0⟩ : ∃ Z : TY, Z = Y := ⟨_, rfl⟩
  have hE0 : ∀ a, tK Y a = tK Y0 a := by rw [hY0]; exact hE0
  rw [← hY0] at hp
  refine ⟨_, _, ob_8 R hk_v0, rfl, ?_⟩
  refine ⟨fun c1 => ?_, fun c1 => ?_⟩
  · have h := h.1 c1
    exact hp _ _ h R hE0
  · have h := h.2 c1
    refine ⟨_, _, ob_8 R hk_v0, rfl, ?_⟩
    refine ⟨_, ob_8 R hk_v0, (by decide : 0 < 7), fun X1 e1 => ?_⟩
    have h := h _ rfl
    have R := pu_8_0 R hk_v0 e1
    refine ⟨_, _, ob_8 R hk_v0, rfl, ?_⟩
    refine ⟨_, _, ob_8 R hk_v0, rfl, ?_⟩
    refine ⟨_, _, ob_8 R hk_v0, rfl, ?_⟩
    refine ⟨_, _, ar_8_2 R hk_v0, h.1, ?_⟩
    have h := h.2
    refine ⟨_, ob_8 R hk_v0, (by decide : 1 < 7), fun X1 e1 => ?_⟩
    have h := h _ rfl
    have R := pu_8_1 R hk_v0 e1
    exact hp _ _ h R hE0
def tk_X8_firstHourOf_4 (st : TS) (post : Int32 → Prop) (Y : TY) (v0 : Nat) (v1 : Int32)  : Nat → Int32 → Int32 → Prop
  | 0, _, _ => False
  | k + 1, b4_2, b4_3 => (v1 ≤ b4_3 → post b4_2) ∧ (¬ v1 ≤ b4_3 → ((tI Y v0 0) ≤ b4_3 → post b4_2) ∧ (¬ (tI Y v0 0) ≤ b4_3 → vp_in b4_3 8 ∧ ∀ x4 : Int32, x4 = (b4_2 + (tA Y v0 2 b4_3.toNatClampNeg)) → ∀ x5 : Int32, x5 = b4_3 + (1 : Int32) → (tk_X8_firstHourOf_4 st post Y v0 v1 k) x4 x5))
def tp_X8_firstHourOf (st : TS) (post : Int32 → Prop) (Y : TY) (v0 : Nat) (v1 : Int32) : Prop := ∃ n1 : Nat, tk_X8_firstHourOf_4 st post Y v0 v1 n1 (0 : Int32) (0 : Int32)
set_option maxHeartbeats 4000000 in
set_option maxRecDepth 100000 in
theorem t_X8_firstHourOf {st : TS} {aa : Nat → Nat → Nat} {Y : TY} {X : Hp} {postT : Int32 → Prop} {post : Int32 → Prop} {v0 : Nat} {v1 : Int32} (R : Rel st aa Y X) (hk_v0 : tK Y v0 = 8) (h : tp_X8_firstHourOf st postT Y v0 v1) (hp : ∀ (r : Int32) , postT r → post r ) : wp_X8_firstHourOf post X v0 v1 := by
  unfold tp_X8_firstHourOf at h
  unfold wp_X8_firstHourOf
  have J_4 : ∀ (n : Nat) (b4_2 : Int32) (b4_3 : Int32), ∀ (_ : tk_X8_firstHourOf_4 st postT Y v0 v1  n b4_2 b4_3), bk_X8_firstHourOf_4 post X v0 v1  n b4_2 b4_3 := by
    intro n
    induction n with
    | zero =>
      intro b4_2 b4_3 h  
      rw [tk_X8_firstHourOf_4] at h
      exact h.elim
    | succ n_4 ih_4 =>
      intro b4_2 b4_3 h  
      rw [tk_X8_firstHourOf_4] at h
      rw [bk_X8_firstHourOf_4]
      refine ⟨fun c2 => ?_, fun c2 => ?_⟩
      · have h := h.1 c2
        exact hp _ h
      · have h := h.2 c2
        refine ⟨_, _, ob_8 R hk_v0, rfl, ?_⟩
        refine ⟨fun c3 => ?_, fun c3 => ?_⟩
        · have h := h.1 c3
          exact hp _ h
        · have h := h.2 c3
          refine ⟨_, _, ob_8 R hk_v0, rfl, ?_⟩
          refine ⟨_, _, ar_8_2 R hk_v0, h.1, ?_⟩
          have h := h.2
          intro x4 ex4
          have h := h x4 ex4
          intro x5 ex5
          have h := h x5 ex5
          exact ih_4 _ _ h  
  obtain ⟨n1, h⟩ := h
  exact ⟨n1, J_4 n1 _ _ h  ⟩
def tp_X8_shipsAt (st : TS) (post : Int32 → Prop) (Y : TY) (v0 : Nat) (v1 : Int32) : Prop := (v1 < 0 → post (0 : Int32)) ∧ (¬ v1 < 0 → ((tI Y v0 1) ≤ v1 → post (0 : Int32)) ∧ (¬ (tI Y v0 1) ≤ v1 → vp_in v1 48 ∧ post (tA Y v0 5 v1.toNatClampNeg)))
set_option maxHeartbeats 4000000 in
set_option maxRecDepth 100000 in
theorem t_X8_shipsAt {st : TS} {aa : Nat → Nat → Nat} {Y : TY} {X : Hp} {postT : Int32 → Prop} {post : Int32 → Prop} {v0 : Nat} {v1 : Int32} (R : Rel st aa Y X) (hk_v0 : tK Y v0 = 8) (h : tp_X8_shipsAt st postT Y v0 v1) (hp : ∀ (r : Int32) , postT r → post r ) : wp_X8_shipsAt post X v0 v1 := by
  unfold tp_X8_shipsAt at h
  unfold wp_X8_shipsAt
  refine ⟨fun c1 => ?_, fun c1 => ?_⟩
  · have h := h.1 c1
    exact hp _ h
  · have h := h.2 c1
    refine ⟨_, _, ob_8 R hk_v0, rfl, ?_⟩
    refine ⟨fun c2 => ?_, fun c2 => ?_⟩
    · have h := h.1 c2
      exact hp _ h
    · have h := h.2 c2
      refine ⟨_, _, ob_8 R hk_v0, rfl, ?_⟩
      refine ⟨_, _, ar_8_5 R hk_v0, h.1, ?_⟩
      have h := h.2
      exact hp _ h
def tp_X8_squallAt (st : TS) (post : Int32 → Prop) (Y : TY) (v0 : Nat) (v1 : Int32) : Prop := (v1 < 0 → post (0 : Int32)) ∧ (¬ v1 < 0 → ((tI Y v0 1) ≤ v1 → post (0 : Int32)) ∧ (¬ (tI Y v0 1) ≤ v1 → vp_in v1 48 ∧ (¬ (tA Y v0 6 v1.toNatClampNeg) = (1 : Int32) → post (0 : Int32)) ∧ ((tA Y v0 6 v1.toNatClampNeg) = (1 : Int32) → post (1 : Int32))))
set_option maxHeartbeats 4000000 in
set_option maxRecDepth 100000 in
theorem t_X8_squallAt {st : TS} {aa : Nat → Nat → Nat} {Y : TY} {X : Hp} {postT : Int32 → Prop} {post : Int32 → Prop} {v0 : Nat} {v1 : Int32} (R : Rel st aa Y X) (hk_v0 : tK Y v0 = 8) (h : tp_X8_squallAt st postT Y v0 v1) (hp : ∀ (r : Int32) , postT r → post r ) : wp_X8_squallAt post X v0 v1 := by
  unfold tp_X8_squallAt at h
  unfold wp_X8_squallAt
  refine ⟨fun c1 => ?_, fun c1 => ?_⟩
  · have h := h.1 c1
    exact hp _ h
  · have h := h.2 c1
    refine ⟨_, _, ob_8 R hk_v0, rfl, ?_⟩
    refine ⟨fun c2 => ?_, fun c2 => ?_⟩
    · have h := h.1 c2
      exact hp _ h
    · have h := h.2 c2
      refine ⟨_, _, ob_8 R hk_v0, rfl, ?_⟩
      refine ⟨_, _, ar_8_6 R hk_v0, h.1, ?_⟩
      have h := h.2
      refine ⟨fun c3 => ?_, fun c3 => ?_⟩
      · have h := h.1 c3
        exact hp _ h
      · have h := h.2 c3
        exact hp _ h
def tp_X8_lets (st : TS) (post : Int32 → Prop) (Y : TY) (v0 : Nat) (v1 : Int32) (v2 : Int32) : Prop := tp_X8_hasHour st (fun r1 => (¬ r1 = 0 → (¬ v2 = 0 → tp_X8_squallAt st (fun r4 => (r4 = 0 → (¬ v2 = (3 : Int32) → post (1 : Int32)) ∧ (v2 = (3 : Int32) → tp_X8_hasHour st (fun r7 => (r7 = 0 → post (0 : Int32)) ∧ (¬ r7 = 0 → tp_X8_squallAt st (fun r9 => (¬ r9 = 0 → post (0 : Int32)) ∧ (r9 = 0 → post (1 : Int32))) Y v0 (v1 + (1 : Int32)))) Y v0 (v1 + (1 : Int32)))) ∧ (¬ r4 = 0 → post (0 : Int32))) Y v0 v1) ∧ (v2 = 0 → post (1 : Int32))) ∧ (r1 = 0 → post (0 : Int32))) Y v0 v1
set_option maxHeartbeats 4000000 in
set_option maxRecDepth 100000 in
theorem t_X8_lets {st : TS} {aa : Nat → Nat → Nat} {Y : TY} {X : Hp} {postT : Int32 → Prop} {post : Int32 → Prop} {v0 : Nat} {v1 : Int32} {v2 : Int32} (R : Rel st aa Y X) (hk_v0 : tK Y v0 = 8) (h : tp_X8_lets st postT Y v0 v1 v2) (hp : ∀ (r : Int32) , postT r → post r ) : wp_X8_lets post X v0 v1 v2 := by
  unfold tp_X8_lets at h
  unfold wp_X8_lets
  refine ⟨_, ob_8 R hk_v0, t_X8_hasHour R hk_v0 h (fun r1 h => ?_)⟩
  refine ⟨fun c2 => ?_, fun c2 => ?_⟩
  · have h := h.1 c2
    refine ⟨fun c3 => ?_, fun c3 => ?_⟩
    · have h := h.1 c3
      refine ⟨_, ob_8 R hk_v0, t_X8_squallAt R hk_v0 h (fun r4 h => ?_)⟩
      refine ⟨fun c5 => ?_, fun c5 => ?_⟩
      · have h := h.1 c5
        refine ⟨fun c6 => ?_, fun c6 => ?_⟩
        · have h := h.1 c6
          exact hp _ h
        · have h := h.2 c6
          refine ⟨_, ob_8 R hk_v0, t_X8_hasHour R hk_v0 h (fun r7 h => ?_)⟩
          refine ⟨fun c8 => ?_, fun c8 => ?_⟩
          · have h := h.1 c8
            exact hp _ h
          · have h := h.2 c8
            refine ⟨_, ob_8 R hk_v0, t_X8_squallAt R hk_v0 h (fun r9 h => ?_)⟩
            refine ⟨fun c10 => ?_, fun c10 => ?_⟩
            · have h := h.1 c10
              exact hp _ h
            · have h := h.2 c10
              exact hp _ h
      · have h := h.2 c5
        exact hp _ h
    · have h := h.2 c3
      exact hp _ h
  · have h := h.2 c2
    exact hp _ h
def tp_X8_copy (st : TS) (post : TY → Prop) (Y : TY) (v0 : Nat) (v1 : Nat) : Prop := ∀ Y1 : TY, Y1 = sI Y v0 0 (tI Y v1 0) → ∀ Y2 : TY, Y2 = sI Y1 v0 1 (tI Y1 v1 1) → ¬ (0 : Int32) < 0 ∧ ¬ (0 : Int32) < 0 ∧ ¬ (8 : Int32) < 0 ∧ (0 : Int32).toNatClampNeg + (8 : Int32).toNatClampNeg ≤ 8 ∧ (0 : Int32).toNatClampNeg + (8 : Int32).toNatClampNeg ≤ 8 ∧ ∀ Y3 : TY, Y3 = sF Y2 v0 2 (va_cpy (tA Y2 v1 2) (tA Y2 v0 2) (0 : Int32).toNatClampNeg (0 : Int32).toNatClampNeg (8 : Int32).toNatClampNeg) → ¬ (0 : Int32) < 0 ∧ ¬ (0 : Int32) < 0 ∧ ¬ (8 : Int32) < 0 ∧ (0 : Int32).toNatClampNeg + (8 : Int32).toNatClampNeg ≤ 8 ∧ (0 : Int32).toNatClampNeg + (8 : Int32).toNatClampNeg ≤ 8 ∧ ∀ Y4 : TY, Y4 = sF Y3 v0 3 (va_cpy (tA Y3 v1 3) (tA Y3 v0 3) (0 : Int32).toNatClampNeg (0 : Int32).toNatClampNeg (8 : Int32).toNatClampNeg) → ¬ (0 : Int32) < 0 ∧ ¬ (0 : Int32) < 0 ∧ ¬ (8 : Int32) < 0 ∧ (0 : Int32).toNatClampNeg + (8 : Int32).toNatClampNeg ≤ 8 ∧ (0 : Int32).toNatClampNeg + (8 : Int32).toNatClampNeg ≤ 8 ∧ ∀ Y5 : TY, Y5 = sF Y4 v0 4 (va_cpy (tA Y4 v1 4) (tA Y4 v0 4) (0 : Int32).toNatClampNeg (0 : Int32).toNatClampNeg (8 : Int32).toNatClampNeg) → ¬ (0 : Int32) < 0 ∧ ¬ (0 : Int32) < 0 ∧ ¬ (48 : Int32) < 0 ∧ (0 : Int32).toNatClampNeg + (48 : Int32).toNatClampNeg ≤ 48 ∧ (0 : Int32).toNatClampNeg + (48 : Int32).toNatClampNeg ≤ 48 ∧ ∀ Y6 : TY, Y6 = sF Y5 v0 5 (va_cpy (tA Y5 v1 5) (tA Y5 v0 5) (0 : Int32).toNatClampNeg (0 : Int32).toNatClampNeg (48 : Int32).toNatClampNeg) → ¬ (0 : Int32) < 0 ∧ ¬ (0 : Int32) < 0 ∧ ¬ (48 : Int32) < 0 ∧ (0 : Int32).toNatClampNeg + (48 : Int32).toNatClampNeg ≤ 48 ∧ (0 : Int32).toNatClampNeg + (48 : Int32).toNatClampNeg ≤ 48 ∧ ∀ Y7 : TY, Y7 = sF Y6 v0 6 (va_cpy (tA Y6 v1 6) (tA Y6 v0 6) (0 : Int32).toNatClampNeg (0 : Int32).toNatClampNeg (48 : Int32).toNatClampNeg) → post Y7
set_option maxHeartbeats 4000000 in
set_option maxRecDepth 100000 in
theorem t_X8_copy {st : TS} {aa : Nat → Nat → Nat} {Y : TY} {X : Hp} {postT : TY → Prop} {post : Hp → Prop} {v0 : Nat} {v1 : Nat} (R : Rel st aa Y X) (hk_v0 : tK Y v0 = 8) (hk_v1 : tK Y v1 = 8) (h : tp_X8_copy st postT Y v0 v1) (hp : ∀ (Y' : TY) (X' : Hp), postT Y' → Rel st aa Y' X' → (∀ a, tK Y' a = tK Y a) → post X') : wp_X8_copy post X v0 v1 := by
  unfold tp_X8_copy at h
  unfold wp_X8_copy
  have hE0 : ∀ a, tK Y a = tK Y a := fun a => rfl
  obtain ⟨Y0, hY0⟩ : ∃ Z : TY, Z = Y := ⟨_, rfl⟩
  have hE0 : ∀ a, tK Y a = tK Y0 a := by rw [hY0]; exact hE0
  rw [← hY0] at hp
  refine ⟨_, _, ob_8 R hk_v1, rfl, ?_⟩
  refine ⟨_, ob_8 R hk_v0, (by decide : 0 < 7), fun X1 e1 => ?_⟩
  have h := h _ rfl
  have R := pu_8_0 R hk_v0 e1
  refine ⟨_, _, ob_8 R hk_v1, rfl, ?_⟩
  refine ⟨_, ob_8 R hk_v0, (by decide : 1 < 7), fun X1 e1 => ?_⟩
  have h := h _ rfl
  have R := pu_8_1 R hk_v0 e1
  refine ⟨_, _, ob_8 R hk_v1, rfl, ?_⟩
  refine ⟨_, _, ob_8 R hk_v0, rfl, ?_⟩
  obtain ⟨i1, i2, i3, i4, i5, h⟩ := h
  refine ⟨_, _, _, _, ar_8_2 R hk_v1, ar_8_2 R hk_v0, i1, i2, i3, i4, i5, fun X1 e1 => ?_⟩
  have h := h _ rfl
  have R := as_8_2 R hk_v0 e1
  refine ⟨_, _, ob_8 R hk_v1, rfl, ?_⟩
  refine ⟨_, _, ob_8 R hk_v0, rfl, ?_⟩
  obtain ⟨i1, i2, i3, i4, i5, h⟩ := h
  refine ⟨_, _, _, _, ar_8_3 R hk_v1, ar_8_3 R hk_v0, i1, i2, i3, i4, i5, fun X1 e1 => ?_⟩
  have h := h _ rfl
  have R := as_8_3 R hk_v0 e1
  refine ⟨_, _, ob_8 R hk_v1, rfl, ?_⟩
  refine ⟨_, _, ob_8 R hk_v0, rfl, ?_⟩
  obtain ⟨i1, i2, i3, i4, i5, h⟩ := h
  refine ⟨_, _, _, _, ar_8_4 R hk_v1, ar_8_4 R hk_v0, i1, i2, i3, i4, i5, fun X1 e1 => ?_⟩
  have h := h _ rfl
  have R := as_8_4 R hk_v0 e1
  refine ⟨_, _, ob_8 R hk_v1, rfl, ?_⟩
  refine ⟨_, _, ob_8 R hk_v0, rfl, ?_⟩
  obtain ⟨i1, i2, i3, i4, i5, h⟩ := h
  refine ⟨_, _, _, _, ar_8_5 R hk_v1, ar_8_5 R hk_v0, i1, i2, i3, i4, i5, fun X1 e1 => ?_⟩
  have h := h _ rfl
  have R := as_8_5 R hk_v0 e1
  refine ⟨_, _, ob_8 R hk_v1, rfl, ?_⟩
  refine ⟨_, _, ob_8 R hk_v0, rfl, ?_⟩
  obtain ⟨i1, i2, i3, i4, i5, h⟩ := h
  refine ⟨_, _, _, _, ar_8_6 R hk_v1, ar_8_6 R hk_v0, i1, i2, i3, i4, i5, fun X1 e1 => ?_⟩
  have h := h _ rfl
  have R := as_8_6 R hk_v0 e1
  exact hp _ _ h R hE0
