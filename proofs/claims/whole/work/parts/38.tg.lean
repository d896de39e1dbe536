def tk_X10_valueOf_54 (st : TS) (post : Int32 → Prop) (Y : TY) (v0 : Nat) (v1 : Int32) (v2 : Int32) (v3 : Int32) (v4 : Int32) (v5 : Int32) (v6 : Int32) (v7 : Int32)  (b54_8 : Int32) : Prop := tp_X10_owedBehind st (fun r8 => ∀ x9 : Int32, x9 = (v4 - b54_8) → tp_X10_riskOf st (fun r10 => (¬ v6 = (4 : Int32) → (v6 = (3 : Int32) → tp_X10_at st (fun r13 => vp_in r13 257250 ∧ tp_X10_riskOf st (fun r14 => tp_X10_lessened st (fun r15 => tp_X10_lessened st (fun r16 => post r16) Y r15 r10) Y (tA Y v0 19 r13.toNatClampNeg) r14) Y v0 v1 (v2 + (1 : Int32)) v3 v6 v7) Y v1 (v2 + (2 : Int32)) r8 x9 v5) ∧ (¬ v6 = (3 : Int32) → tp_X10_at st (fun r17 => vp_in r17 257250 ∧ tp_X10_lessened st (fun r18 => post r18) Y (tA Y v0 19 r17.toNatClampNeg) r10) Y v1 (v2 + (1 : Int32)) r8 x9 v5)) ∧ (v6 = (4 : Int32) → tp_X10_at st (fun r19 => vp_in r19 257250 ∧ tp_X10_lessened st (fun r20 => post r20) Y (tA Y v0 19 r19.toNatClampNeg) r10) Y v1 v2 r8 x9 (v5 - (1 : Int32)))) Y v0 v1 v2 v3 v6 v7) Y v0 v1 v2 v3 v6
def tk_X10_valueOf_20 (st : TS) (post : Int32 → Prop) (Y : TY) (v0 : Nat) (v1 : Int32) (v2 : Int32) (v3 : Int32) (v4 : Int32) (v5 : Int32) (v6 : Int32) (v7 : Int32)  (b20_s0 : Int32) : Prop := tp_X10_canBe st (fun r3 => (r3 = 0 → post (-6 : Int32)) ∧ (¬ r3 = 0 → (v4 < b20_s0 → post (-6 : Int32)) ∧ (¬ v4 < b20_s0 → (¬ v6 = (4 : Int32) → tk_X10_valueOf_54 st post Y v0 v1 v2 v3 v4 v5 v6 v7 b20_s0) ∧ (v6 = (4 : Int32) → (¬ v5 = 0 → tk_X10_valueOf_54 st post Y v0 v1 v2 v3 v4 v5 v6 v7 b20_s0) ∧ (v5 = 0 → post (-6 : Int32)))))) Y v0 v1 v2 v6
def tp_X10_valueOf (st : TS) (post : Int32 → Prop) (Y : TY) (v0 : Nat) (v1 : Int32) (v2 : Int32) (v3 : Int32) (v4 : Int32) (v5 : Int32) (v6 : Int32) (v7 : Int32) : Prop := (¬ v7 = 0 → (¬ v6 = (3 : Int32) → tk_X10_valueOf_20 st post Y v0 v1 v2 v3 v4 v5 v6 v7 (1 : Int32)) ∧ (v6 = (3 : Int32) → tk_X10_valueOf_20 st post Y v0 v1 v2 v3 v4 v5 v6 v7 (2 : Int32))) ∧ (v7 = 0 → tk_X10_valueOf_20 st post Y v0 v1 v2 v3 v4 v5 v6 v7 (0 : Int32))
set_option maxHeartbeats 4000000 in
set_option maxRecDepth 100000 in
theorem t_X10_valueOf {st : TS} {aa : Nat → Nat → Nat} {Y : TY} {X : Hp} {postT : Int32 → Prop} {post : Int32 → Prop} {v0 : Nat} {v1 : Int32} {v2 : Int32} {v3 : Int32} {v4 : Int32} {v5 : Int32} {v6 : Int32} {v7 : Int32} (R : Rel st aa Y X) (hk_v0 : tK Y v0 = 10) (h : tp_X10_valueOf st postT Y v0 v1 v2 v3 v4 v5 v6 v7) (hp : ∀ (r : Int32) , postT r → post r ) : wp_X10_valueOf post X v0 v1 v2 v3 v4 v5 v6 v7 := by
  unfold tp_X10_valueOf at h
  unfold wp_X10_valueOf
  have J_54 : ∀ (b54_8 : Int32), ∀ (_ : tk_X10_valueOf_54 st postT Y v0 v1 v2 v3 v4 v5 v6 v7  b54_8), bk_X10_valueOf_54 post X v0 v1 v2 v3 v4 v5 v6 v7  b54_8 := by
    intro b54_8 h  
    unfold tk_X10_valueOf_54 at h
    unfold bk_X10_valueOf_54
    refine ⟨_, ob_10 R hk_v0, t_X10_owedBehind R hk_v0 h (fun r8 h => ?_)⟩
    intro x9 ex9
    have h := h x9 ex9
    refine ⟨_, ob_10 R hk_v0, t_X10_riskOf R hk_v0 h (fun r10 h => ?_)⟩
    refine ⟨fun c11 => ?_, fun c11 => ?_⟩
    · have h := h.1 c11
      refine ⟨fun c12 => ?_, fun c12 => ?_⟩
      · have h := h.1 c12
        refine ⟨_, _, ob_10 R hk_v0, rfl, ?_⟩
        refine t_X10_at R  h (fun r13 h => ?_)
        refine ⟨_, _, ar_10_19 R hk_v0, h.1, ?_⟩
        have h := h.2
        refine ⟨_, ob_10 R hk_v0, t_X10_riskOf R hk_v0 h (fun r14 h => ?_)⟩
        refine t_X10_lessened R  h (fun r15 h => ?_)
        refine t_X10_lessened R  h (fun r16 h => ?_)
        exact hp _ h
      · have h := h.2 c12
        refine ⟨_, _, ob_10 R hk_v0, rfl, ?_⟩
        refine t_X10_at R  h (fun r17 h => ?_)
        refine ⟨_, _, ar_10_19 R hk_v0, h.1, ?_⟩
        have h := h.2
        refine t_X10_lessened R  h (fun r18 h => ?_)
        exact hp _ h
    · have h := h.2 c11
      refine ⟨_, _, ob_10 R hk_v0, rfl, ?_⟩
      refine t_X10_at R  h (fun r19 h => ?_)
      refine ⟨_, _, ar_10_19 R hk_v0, h.1, ?_⟩
      have h := h.2
      refine t_X10_lessened R  h (fun r20 h => ?_)
      exact hp _ h
  have J_20 : ∀ (b20_s0 : Int32), ∀ (_ : tk_X10_valueOf_20 st postT Y v0 v1 v2 v3 v4 v5 v6 v7  b20_s0), bk_X10_valueOf_20 post X v0 v1 v2 v3 v4 v5 v6 v7  b20_s0 := by
    intro b20_s0 h  
    unfold tk_X10_valueOf_20 at h
    unfold bk_X10_valueOf_20
    refine ⟨_, ob_10 R hk_v0, t_X10_canBe R hk_v0 h (fun r3 h => ?_)⟩
    refine ⟨fun c4 => ?_, fun c4 => ?_⟩
    · have h := h.1 c4
      exact hp _ h
    · have h := h.2 c4
      refine ⟨fun c5 => ?_, fun c5 => ?_⟩
      · have h := h.1 c5
        exact hp _ h
      · have h := h.2 c5
        refine ⟨fun c6 => ?_, fun c6 => ?_⟩
        · have h := h.1 c6
          exact J_54 _ h  
        · have h := h.2 c6
          refine ⟨fun c7 => ?_, fun c7 => ?_⟩
          · have h := h.1 c7
            exact J_54 _ h  
          · have h := h.2 c7
            exact hp _ h
  refine ⟨fun c1 => ?_, fun c1 => ?_⟩
  · have h := h.1 c1
    refine ⟨fun c2 => ?_, fun c2 => ?_⟩
    · have h := h.1 c2
      exact J_20 _ h  
    · have h := h.2 c2
      exact J_20 _ h  
  · have h := h.2 c1
    exact J_20 _ h  
def tk_X10_triedAt_25 (st : TS) (post : Int32 → Prop) (Y : TY) (v0 : Int32)  (b25_s0 : Int32) (b25_s1 : Int32) : Prop := post (b25_s1 + b25_s0)
def tp_X10_triedAt (st : TS) (post : Int32 → Prop) (Y : TY) (v0 : Int32) : Prop := (¬ v0 = 0 → (¬ (v0 - v0 / (2 : Int32) * (2 : Int32)) = 0 → tk_X10_triedAt_25 st post Y v0 (0 : Int32) (((v0 + (1 : Int32)) / (2 : Int32)))) ∧ ((v0 - v0 / (2 : Int32) * (2 : Int32)) = 0 → tk_X10_triedAt_25 st post Y v0 (10 : Int32) (((v0 + (1 : Int32)) / (2 : Int32))))) ∧ (v0 = 0 → post (0 : Int32))
set_option maxHeartbeats 4000000 in
set_option maxRecDepth 100000 in
theorem t_X10_triedAt {st : TS} {aa : Nat → Nat → Nat} {Y : TY} {X : Hp} {postT : Int32 → Prop} {post : Int32 → Prop} {v0 : Int32} (R : Rel st aa Y X)  (h : tp_X10_triedAt st postT Y v0) (hp : ∀ (r : Int32) , postT r → post r ) : wp_X10_triedAt post X v0 := by
  unfold tp_X10_triedAt at h
  unfold wp_X10_triedAt
  have J_25 : ∀ (b25_s0 : Int32) (b25_s1 : Int32), ∀ (_ : tk_X10_triedAt_25 st postT Y v0  b25_s0 b25_s1), bk_X10_triedAt_25 post X v0  b25_s0 b25_s1 := by
    intro b25_s0 b25_s1 h  
    unfold tk_X10_triedAt_25 at h
    unfold bk_X10_triedAt_25
    exact hp _ h
  refine ⟨fun c1 => ?_, fun c1 => ?_⟩
  · have h := h.1 c1
    refine ⟨fun c2 => ?_, fun c2 => ?_⟩
    · have h := h.1 c2
      exact J_25 _ _ h  
    · have h := h.2 c2
      exact J_25 _ _ h  
  · have h := h.2 c1
    exact hp _ h
def tk_X10_lay_145 (st : TS) (post : TY → Prop) (v0 : Nat) (v1 : Int32) (r_24 : TY → Int32 → Prop) (r_30 : TY → Int32 → Int32 → Prop) (r_38 : TY → Int32 → Int32 → Int32 → Prop) (r_48 : TY → Int32 → Int32 → Int32 → Int32 → Prop) (Y : TY) (b145_2 : Int32) (b145_3 : Int32) (b145_4 : Int32) (b145_5 : Int32) (b145_6 : Int32) : Prop := tp_X10_at st (fun r23 => vp_in r23 257250 ∧ ∀ Y24 : TY, Y24 = sF Y v0 19 (upd (tA Y v0 19) r23.toNatClampNeg b145_6) → ∀ x25 : Int32, x25 = b145_5 + (1 : Int32) → r_48 Y24 b145_2 b145_3 b145_4 x25) Y v1 b145_2 b145_4 b145_5 b145_3
def tk_X10_lay_137 (st : TS) (post : TY → Prop) (v0 : Nat) (v1 : Int32) (r_24 : TY → Int32 → Prop) (r_30 : TY → Int32 → Int32 → Prop) (r_38 : TY → Int32 → Int32 → Int32 → Prop) (r_48 : TY → Int32 → Int32 → Int32 → Int32 → Prop) (r_76 : TY → Int32 → Int32 → Int32 → Int32 → Int32 → Int32 → Prop) (Y : TY) (b137_2 : Int32) (b137_3 : Int32) (b137_4 : Int32) (b137_5 : Int32) (b137_7 : Int32) (b137_s0 : Int32) : Prop := ∀ x22 : Int32, x22 = b137_7 + (1 : Int32) → r_76 Y b137_2 b137_3 b137_4 b137_5 b137_s0 x22
def tk_X10_lay_76 (st : TS) (post : TY → Prop) (v0 : Nat) (v1 : Int32) (r_24 : TY → Int32 → Prop) (r_30 : TY → Int32 → Int32 → Prop) (r_38 : TY → Int32 → Int32 → Int32 → Prop) (r_48 : TY → Int32 → Int32 → Int32 → Int32 → Prop) : Nat → TY → Int32 → Int32 → Int32 → Int32 → Int32 → Int32 → Prop
  | 0, _, _, _, _, _, _, _ => False
  | k + 1, Y, b76_2, b76_3, b76_4, b76_5, b76_6, b76_7 => ((9 : Int32) ≤ b76_7 → tk_X10_lay_145 st post v0 v1 r_24 r_30 r_38 r_48 Y b76_2 b76_3 b76_4 b76_5 b76_6) ∧ (¬ (9 : Int32) ≤ b76_7 → vp_in v1 2 ∧ ((tA Y v0 4 v1.toNatClampNeg) ≤ b76_2 → tk_X10_lay_145 st post v0 v1 r_24 r_30 r_38 r_48 Y b76_2 b76_3 b76_4 b76_5 b76_6) ∧ (¬ (tA Y v0 4 v1.toNatClampNeg) ≤ b76_2 → tp_X10_triedAt st (fun r19 => tp_X10_valueOf st (fun r20 => (r20 ≤ b76_6 → tk_X10_lay_137 st post v0 v1 r_24 r_30 r_38 r_48 (tk_X10_lay_76 st post v0 v1 r_24 r_30 r_38 r_48 k) Y b76_2 b76_3 b76_4 b76_5 b76_7 b76_6) ∧ (¬ r20 ≤ b76_6 → tk_X10_lay_137 st post v0 v1 r_24 r_30 r_38 r_48 (tk_X10_lay_76 st post v0 v1 r_24 r_30 r_38 r_48 k) Y b76_2 b76_3 b76_4 b76_5 b76_7 r20)) Y v0 v1 b76_2 b76_4 b76_5 b76_3 (r19 - r19 / (10 : Int32) * (10 : Int32)) (r19 / (10 : Int32))) Y b76_7))
def tk_X10_lay_71 (st : TS) (post : TY → Prop) (v0 : Nat) (v1 : Int32) (r_24 : TY → Int32 → Prop) (r_30 : TY → Int32 → Int32 → Prop) (r_38 : TY → Int32 → Int32 → Int32 → Prop) (r_48 : TY → Int32 → Int32 → Int32 → Int32 → Prop) (Y : TY) (b71_2 : Int32) (b71_3 : Int32) (b71_4 : Int32) (b71_5 : Int32) (b71_s0 : Int32) : Prop := ∃ n16 : Nat, tk_X10_lay_76 st post v0 v1 r_24 r_30 r_38 r_48 n16 Y b71_2 b71_3 b71_4 b71_5 b71_s0 (0 : Int32)
def tk_X10_lay_48 (st : TS) (post : TY → Prop) (v0 : Nat) (v1 : Int32) (r_24 : TY → Int32 → Prop) (r_30 : TY → Int32 → Int32 → Prop) (r_38 : TY → Int32 → Int32 → Int32 → Prop) : Nat → TY → Int32 → Int32 → Int32 → Int32 → Prop
  | 0, _, _, _, _, _ => False
  | k + 1, Y, b48_2, b48_3, b48_4, b48_5 => ((24 : Int32) < b48_5 → ∀ x14 : Int32, x14 = b48_4 + (1 : Int32) → r_38 Y b48_2 b48_3 x14) ∧ (¬ (24 : Int32) < b48_5 → vp_in v1 2 ∧ (¬ b48_2 = (tA Y v0 4 v1.toNatClampNeg) → tk_X10_lay_71 st post v0 v1 r_24 r_30 r_38 (tk_X10_lay_48 st post v0 v1 r_24 r_30 r_38 k) Y b48_2 b48_3 b48_4 b48_5 (0 : Int32)) ∧ (b48_2 = (tA Y v0 4 v1.toNatClampNeg) → tk_X10_lay_71 st post v0 v1 r_24 r_30 r_38 (tk_X10_lay_48 st post v0 v1 r_24 r_30 r_38 k) Y b48_2 b48_3 b48_4 b48_5 (1000000 : Int32)))
def tk_X10_lay_38 (st : TS) (post : TY → Prop) (v0 : Nat) (v1 : Int32) (r_24 : TY → Int32 → Prop) (r_30 : TY → Int32 → Int32 → Prop) : Nat → TY → Int32 → Int32 → Int32 → Prop
  | 0, _, _, _, _ => False
  | k + 1, Y, b38_2, b38_3, b38_4 => ((20 : Int32) < b38_4 → ∀ x11 : Int32, x11 = b38_3 + (1 : Int32) → r_30 Y b38_2 x11) ∧ (¬ (20 : Int32) < b38_4 → ∃ n12 : Nat, tk_X10_lay_48 st post v0 v1 r_24 r_30 (tk_X10_lay_38 st post v0 v1 r_24 r_30 k) n12 Y b38_2 b38_3 b38_4 (0 : Int32))
def tk_X10_lay_30 (st : TS) (post : TY → Prop) (v0 : Nat) (v1 : Int32) (r_24 : TY → Int32 → Prop) : Nat → TY → Int32 → Int32 → Prop
  | 0, _, _, _ => False
  | k + 1, Y, b30_2, b30_3 => ((4 : Int32) < b30_3 → ∀ x8 : Int32, x8 = b30_2 + (-1 : Int32) → r_24 Y x8) ∧ (¬ (4 : Int32) < b30_3 → ∃ n9 : Nat, tk_X10_lay_38 st post v0 v1 r_24 (tk_X10_lay_30 st post v0 v1 r_24 k) n9 Y b30_2 b30_3 (0 : Int32))
def tk_X10_lay_24 (st : TS) (post : TY → Prop) (v0 : Nat) (v1 : Int32)  : Nat → TY → Int32 → Prop
  | 0, _, _ => False
  | k + 1, Y, b24_2 => (b24_2 < 0 → post Y) ∧ (¬ b24_2 < 0 → ∃ n6 : Nat, tk_X10_lay_30 st post v0 v1 (tk_X10_lay_24 st post v0 v1 k) n6 Y b24_2 (0 : Int32))
def tp_X10_lay (st : TS) (post : TY → Prop) (Y : TY) (v0 : Nat) (v1 : Int32) : Prop := vp_in v1 2 ∧ ((tA Y v0 20 v1.toNatClampNeg) = 0 → vp_in v1 2 ∧ ∀ Y2 : TY, Y2 = sF Y v0 20 (upd (tA Y v0 20) v1.toNatClampNeg (vp_nar .boolean (1 : Int32))) → vp_in v1 2 ∧ ∀ x3 : Int32, x3 = (tA Y2 v0 4 v1.toNatClampNeg) → ∃ n4 : Nat, tk_X10_lay_24 st post v0 v1 n4 Y2 x3) ∧ (¬ (tA Y v0 20 v1.toNatClampNeg) = 0 → post Y)
set_option maxHeartbeats 4000000 in
set_option maxRecDepth 100000 in
theorem t_X10_lay {st : TS} {aa : Nat → Nat → Nat} {Y : TY} {X : Hp} {postT : TY → Prop} {post : Hp → Prop} {v0 : Nat} {v1 : Int32} (R : Rel st aa Y X) (hk_v0 : tK Y v0 = 10) (h : tp_X10_lay st postT Y v0 v1) (hp : ∀ (Y' : TY) (X' : Hp), postT Y' → Rel st aa Y' X' → (∀ a, tK Y' a = tK Y a) → post X') : wp_X10_lay post X v0 v1 := by
  unfold tp_X10_lay at h
  unfold wp_X10_lay
  have hE0 : ∀ a, tK Y a = tK Y a := fun a => rfl
  obtain ⟨Y0, hY0⟩ : ∃ Z : TY, Z = Y := ⟨_, rfl⟩
  have hE0 : ∀ a, tK Y a = tK Y0 a := by rw [hY0]; exact hE0
  rw [← hY0] at hp
  have J_24 : ∀ (n : Nat) (Y : TY) (b24_2 : Int32), ∀ (X : Hp) (_ : tk_X10_lay_24 st postT v0 v1  n Y b24_2), Rel st aa Y X → (∀ a, tK Y a = tK Y0 a) → tK Y v0 = 10 → bk_X10_lay_24 post v0 v1  n X b24_2 := by
    intro n
    induction n with
    | zero =>
      intro Y b24_2 X h R hE0 hk_v0 
      rw [tk_X10_lay_24] at h
      exact h.elim
    | succ n_24 ih_24 =>
      have J_30 : ∀ (n : Nat) (Y : TY) (b30_2 : Int32) (b30_3 : Int32), ∀ (X : Hp) (_ : tk_X10_lay_30 st postT v0 v1 (tk_X10_lay_24 st postT v0 v1 n_24) n Y b30_2 b30_3), Rel st aa Y X → (∀ a, tK Y a = tK Y0 a) → tK Y v0 = 10 → bk_X10_lay_30 post v0 v1 (bk_X10_lay_24 post v0 v1 n_24) n X b30_2 b30_3 := by
        intro n
        induction n with
        | zero =>
          intro Y b30_2 b30_3 X h R hE0 hk_v0 
          rw [tk_X10_lay_30] at h
          exact h.elim
        | succ n_30 ih_30 =>
          have J_38 : ∀ (n : Nat) (Y : TY) (b38_2 : Int32) (b38_3 : Int32) (b38_4 : Int32), ∀ (X : Hp) (_ : tk_X10_lay_38 st postT v0 v1 (tk_X10_lay_24 st postT v0 v1 n_24) (tk_X10_lay_30 st postT v0 v1 (tk_X10_lay_24 st postT v0 v1 n_24) n_30) n Y b38_2 b38_3 b38_4), Rel st aa Y X → (∀ a, tK Y a = tK Y0 a) → tK Y v0 = 10 → bk_X10_lay_38 post v0 v1 (bk_X10_lay_24 post v0 v1 n_24) (bk_X10_lay_30 post v0 v1 (bk_X10_lay_24 post v0 v1 n_24) n_30) n X b38_2 b38_3 b38_4 := by
            intro n
            induction n with
            | zero =>
              intro Y b38_2 b38_3 b38_4 X h R hE0 hk_v0 
              rw [tk_X10_lay_38] at h
              exact h.elim
            | succ n_38 ih_38 =>
              have J_48 : ∀ (n : Nat) (Y : TY) (b48_2 : Int32) (b48_3 : Int32) (b48_4 : Int32) (b48_5 : Int32), ∀ (X : Hp) (_ : tk_X10_lay_48 st postT v0 v1 (tk_X10_lay_24 st postT v0 v1 n_24) (tk_X10_lay_30 st postT v0 v1 (tk_X10_lay_24 st postT v0 v1 n_24) n_30) (tk_X10_lay_38 st postT v0 v1 (tk_X10_lay_24 st postT v0 v1 n_24) (tk_X10_lay_30 st postT v0 v1 (tk_X10_lay_24 st postT v0 v1 n_24) n_30) n_38) n Y b48_2 b48_3 b48_4 b48_5), Rel st aa Y X → (∀ a, tK Y a = tK Y0 a) → tK Y v0 = 10 → bk_X10_lay_48 post v0 v1 (bk_X10_lay_24 post v0 v1 n_24) (bk_X10_lay_30 post v0 v1 (bk_X10_lay_24 post v0 v1 n_24) n_30) (bk_X10_lay_38 post v0 v1 (bk_X10_lay_24 post v0 v1 n_24) (bk_X10_lay_30 post v0 v1 (bk_X10_lay_24 post v0 v1 n_24) n_30) n_38) n X b48_2 b48_3 b48_4 b48_5 := by
                intro n
                induction n with
                | zero =>
                  intro Y b48_2 b48_3 b48_4 b48_5 X h R hE0 hk_v0 
                  rw [tk_X10_lay_48] at h
                  exact h.elim
                | succ n_48 ih_48 =>
                  have J_145 : ∀ (Y : TY) (b145_2 : Int32) (b145_3 : Int32) (b145_4 : Int32) (b145_5 : Int32) (b145_6 : Int32), ∀ (X : Hp) (_ : tk_X10_lay_145 st postT v0 v1 (tk_X10_lay_24 st postT v0 v1 n_24) (tk_X10_lay_30 st postT v0 v1 (tk_X10_lay_24 st postT v0 v1 n_24) n_30) (tk_X10_lay_38 st postT v0 v1 (tk_X10_lay_24 st postT v0 v1 n_24) (tk_X10_lay_30 st postT v0 v1 (tk_X10_lay_24 st postT v0 v1 n_24) n_30) n_38) (tk_X10_lay_48 st postT v0 v1 (tk_X10_lay_24 st postT v0 v1 n_24) (tk_X10_lay_30 st postT v0 v1 (tk_X10_lay_24 st postT v0 v1 n_24) n_30) (tk_X10_lay_38 st postT v0 v1 (tk_X10_lay_24 st postT v0 v1 n_24) (tk_X10_lay_30 st postT v0 v1 (tk_X10_lay_24 st postT v0 v1 n_24) n_30) n_38) n_48) Y b145_2 b145_3 b145_4 b145_5 b145_6), Rel st aa Y X → (∀ a, tK Y a = tK Y0 a) → tK Y v0 = 10 → bk_X10_lay_145 post v0 v1 (bk_X10_lay_24 post v0 v1 n_24) (bk_X10_lay_30 post v0 v1 (bk_X10_lay_24 post v0 v1 n_24) n_30) (bk_X10_lay_38 post v0 v1 (bk_X10_lay_24 post v0 v1 n_24) (bk_X10_lay_30 post v0 v1 (bk_X10_lay_24 post v0 v1 n_24) n_30) n_38) (bk_X10_lay_48 post v0 v1 (bk_X10_lay_24 post v0 v1 n_24) (bk_X10_lay_30 post v0 v1 (bk_X10_lay_24 post v0 v1 n_24) n_30) (bk_X10_lay_38 post v0 v1 (bk_X10_lay_24 post v0 v1 n_24) (bk_X10_lay_30 post v0 v1 (bk_X10_lay_24 post v0 v1 n_24) n_30) n_38) n_48) X b145_2 b145_3 b145_4 b145_5 b145_6 := by
                    intro Y b145_2 b145_3 b145_4 b145_5 b145_6 X h R hE0 hk_v0 
                    unfold tk_X10_lay_145 at h
                    unfold bk_X10_lay_145
                    refine ⟨_, _, ob_10 R hk_v0, rfl, ?_⟩
                    refine t_X10_at R  h (fun r23 h => ?_)
                    refine ⟨_, _, ar_10_19 R hk_v0, h.1, fun X1 e1 => ?_⟩
                    have h := h.2 _ rfl
                    have R := as_10_19 R hk_v0 e1
                    intro x25 ex25
                    have h := h x25 ex25
                    exact ih_48 _ _ _ _ _ _ h R hE0 (hk_v0) 
                  have J_76 : ∀ (n : Nat) (Y : TY) (b76_2 : Int32) (b76_3 : Int32) (b76_4 : Int32) (b76_5 : Int32) (b76_6 : Int32) (b76_7 : Int32), ∀ (X : Hp) (_ : tk_X10_lay_76 st postT v0 v1 (tk_X10_lay_24 st postT v0 v1 n_24) (tk_X10_lay_30 st postT v0 v1 (tk_X10_lay_24 st postT v0 v1 n_24) n_30) (tk_X10_lay_38 st postT v0 v1 (tk_X10_lay_24 st postT v0 v1 n_24) (tk_X10_lay_30 st postT v0 v1 (tk_X10_lay_24 st postT v0 v1 n_24) n_30) n_38) (tk_X10_lay_48 st postT v0 v1 (tk_X10_lay_24 st postT v0 v1 n_24) (tk_X10_lay_30 st postT v0 v1 (tk_X10_lay_24 st postT v0 v1 n_24) n_30) (tk_X10_lay_38 st postT v0 v1 (tk_X10_lay_24 st postT v0 v1 n_24) (tk_X10_lay_30 st postT v0 v1 (tk_X10_lay_24 st postT v0 v1 n_24) n_30) n_38) n_48) n Y b76_2 b76_3 b76_4 b76_5 b76_6 b76_7), Rel st aa Y X → (∀ a, tK Y a = tK Y0 a) → tK Y v0 = 10 → bk_X10_lay_76 post v0 v1 (bk_X10_lay_24 post v0 v1 n_24) (bk_X10_lay_30 post v0 v1 (bk_X10_lay_24 post v0 v1 n_24) n_30) (bk_X10_lay_38 post v0 v1 (bk_X10_lay_24 post v0 v1 n_24) (bk_X10_lay_30 post v0 v1 (bk_X10_lay_24 post v0 v1 n_24) n_30) n_38) (bk_X10_lay_48 post v0 v1 (bk_X10_lay_24 post v0 v1 n_24) (bk_X10_lay_30 post v0 v1 (bk_X10_lay_24 post v0 v1 n_24) n_30) (bk_X10_lay_38 post v0 v1 (bk_X10_lay_24 post v0 v1 n_24) (bk_X10_lay_30 post v0 v1 (bk_X10_lay_24 post v0 v1 n_24) n_30) n_38) n_48) n X b76_2 b76_3 b76_4 b76_5 b76_6 b76_7 := by
                    intro n
                    induction n with
                    | zero =>
                      intro Y b76_2 b76_3 b76_4 b76_5 b76_6 b76_7 X h R hE0 hk_v0 
                      rw [tk_X10_lay_76] at h
                      exact h.elim
                    | succ n_76 ih_76 =>
                      have J_137 : ∀ (Y : TY) (b137_2 : Int32) (b137_3 : Int32) (b137_4 : Int32) (b137_5 : Int32) (b137_7 : Int32) (b137_s0 : Int32), ∀ (X : Hp) (_ : tk_X10_lay_137 st postT v0 v1 (tk_X10_lay_24 st postT v0 v1 n_24) (tk_X10_lay_30 st postT v0 v1 (tk_X10_lay_24 st postT v0 v1 n_24) n_30) (tk_X10_lay_38 st postT v0 v1 (tk_X10_lay_24 st postT v0 v1 n_24) (tk_X10_lay_30 st postT v0 v1 (tk_X10_lay_24 st postT v0 v1 n_24) n_30) n_38) (tk_X10_lay_48 st postT v0 v1 (tk_X10_lay_24 st postT v0 v1 n_24) (tk_X10_lay_30 st postT v0 v1 (tk_X10_lay_24 st postT v0 v1 n_24) n_30) (tk_X10_lay_38 st postT v0 v1 (tk_X10_lay_24 st postT v0 v1 n_24) (tk_X10_lay_30 st postT v0 v1 (tk_X10_lay_24 st postT v0 v1 n_24) n_30) n_38) n_48) (tk_X10_lay_76 st postT v0 v1 (tk_X10_lay_24 st postT v0 v1 n_24) (tk_X10_lay_30 st postT v0 v1 (tk_X10_lay_24 st postT v0 v1 n_24) n_30) (tk_X10_lay_38 st postT v0 v1 (tk_X10_lay_24 st postT v0 v1 n_24) (tk_X10_lay_30 st postT v0 v1 (tk_X10_lay_24 st postT v0 v1 n_24) n_30) n_38) (tk_X10_lay_48 st postT v0 v1 (tk_X10_lay_24 st postT v0 v1 n_24) (tk_X10_lay_30 st postT v0 v1 (tk_X10_lay_24 st postT v0 v1 n_24) n_30) (tk_X10_lay_38 st postT v0 v1 (tk_X10_lay_24 st postT v0 v1 n_24) (tk_X10_lay_30 st postT v0 v1 (tk_X10_lay_24 st postT v0 v1 n_24) n_30) n_38) n_48) n_76) Y b137_2 b137_3 b137_4 b137_5 b137_7 b137_s0), Rel st aa Y X → (∀ a, tK Y a = tK Y0 a) → tK Y v0 = 10 → bk_X10_lay_137 post v0 v1 (bk_X10_lay_24 post v0 v1 n_24) (bk_X10_lay_30 post v0 v1 (bk_X10_lay_24 post v0 v1 n_24) n_30) (bk_X10_lay_38 post v0 v1 (bk_X10_lay_24 post v0 v1 n_24) (bk_X10_lay_30 post v0 v1 (bk_X10_lay_24 post v0 v1 n_24) n_30) n_38) (bk_X10_lay_48 post v0 v1 (bk_X10_lay_24 post v0 v1 n_24) (bk_X10_lay_30 post v0 v1 (bk_X10_lay_24 post v0 v1 n_24) n_30) (bk_X10_lay_38 post v0 v1 (bk_X10_lay_24 post v0 v1 n_24) (bk_X10_lay_30 post v0 v1 (bk_X10_lay_24 post v0 v1 n_24) n_30) n_38) n_48) (bk_X10_lay_76 post v0 v1 (bk_X10_lay_24 post v0 v1 n_24) (bk_X10_lay_30 post v0 v1 (bk_X10_lay_24 post v0 v1 n_24) n_30) (bk_X10_lay_38 post v0 v1 (bk_X10_lay_24 post v0 v1 n_24) (bk_X10_lay_30 post v0 v1 (bk_X10_lay_24 post v0 v1 n_24) n_30) n_38) (bk_X10_lay_48 post v0 v1 (bk_X10_lay_24 post v0 v1 n_24) (bk_X10_lay_30 post v0 v1 (bk_X10_lay_24 post v0 v1 n_24) n_30) (bk_X10_lay_38 post v0 v1 (bk_X10_lay_24 post v0 v1 n_24) (bk_X10_lay_30 post v0 v1 (bk_X10_lay_24 post v0 v1 n_24) n_30) n_38) n_48) n_76) X b137_2 b137_3 b137_4 b137_5 b137_7 b137_s0 := by
                        intro Y b137_2 b137_3 b137_4 b137_5 b137_7 b137_s0 X h R hE0 hk_v0 
                        unfold tk_X10_lay_137 at h
                        unfold bk_X10_lay_137
                        intro x22 ex22
                        have h := h x22 ex22
                        exact ih_76 _ _ _ _ _ _ _ _ h R hE0 (hk_v0) 
                      intro Y b76_2 b76_3 b76_4 b76_5 b76_6 b76_7 X h R hE0 hk_v0 
                      rw [tk_X10_lay_76] at h
                      rw [bk_X10_lay_76]
                      refine ⟨fun c17 => ?_, fun c17 => ?_⟩
                      · have h := h.1 c17
                        exact J_145 _ _ _ _ _ _ _ h R hE0 (hk_v0) 
                      · have h := h.2 c17
                        refine ⟨_, _, ob_10 R hk_v0, rfl, ?_⟩
                        refine ⟨_, _, ar_10_4 R hk_v0, h.1, ?_⟩
                        have h := h.2
                        refine ⟨fun c18 => ?_, fun c18 => ?_⟩
                        · have h := h.1 c18
                          exact J_145 _ _ _ _ _ _ _ h R hE0 (hk_v0) 
                        · have h := h.2 c18
                          refine t_X10_triedAt R  h (fun r19 h => ?_)
                          refine ⟨_, ob_10 R hk_v0, t_X10_valueOf R hk_v0 h (fun r20 h => ?_)⟩
                          refine ⟨fun c21 => ?_, fun c21 => ?_⟩
                          · have h := h.1 c21
                            exact J_137 _ _ _ _ _ _ _ _ h R hE0 (hk_v0) 
                          · have h := h.2 c21
                            exact J_137 _ _ _ _ _ _ _ _ h R hE0 (hk_v0) 
                  have J_71 : ∀ (Y : TY) (b71_2 : Int32) (b71_3 : Int32) (b71_4 : Int32) (b71_5 : Int32) (b71_s0 : Int32), ∀ (X : Hp) (_ : tk_X10_lay_71 st postT v0 v1 (tk_X10_lay_24 st postT v0 v1 n_24) (tk_X10_lay_30 st postT v0 v1 (tk_X10_lay_24 st postT v0 v1 n_24) n_30) (tk_X10_lay_38 st postT v0 v1 (tk_X10_lay_24 st postT v0 v1 n_24) (tk_X10_lay_30 st postT v0 v1 (tk_X10_lay_24 st postT v0 v1 n_24) n_30) n_38) (tk_X10_lay_48 st postT v0 v1 (tk_X10_lay_24 st postT v0 v1 n_24) (tk_X10_lay_30 st postT v0 v1 (tk_X10_lay_24 st postT v0 v1 n_24) n_30) (tk_X10_lay_38 st postT v0 v1 (tk_X10_lay_24 st postT v0 v1 n_24) (tk_X10_lay_30 st postT v0 v1 (tk_X10_lay_24 st postT v0 v1 n_24) n_30) n_38) n_48) Y b71_2 b71_3 b71_4 b71_5 b71_s0), Rel st aa Y X → (∀ a, tK Y a = tK Y0 a) → tK Y v0 = 10 → bk_X10_lay_71 post v0 v1 (bk_X10_lay_24 post v0 v1 n_24) (bk_X10_lay_30 post v0 v1 (bk_X10_lay_24 post v0 v1 n_24) n_30) (bk_X10_lay_38 post v0 v1 (bk_X10_lay_24 post v0 v1 n_24) (bk_X10_lay_30 post v0 v1 (bk_X10_lay_24 post v0 v1 n_24) n_30) n_38) (bk_X10_lay_48 post v0 v1 (bk_X10_lay_24 post v0 v1 n_24) (bk_X10_lay_30 post v0 v1 (bk_X10_lay_24 post v0 v1 n_24) n_30) (bk_X10_lay_38 post v0 v1 (bk_X10_lay_24 post v0 v1 n_24) (bk_X10_lay_30 post v0 v1 (bk_X10_lay_24 post v0 v1 n_24) n_30) n_38) n_48) X b71_2 b71_3 b71_4 b71_5 b71_s0 := by
                    intro Y b71_2 b71_3 b71_4 b71_5 b71_s0 X h R hE0 hk_v0 
                    unfold tk_X10_lay_71 at h
                    unfold bk_X10_lay_71
                    obtain ⟨n16, h⟩ := h
                    exact ⟨n16, J_76 n16 _ _ _ _ _ _ _ _ h R hE0 (hk_v0) ⟩
                  intro Y b48_2 b48_3 b48_4 b48_5 X h R hE0 hk_v0 
                  rw [tk_X10_lay_48] at h
                  rw [bk_X10_lay_48]
                  refine ⟨fun c13 => ?_, fun c13 => ?_⟩
                  · have h := h.1 c13
                    intro x14 ex14
                    have h := h x14 ex14
                    exact ih_38 _ _ _ _ _ h R hE0 (hk_v0) 
                  · have h := h.2 c13
                    refine ⟨_, _, ob_10 R hk_v0, rfl, ?_⟩
                    refine ⟨_, _, ar_10_4 R hk_v0, h.1, ?_⟩
                    have h := h.2
                    refine ⟨fun c15 => ?_, fun c15 => ?_⟩
                    · have h := h.1 c15
                      exact J_71 _ _ _ _ _ _ _ h R hE0 (hk_v0) 
                    · have h := h.2 c15
                      exact J_71 _ _ _ _ _ _ _ h R hE0 (hk_v0) 
              intro Y b38_2 b38_3 b38_4 X h R hE0 hk_v0 
              rw [tk_X10_lay_38] at h
              rw [bk_X10_lay_38]
              refine ⟨fun c10 => ?_, fun c10 => ?_⟩
              · have h := h.1 c10
                intro x11 ex11
                have h := h x11 ex11
                exact ih_30 _ _ _ _ h R hE0 (hk_v0) 
              · have h := h.2 c10
                obtain ⟨n12, h⟩ := h
                exact ⟨n12, J_48 n12 _ _ _ _ _ _ h R hE0 (hk_v0) ⟩
          intro Y b30_2 b30_3 X h R hE0 hk_v0 
          rw [tk_X10_lay_30] at h
          rw [bk_X10_lay_30]
          refine ⟨fun c7 => ?_, fun c7 => ?_⟩
          · have h := h.1 c7
            intro x8 ex8
            have h := h x8 ex8
            exact ih_24 _ _ _ h R hE0 (hk_v0) 
          · have h := h.2 c7
            obtain ⟨n9, h⟩ := h
            exact ⟨n9, J_38 n9 _ _ _ _ _ h R hE0 (hk_v0) ⟩
      intro Y b24_2 X h R hE0 hk_v0 
      rw [tk_X10_lay_24] at h
      rw [bk_X10_lay_24]
      refine ⟨fun c5 => ?_, fun c5 => ?_⟩
      · have h := h.1 c5
        exact hp _ _ h R hE0
      · have h := h.2 c5
        obtain ⟨n6, h⟩ := h
        exact ⟨n6, J_30 n6 _ _ _ _ h R hE0 (hk_v0) ⟩
  refine ⟨_, _, ob_10 R hk_v0, rfl, ?_⟩
  refine ⟨_, _, ar_10_20 R hk_v0, h.1, ?_⟩
  have h := h.2
  refine ⟨fun c1 => ?_, fun c1 => ?_⟩
  · have h := h.1 c1
    refine ⟨_, _, ob_10 R hk_v0, rfl, ?_⟩
    refine ⟨_, _, ar_10_20 R hk_v0, h.1, fun X1 e1 => ?_⟩
    have h := h.2 _ rfl
    have R := as_10_20 R hk_v0 e1
    refine ⟨_, _, ob_10 R hk_v0, rfl, ?_⟩
    refine ⟨_, _, ar_10_4 R hk_v0, h.1, ?_⟩
    have h := h.2
    intro x3 ex3
    have h := h x3 ex3
    obtain ⟨n4, h⟩ := h
    exact ⟨n4, J_24 n4 _ _ _ h R hE0 (hk_v0) ⟩
  · have h := h.2 c1
    exact hp _ _ h R hE0
def tp_X10_bestOf (st : TS) (post : Int32 → TY → Prop) (Y : TY) (v0 : Nat) (v1 : Int32) (v2 : Int32) (v3 : Int32) (v4 : Int32) (v5 : Int32) : Prop := tp_X10_lay st (fun Y1 => tp_X10_at st (fun r2 => vp_in r2 257250 ∧ post (tA Y1 v0 19 r2.toNatClampNeg) Y1) Y1 v1 v2 v3 v4 v5) Y v0 v1
set_option maxHeartbeats 4000000 in
set_option maxRecDepth 100000 in
theorem t_X10_bestOf {st : TS} {aa : Nat → Nat → Nat} {Y : TY} {X : Hp} {postT : Int32 → TY → Prop} {post : Int32 → Hp → Prop} {v0 : Nat} {v1 : Int32} {v2 : Int32} {v3 : Int32} {v4 : Int32} {v5 : Int32} (R : Rel st aa Y X) (hk_v0 : tK Y v0 = 10) (h : tp_X10_bestOf st postT Y v0 v1 v2 v3 v4 v5) (hp : ∀ (r : Int32) (Y' : TY) (X' : Hp), postT r Y' → Rel st aa Y' X' → (∀ a, tK Y' a = tK Y a) → post r X') : wp_X10_bestOf post X v0 v1 v2 v3 v4 v5 := by
  unfold tp_X10_bestOf at h
  unfold wp_X10_bestOf
  have hE0 : ∀ a, tK Y a = tK Y a := fun a => rfl
  obtain ⟨Y0, hY0⟩ : ∃ Z : TY, Z = Y := ⟨_, rfl⟩
  have hE0 : ∀ a, tK Y a = tK Y0 a := by rw [hY0]; exact hE0
  rw [← hY0] at hp
  refine ⟨_, ob_10 R hk_v0, t_X10_lay R hk_v0 h (fun Y X h R hE => ?_)⟩
  have hk_v0 := (hE _).trans hk_v0
  have hE0 := fun a => (hE a).trans (hE0 a)
  refine ⟨_, _, ob_10 R hk_v0, rfl, ?_⟩
  refine t_X10_at R  h (fun r2 h => ?_)
  refine ⟨_, _, ar_10_19 R hk_v0, h.1, ?_⟩
  have h := h.2
  exact hp _ _ _ h R hE0
def tk_X10_doesOf_16 (st : TS) (post : Int32 → TY → Prop) (v0 : Nat) (v1 : Int32) (v2 : Int32) (v3 : Int32) (v4 : Int32) (v5 : Int32)  : Nat → TY → Int32 → Int32 → Prop
  | 0, _, _, _ => False
  | k + 1, Y, b16_6, b16_7 => ((9 : Int32) ≤ b16_7 → post (-6 : Int32) Y) ∧ (¬ (9 : Int32) ≤ b16_7 → tp_X10_triedAt st (fun r5 => tp_X10_valueOf st (fun r6 => (¬ r6 = b16_6 → ∀ x8 : Int32, x8 = b16_7 + (1 : Int32) → (tk_X10_doesOf_16 st post v0 v1 v2 v3 v4 v5 k) Y b16_6 x8) ∧ (r6 = b16_6 → post r5 Y)) Y v0 v1 v2 v3 v4 v5 (r5 - r5 / (10 : Int32) * (10 : Int32)) (r5 / (10 : Int32))) Y b16_7)
def tp_X10_doesOf (st : TS) (post : Int32 → TY → Prop) (Y : TY) (v0 : Nat) (v1 : Int32) (v2 : Int32) (v3 : Int32) (v4 : Int32) (v5 : Int32) : Prop := tp_X10_bestOf st (fun r2 Y1 => ∃ n3 : Nat, tk_X10_doesOf_16 st post v0 v1 v2 v3 v4 v5 n3 Y1 r2 (0 : Int32)) Y v0 v1 v2 v3 v4 v5
set_option maxHeartbeats 4000000 in
set_option maxRecDepth 100000 in
theorem t_X10_doesOf {st : TS} {aa : Nat → Nat → Nat} {Y : TY} {X : Hp} {postT : Int32 → TY → Prop} {post : Int32 → Hp → Prop} {v0 : Nat} {v1 : Int32} {v2 : Int32} {v3 : Int32} {v4 : Int32} {v5 : Int32} (R : Rel st aa Y X) (hk_v0 : tK Y v0 = 10) (h : tp_X10_doesOf st postT Y v0 v1 v2 v3 v4 v5) (hp : ∀ (r : Int32) (Y' : TY) (X' : Hp), postT r Y' → Rel st aa Y' X' → (∀ a, tK Y' a = tK Y a) → post r X') : wp_X10_doesOf post X v0 v1 v2 v3 v4 v5 := by
  unfold tp_X10_doesOf at h
  unfold wp_X10_doesOf
  have hE0 : ∀ a, tK Y a = tK Y a := fun a => rfl
  obtain ⟨Y0, hY0⟩ : ∃ Z : TY, Z = Y := ⟨_, rfl⟩
  have hE0 : ∀ a, tK Y a = tK Y0 a := by rw [hY0]; exact hE0
  rw [← hY0] at hp
  have J_16 : ∀ (n : Nat) (Y : TY) (b16_6 : Int32) (b16_7 : Int32), ∀ (X : Hp) (_ : tk_X10_doesOf_16 st postT v0 v1 v2 v3 v4 v5  n Y b16_6 b16_7), Rel st aa Y X → (∀ a, tK Y a = tK Y0 a) → tK Y v0 = 10 → bk_X10_doesOf_16 post v0 v1 v2 v3 v4 v5  n X b16_6 b16_7 := by
    intro n
    induction n with
    | zero =>
      intro Y b16_6 b16_7 X h R hE0 hk_v0 
      rw [tk_X10_doesOf_16] at h
      exact h.elim
    | succ n_16 ih_16 =>
      intro Y b16_6 b16_7 X h R hE0 hk_v0 
      rw [tk_X10_doesOf_16] at h
      rw [bk_X10_doesOf_16]
      refine ⟨fun c4 => ?_, fun c4 => ?_⟩
      · have h := h.1 c4
        exact hp _ _ _ h R hE0
      · have h := h.2 c4
        refine t_X10_triedAt R  h (fun r5 h => ?_)
        refine ⟨_, ob_10 R hk_v0, t_X10_valueOf R hk_v0 h (fun r6 h => ?_)⟩
        refine ⟨fun c7 => ?_, fun c7 => ?_⟩
        · have h := h.1 c7
          intro x8 ex8
          have h := h x8 ex8
          exact ih_16 _ _ _ _ h R hE0 (hk_v0) 
        · have h := h.2 c7
          exact hp _ _ _ h R hE0
  refine ⟨_, ob_10 R hk_v0, t_X10_bestOf R hk_v0 h (fun r2 Y X h R hE => ?_)⟩
  have hk_v0 := (hE _).trans hk_v0
  have hE0 := fun a => (hE a).trans (hE0 a)
  obtain ⟨n3, h⟩ := h
  exact ⟨n3, J_16 n3 _ _ _ _ h R hE0 (hk_v0) ⟩
def tp_X10_isPlace (st : TS) (post : Int32 → Prop) (Y : TY) (v0 : Nat) (v1 : Int32) (v2 : Int32) (v3 : Int32) (v4 : Int32) (v5 : Int32) : Prop := vp_in v1 2 ∧ tp_X10_in st (fun r1 => (r1 = 0 → post (0 : Int32)) ∧ (¬ r1 = 0 → tp_X10_isOwed st (fun r3 => (r3 = 0 → post (0 : Int32)) ∧ (¬ r3 = 0 → tp_X10_isBattery st (fun r5 => (r5 = 0 → post (0 : Int32)) ∧ (¬ r5 = 0 → tp_X10_in st (fun r7 => (r7 = 0 → post (0 : Int32)) ∧ (¬ r7 = 0 → post (1 : Int32))) Y (v5.toInt64) (0 : Int64) (4 : Int64))) Y v4)) Y v3)) Y (v2.toInt64) (0 : Int64) ((tA Y v0 4 v1.toNatClampNeg).toInt64)
set_option maxHeartbeats 4000000 in
set_option maxRecDepth 100000 in
theorem t_X10_isPlace {st : TS} {aa : Nat → Nat → Nat} {Y : TY} {X : Hp} {postT : Int32 → Prop} {post : Int32 → Prop} {v0 : Nat} {v1 : Int32} {v2 : Int32} {v3 : Int32} {v4 : Int32} {v5 : Int32} (R : Rel st aa Y X) (hk_v0 : tK Y v0 = 10) (h : tp_X10_isPlace st postT Y v0 v1 v2 v3 v4 v5) (hp : ∀ (r : Int32) , postT r → post r ) : wp_X10_isPlace post X v0 v1 v2 v3 v4 v5 := by
  unfold tp_X10_isPlace at h
  unfold wp_X10_isPlace
  refine ⟨_, _, ob_10 R hk_v0, rfl, ?_⟩
  refine ⟨_, _, ar_10_4 R hk_v0, h.1, ?_⟩
  have h := h.2
  refine t_X10_in R  h (fun r1 h => ?_)
  refine ⟨fun c2 => ?_, fun c2 => ?_⟩
  · have h := h.1 c2
    exact hp _ h
  · have h := h.2 c2
    refine t_X10_isOwed R  h (fun r3 h => ?_)
    refine ⟨fun c4 => ?_, fun c4 => ?_⟩
    · have h := h.1 c4
      exact hp _ h
    · have h := h.2 c4
      refine t_X10_isBattery R  h (fun r5 h => ?_)
      refine ⟨fun c6 => ?_, fun c6 => ?_⟩
      · have h := h.1 c6
        exact hp _ h
      · have h := h.2 c6
        refine t_X10_in R  h (fun r7 h => ?_)
        refine ⟨fun c8 => ?_, fun c8 => ?_⟩
        · have h := h.1 c8
          exact hp _ h
        · have h := h.2 c8
          exact hp _ h
def tp_X10_best (st : TS) (post : Int32 → TY → Prop) (Y : TY) (v0 : Nat) (v1 : Int32) (v2 : Int32) (v3 : Int32) (v4 : Int32) (v5 : Int32) : Prop := tp_X10_isWay st (fun r1 => (¬ r1 = 0 → tp_X10_isPlace st (fun r3 => (r3 = 0 → post (-2 : Int32) Y) ∧ (¬ r3 = 0 → tp_X10_bestOf st (fun r6 Y5 => post r6 Y5) Y v0 v1 v2 v3 v4 v5)) Y v0 v1 v2 v3 v4 v5) ∧ (r1 = 0 → post (-1 : Int32) Y)) Y v1
set_option maxHeartbeats 4000000 in
set_option maxRecDepth 100000 in
theorem t_X10_best {st : TS} {aa : Nat → Nat → Nat} {Y : TY} {X : Hp} {postT : Int32 → TY → Prop} {post : Int32 → Hp → Prop} {v0 : Nat} {v1 : Int32} {v2 : Int32} {v3 : Int32} {v4 : Int32} {v5 : Int32} (R : Rel st aa Y X) (hk_v0 : tK Y v0 = 10) (h : tp_X10_best st postT Y v0 v1 v2 v3 v4 v5) (hp : ∀ (r : Int32) (Y' : TY) (X' : Hp), postT r Y' → Rel st aa Y' X' → (∀ a, tK Y' a = tK Y a) → post r X') : wp_X10_best post X v0 v1 v2 v3 v4 v5 := by
  unfold tp_X10_best at h
  unfold wp_X10_best
  have hE0 : ∀ a, tK Y a = tK Y a := fun a => rfl
  obtain ⟨Y0, hY0⟩ : ∃ Z : TY, Z = Y := ⟨_, rfl⟩
  have hE0 : ∀ a, tK Y a = tK Y0 a := by rw [hY0]; exact hE0
  rw [← hY0] at hp
  refine t_X10_isWay R  h (fun r1 h => ?_)
  refine ⟨fun c2 => ?_, fun c2 => ?_⟩
  · have h := h.1 c2
    refine ⟨_, ob_10 R hk_v0, t_X10_isPlace R hk_v0 h (fun r3 h => ?_)⟩
    refine ⟨fun c4 => ?_, fun c4 => ?_⟩
    · have h := h.1 c4
      exact hp _ _ _ h R hE0
    · have h := h.2 c4
      refine ⟨_, ob_10 R hk_v0, t_X10_bestOf R hk_v0 h (fun r6 Y X h R hE => ?_)⟩
      have hk_v0 := (hE _).trans hk_v0
      have hE0 := fun a => (hE a).trans (hE0 a)
      exact hp _ _ _ h R hE0
  · have h := h.2 c2
    exact hp _ _ _ h R hE0
def tp_X10_does (st : TS) (post : Int32 → TY → Prop) (Y : TY) (v0 : Nat) (v1 : Int32) (v2 : Int32) (v3 : Int32) (v4 : Int32) (v5 : Int32) : Prop := tp_X10_isWay st (fun r1 => (¬ r1 = 0 → tp_X10_isPlace st (fun r3 => (¬ r3 = 0 → vp_in v1 2 ∧ (¬ v2 = (tA Y v0 4 v1.toNatClampNeg) → tp_X10_doesOf st (fun r7 Y6 => post r7 Y6) Y v0 v1 v2 v3 v4 v5) ∧ (v2 = (tA Y v0 4 v1.toNatClampNeg) → post (-6 : Int32) Y)) ∧ (r3 = 0 → post (-2 : Int32) Y)) Y v0 v1 v2 v3 v4 v5) ∧ (r1 = 0 → post (-1 : Int32) Y)) Y v1
set_option maxHeartbeats 4000000 in
set_option maxRecDepth 100000 in
theorem t_X10_does {st : TS} {aa : Nat → Nat → Nat} {Y : TY} {X : Hp} {postT : Int32 → TY → Prop} {post : Int32 → Hp → Prop} {v0 : Nat} {v1 : Int32} {v2 : Int32} {v3 : Int32} {v4 : Int32} {v5 : Int32} (R : Rel st aa Y X) (hk_v0 : tK Y v0 = 10) (h : tp_X10_does st postT Y v0 v1 v2 v3 v4 v5) (hp : ∀ (r : Int32) (Y' : TY) (X' : Hp), postT r Y' → Rel st aa Y' X' → (∀ a, tK Y' a = tK Y a) → post r X') : wp_X10_does post X v0 v1 v2 v3 v4 v5 := by
  unfold tp_X10_does at h
  unfold wp_X10_does
  have hE0 : ∀ a, tK Y a = tK Y a := fun a => rfl
  obtain ⟨Y0, hY0⟩ : ∃ Z : TY, Z = Y := ⟨_, rfl⟩
  have hE0 : ∀ a, tK Y a = tK Y0 a := by rw [hY0]; exact hE0
  rw [← hY0] at hp
  refine t_X10_isWay R  h (fun r1 h => ?_)
  refine ⟨fun c2 => ?_, fun c2 => ?_⟩
  · have h := h.1 c2
    refine ⟨_, ob_10 R hk_v0, t_X10_isPlace R hk_v0 h (fun r3 h => ?_)⟩
    refine ⟨fun c4 => ?_, fun c4 => ?_⟩
    · have h := h.1 c4
      refine ⟨_, _, ob_10 R hk_v0, rfl, ?_⟩
      refine ⟨_, _, ar_10_4 R hk_v0, h.1, ?_⟩
      have h := h.2
      refine ⟨fun c5 => ?_, fun c5 => ?_⟩
      · have h := h.1 c5
        refine ⟨_, ob_10 R hk_v0, t_X10_doesOf R hk_v0 h (fun r7 Y X h R hE => ?_)⟩
        have hk_v0 := (hE _).trans hk_v0
        have hE0 := fun a => (hE a).trans (hE0 a)
        exact hp _ _ _ h R hE0
      · have h := h.2 c5
        exact hp _ _ _ h R hE0
    · have h := h.2 c4
      exact hp _ _ _ h R hE0
  · have h := h.2 c2
    exact hp _ _ _ h R hE0
def tk_X10_logged_166 (st : TS) (post : Int32 → TY → Prop) (v0 : Nat) (v1 : Int32) (v2 : Int32) (v3 : Int32) (v4 : Int32) (r_41 : TY → Int32 → Int32 → Int32 → Int32 → Int32 → Prop) (Y : TY) (b166_6 : Int32) (b166_7 : Int32) (b166_8 : Int32) (b166_9 : Int32) (b166_s0 : Int32) (b166_s1 : Int32) : Prop := ∀ x23 : Int32, x23 = (b166_s1 + b166_s0) → r_41 Y x23 b166_6 b166_7 b166_8 b166_9
def tk_X10_logged_140 (st : TS) (post : Int32 → TY → Prop) (v0 : Nat) (v1 : Int32) (v2 : Int32) (v3 : Int32) (v4 : Int32) (r_41 : TY → Int32 → Int32 → Int32 → Int32 → Int32 → Prop) (Y : TY) (b140_5 : Int32) (b140_6 : Int32) (b140_7 : Int32) (b140_9 : Int32) (b140_11 : Int32) (b140_s0 : Int32) (b140_s1 : Int32) : Prop := ∀ x20 : Int32, x20 = (b140_s1 - b140_s0) → (¬ b140_11 = (4 : Int32) → (¬ b140_11 = (3 : Int32) → tk_X10_logged_166 st post v0 v1 v2 v3 v4 r_41 Y b140_6 b140_7 x20 b140_9 (1 : Int32) b140_5) ∧ (b140_11 = (3 : Int32) → tk_X10_logged_166 st post v0 v1 v2 v3 v4 r_41 Y b140_6 b140_7 x20 b140_9 (2 : Int32) b140_5)) ∧ (b140_11 = (4 : Int32) → tk_X10_logged_166 st post v0 v1 v2 v3 v4 r_41 Y b140_6 b140_7 x20 b140_9 (0 : Int32) b140_5)
def tk_X10_logged_111 (st : TS) (post : Int32 → TY → Prop) (v0 : Nat) (v1 : Int32) (v2 : Int32) (v3 : Int32) (v4 : Int32) (r_41 : TY → Int32 → Int32 → Int32 → Int32 → Int32 → Prop) (Y : TY) (b111_5 : Int32) (b111_6 : Int32) (b111_8 : Int32) (b111_9 : Int32) (b111_11 : Int32) (b111_s0 : Int32) (b111_s1 : Int32) : Prop := ∀ x17 : Int32, x17 = (b111_s1 - b111_s0) → tp_X10_owedBehind st (fun r18 => (¬ b111_11 = (4 : Int32) → tk_X10_logged_140 st post v0 v1 v2 v3 v4 r_41 Y b111_5 r18 x17 b111_9 b111_11 (0 : Int32) b111_8) ∧ (b111_11 = (4 : Int32) → tk_X10_logged_140 st post v0 v1 v2 v3 v4 r_41 Y b111_5 r18 x17 b111_9 b111_11 (1 : Int32) b111_8)) Y v0 v1 b111_5 b111_6 b111_11
def tk_X10_logged_41 (st : TS) (post : Int32 → TY → Prop) (v0 : Nat) (v1 : Int32) (v2 : Int32) (v3 : Int32) (v4 : Int32)  : Nat → TY → Int32 → Int32 → Int32 → Int32 → Int32 → Prop
  | 0, _, _, _, _, _, _ => False
  | k + 1, Y, b41_5, b41_6, b41_7, b41_8, b41_9 => vp_in v1 2 ∧ ((tA Y v0 4 v1.toNatClampNeg) ≤ b41_5 → (¬ v4 = (-1 : Int32) → post (-6 : Int32) Y) ∧ (v4 = (-1 : Int32) → post b41_9 Y)) ∧ (¬ (tA Y v0 4 v1.toNatClampNeg) ≤ b41_5 → tp_X10_doesOf st (fun r11 Y10 => (¬ b41_9 = v4 → ∀ x13 : Int32, x13 = b41_9 + (1 : Int32) → ∀ x14 : Int32, x14 = (r11 - r11 / (10 : Int32) * (10 : Int32)) → ((10 : Int32) ≤ r11 → (¬ x14 = (3 : Int32) → tk_X10_logged_111 st post v0 v1 v2 v3 v4 (tk_X10_logged_41 st post v0 v1 v2 v3 v4 k) Y10 b41_5 b41_6 b41_8 x13 x14 (1 : Int32) b41_7) ∧ (x14 = (3 : Int32) → tk_X10_logged_111 st post v0 v1 v2 v3 v4 (tk_X10_logged_41 st post v0 v1 v2 v3 v4 k) Y10 b41_5 b41_6 b41_8 x13 x14 (2 : Int32) b41_7)) ∧ (¬ (10 : Int32) ≤ r11 → tk_X10_logged_111 st post v0 v1 v2 v3 v4 (tk_X10_logged_41 st post v0 v1 v2 v3 v4 k) Y10 b41_5 b41_6 b41_8 x13 x14 (0 : Int32) b41_7)) ∧ (b41_9 = v4 → post r11 Y10)) Y v0 v1 b41_5 b41_6 b41_7 b41_8)
def tp_X10_logged (st : TS) (post : Int32 → TY → Prop) (Y : TY) (v0 : Nat) (v1 : Int32) (v2 : Int32) (v3 : Int32) (v4 : Int32) : Prop := tp_X10_isWay st (fun r1 => (¬ r1 = 0 → tp_X10_isOwed st (fun r3 => (r3 = 0 → post (-2 : Int32) Y) ∧ (¬ r3 = 0 → tp_X10_isBattery st (fun r5 => (¬ r5 = 0 → ∃ n7 : Nat, tk_X10_logged_41 st post v0 v1 v2 v3 v4 n7 Y (0 : Int32) v2 v3 (4 : Int32) (0 : Int32)) ∧ (r5 = 0 → post (-2 : Int32) Y)) Y v3)) Y v2) ∧ (r1 = 0 → post (-1 : Int32) Y)) Y v1
set_option maxHeartbeats 4000000 in
set_option maxRecDepth 100000 in
theorem t_X10_logged {st : TS} {aa : Nat → Nat → Nat} {Y : TY} {X : Hp} {postT : Int32 → TY → Prop} {post : Int32 → Hp → Prop} {v0 : Nat} {v1 : Int32} {v2 : Int32} {v3 : Int32} {v4 : Int32} (R : Rel st aa Y X) (hk_v0 : tK Y v0 = 10) (h : tp_X10_logged st postT Y v0 v1 v2 v3 v4) (hp : ∀ (r : Int32) (Y' : TY) (X' : Hp), postT r Y' → Rel st aa Y' X' → (∀ a, tK Y' a = tK Y a) → post r X') : wp_X10_logged post X v0 v1 v2 v3 v4 := by
  unfold tp_X10_logged at h
  unfold wp_X10_logged
  have hE0 : ∀ a, tK Y a = tK Y a := fun a => rfl
  obtain ⟨Y0, hY0⟩ : ∃ Z : TY, Z = Y := ⟨_, rfl⟩
  have hE0 : ∀ a, tK Y a = tK Y0 a := by rw [hY0]; exact hE0
  rw [← hY0] at hp
  have J_41 : ∀ (n : Nat) (Y : TY) (b41_5 : Int32) (b41_6 : Int32) (b41_7 : Int32) (b41_8 : Int32) (b41_9 : Int32), ∀ (X : Hp) (_ : tk_X10_logged_41 st postT v0 v1 v2 v3 v4  n Y b41_5 b41_6 b41_7 b41_8 b41_9), Rel st aa Y X → (∀ a, tK Y a = tK Y0 a) → tK Y v0 = 10 → bk_X10_logged_41 post v0 v1 v2 v3 v4  n X b41_5 b41_6 b41_7 b41_8 b41_9 := by
    intro n
    induction n with
    | zero =>
      intro Y b41_5 b41_6 b41_7 b41_8 b41_9 X h R hE0 hk_v0 
      rw [tk_X10_logged_41] at h
      exact h.elim
    | succ n_41 ih_41 =>
      have J_166 : ∀ (Y : TY) (b166_6 : Int32) (b166_7 : Int32) (b166_8 : Int32) (b166_9 : Int32) (b166_s0 : Int32) (b166_s1 : Int32), ∀ (X : Hp) (_ : tk_X10_logged_166 st postT v0 v1 v2 v3 v4 (tk_X10_logged_41 st postT v0 v1 v2 v3 v4 n_41) Y b166_6 b166_7 b166_8 b166_9 b166_s0 b166_s1), Rel st aa Y X → (∀ a, tK Y a = tK Y0 a) → tK Y v0 = 10 → bk_X10_logged_166 post v0 v1 v2 v3 v4 (bk_X10_logged_41 post v0 v1 v2 v3 v4 n_41) X b166_6 b166_7 b166_8 b166_9 b166_s0 b166_s1 := by
        intro Y b166_6 b166_7 b166_8 b166_9 b166_s0 b166_s1 X h R hE0 hk_v0 
        unfold tk_X10_logged_166 at h
        unfold bk_X10_logged_166
        intro x23 ex23
        have h := h x23 ex23
        exact ih_41 _ _ _ _ _ _ _ h R hE0 (hk_v0) 
      have J_140 : ∀ (Y : TY) (b140_5 : Int32) (b140_6 : Int32) (b140_7 : Int32) (b140_9 : Int32) (b140_11 : Int32) (b140_s0 : Int32) (b140_s1 : Int32), ∀ (X : Hp) (_ : tk_X10_logged_140 st postT v0 v1 v2 v3 v4 (tk_X10_logged_41 st postT v0 v1 v2 v3 v4 n_41) Y b140_5 b140_6 b140_7 b140_9 b140_11 b140_s0 b140_s1), Rel st aa Y X → (∀ a, tK Y a = tK Y0 a) → tK Y v0 = 10 → bk_X10_logged_140 post v0 v1 v2 v3 v4 (bk_X10_logged_41 post v0 v1 v2 v3 v4 n_41) X b140_5 b140_6 b140_7 b140_9 b140_11 b140_s0 b140_s1 := by
        intro Y b140_5 b140_6 b140_7 b140_9 b140_11 b140_s0 b140_s1 X h R hE0 hk_v0 
        unfold tk_X10_logged_140 at h
        unfold bk_X10_logged_140
        intro x20 ex20
        have h := h x20 ex20
        refine ⟨fun c21 => ?_, fun c21 => ?_⟩
        · have h := h.1 c21
          refine ⟨fun c22 => ?_, fun c22 => ?_⟩
          · have h := h.1 c22
            exact J_166 _ _ _ _ _ _ _ _ h R hE0 (hk_v0) 
          · have h := h.2 c22
            exact J_166 _ _ _ _ _ _ _ _ h R hE0 (hk_v0) 
        · have h := h.2 c21
          exact J_166 _ _ _ _ _ _ _ _ h R hE0 (hk_v0) 
      have J_111 : ∀ (Y : TY) (b111_5 : Int32) (b111_6 : Int32) (b111_8 : Int32) (b111_9 : Int32) (b111_11 : Int32) (b111_s0 : Int32) (b111_s1 : Int32), ∀ (X : Hp) (_ : tk_X10_logged_111 st postT v0 v1 v2 v3 v4 (tk_X10_logged_41 st postT v0 v1 v2 v3 v4 n_41) Y b111_5 b111_6 b111_8 b111_9 b111_11 b111_s0 b111_s1), Rel st aa Y X → (∀ a, tK Y a = tK Y0 a) → tK Y v0 = 10 → bk_X10_logged_111 post v0 v1 v2 v3 v4 (bk_X10_logged_41 post v0 v1 v2 v3 v4 n_41) X b111_5 b111_6 b111_8 b111_9 b111_11 b111_s0 b111_s1 := by
        intro Y b111_5 b111_6 b111_8 b111_9 b111_11 b111_s0 b111_s1 X h R hE0 hk_v0 
        unfold tk_X10_logged_111 at h
        unfold bk_X10_logged_111
        intro x17 ex17
        have h := h x17 ex17
        refine ⟨_, ob_10 R hk_v0, t_X10_owedBehind R hk_v0 h (fun r18 h => ?_)⟩
        refine ⟨fun c19 => ?_, fun c19 => ?_⟩
        · have h := h.1 c19
          exact J_140 _ _ _ _ _ _ _ _ _ h R hE0 (hk_v0) 
        · have h := h.2 c19
          exact J_140 _ _ _ _ _ _ _ _ _ h R hE0 (hk_v0) 
      intro Y b41_5 b41_6 b41_7 b41_8 b41_9 X h R hE0 hk_v0 
      rw [tk_X10_logged_41] at h
      rw [bk_X10_logged_41]
      refine ⟨_, _, ob_10 R hk_v0, rfl, ?_⟩
      refine ⟨_, _, ar_10_4 R hk_v0, h.1, ?_⟩
      have h := h.2
      refine ⟨fun c8 => ?_, fun c8 => ?_⟩
      · have h := h.1 c8
        refine ⟨fun c9 => ?_, fun c9 => ?_⟩
        · have h := h.1 c9
          exact hp _ _ _ h R hE0
        · have h := h.2 c9
          exact hp _ _ _ h R hE0
      · have h := h.2 c8
        refine ⟨_, ob_10 R hk_v0, t_X10_doesOf R hk_v0 h (fun r11 Y X h R hE => ?_)⟩
        have hk_v0 := (hE _).trans hk_v0
        have hE0 := fun a => (hE a).trans (hE0 a)
        refine ⟨fun c12 => ?_, fun c12 => ?_⟩
        · have h := h.1 c12
          intro x13 ex13
          have h := h x13 ex13
          intro x14 ex14
          have h := h x14 ex14
          refine ⟨fun c15 => ?_, fun c15 => ?_⟩
          · have h := h.1 c15
            refine ⟨fun c16 => ?_, fun c16 => ?_⟩
            · have h := h.1 c16
              exact J_111 _ _ _ _ _ _ _ _ _ h R hE0 (hk_v0) 
            · have h := h.2 c16
              exact J_111 _ _ _ _ _ _ _ _ _ h R hE0 (hk_v0) 
          · have h := h.2 c15
            exact J_111 _ _ _ _ _ _ _ _ _ h R hE0 (hk_v0) 
        · have h := h.2 c12
          exact hp _ _ _ h R hE0
  refine t_X10_isWay R  h (fun r1 h => ?_)
  refine ⟨fun c2 => ?_, fun c2 => ?_⟩
  · have h := h.1 c2
    refine t_X10_isOwed R  h (fun r3 h => ?_)
    refine ⟨fun c4 => ?_, fun c4 => ?_⟩
    · have h := h.1 c4
      exact hp _ _ _ h R hE0
    · have h := h.2 c4
      refine t_X10_isBattery R  h (fun r5 h => ?_)
      refine ⟨fun c6 => ?_, fun c6 => ?_⟩
      · have h := h.1 c6
        obtain ⟨n7, h⟩ := h
        exact ⟨n7, J_41 n7 _ _ _ _ _ _ _ h R hE0 (hk_v0) ⟩
      · have h := h.2 c6
        exact hp _ _ _ h R hE0
  · have h := h.2 c2
    exact hp _ _ _ h R hE0
def tk_X10_thumbDoes_100 (st : TS) (post : Int32 → Prop) (Y : TY) (v0 : Nat) (v1 : Int32) (v2 : Int32) (v3 : Int32) (v4 : Int32)  (b100_s0 : Int32) : Prop := (¬ b100_s0 = 0 → tp_X10_canBe st (fun r14 => (r14 = 0 → tp_X10_canBe st (fun r16 => (r16 = 0 → post (0 : Int32)) ∧ (¬ r16 = 0 → post (2 : Int32))) Y v0 v1 v3 (2 : Int32)) ∧ (¬ r14 = 0 → post (3 : Int32))) Y v0 v1 v3 (3 : Int32)) ∧ (b100_s0 = 0 → post (0 : Int32))
def tk_X10_thumbDoes_99 (st : TS) (post : Int32 → Prop) (Y : TY) (v0 : Nat) (v1 : Int32) (v2 : Int32) (v3 : Int32) (v4 : Int32)   : Prop := tk_X10_thumbDoes_100 st post Y v0 v1 v2 v3 v4 (0 : Int32)
def tk_X10_thumbDoes_78 (st : TS) (post : Int32 → Prop) (Y : TY) (v0 : Nat) (v1 : Int32) (v2 : Int32) (v3 : Int32) (v4 : Int32)   : Prop := tk_X10_thumbDoes_100 st post Y v0 v1 v2 v3 v4 (0 : Int32)
def tp_X10_thumbDoes (st : TS) (post : Int32 → Prop) (Y : TY) (v0 : Nat) (v1 : Int32) (v2 : Int32) (v3 : Int32) (v4 : Int32) : Prop := (¬ v2 = 0 → (¬ v2 = (1 : Int32) → (¬ v2 = (2 : Int32) → (v4 < (1 : Int32) → tk_X10_thumbDoes_99 st post Y v0 v1 v2 v3 v4 ) ∧ (¬ v4 < (1 : Int32) → tp_X10_isNight st (fun r5 => (r5 = 0 → tk_X10_thumbDoes_99 st post Y v0 v1 v2 v3 v4 ) ∧ (¬ r5 = 0 → tk_X10_thumbDoes_100 st post Y v0 v1 v2 v3 v4 (1 : Int32))) Y v3)) ∧ (v2 = (2 : Int32) → (v4 < (4 : Int32) → tk_X10_thumbDoes_78 st post Y v0 v1 v2 v3 v4 ) ∧ (¬ v4 < (4 : Int32) → vp_in (((48 : Int32) * v1) + v3) 96 ∧ ((50 : Int32) ≤ (tA Y v0 5 (((48 : Int32) * v1) + v3).toNatClampNeg) → tk_X10_thumbDoes_78 st post Y v0 v1 v2 v3 v4 ) ∧ (¬ (50 : Int32) ≤ (tA Y v0 5 (((48 : Int32) * v1) + v3).toNatClampNeg) → tk_X10_thumbDoes_100 st post Y v0 v1 v2 v3 v4 (1 : Int32))))) ∧ (v2 = (1 : Int32) → (v4 < (8 : Int32) → tk_X10_thumbDoes_100 st post Y v0 v1 v2 v3 v4 (0 : Int32)) ∧ (¬ v4 < (8 : Int32) → tk_X10_thumbDoes_100 st post Y v0 v1 v2 v3 v4 (1 : Int32)))) ∧ (v2 = 0 → (¬ (v3 - v3 / (2 : Int32) * (2 : Int32)) = (1 : Int32) → post (0 : Int32)) ∧ ((v3 - v3 / (2 : Int32) * (2 : Int32)) = (1 : Int32) → tp_X10_canBe st (fun r11 => (r11 = 0 → post (0 : Int32)) ∧ (¬ r11 = 0 → post (1 : Int32))) Y v0 v1 v3 (1 : Int32)))
set_option maxHeartbeats 4000000 in
set_option maxRecDepth 100000 in
theorem t_X10_thumbDoes {st : TS} {aa : Nat → Nat → Nat} {Y : TY} {X : Hp} {postT : Int32 → Prop} {post : Int32 → Prop} {v0 : Nat} {v1 : Int32} {v2 : Int32} {v3 : Int32} {v4 : Int32} (R : Rel st aa Y X) (hk_v0 : tK Y v0 = 10) (h : tp_X10_thumbDoes st postT Y v0 v1 v2 v3 v4) (hp : ∀ (r : Int32) , postT r → post r ) : wp_X10_thumbDoes post X v0 v1 v2 v3 v4 := by
  unfold tp_X10_thumbDoes at h
  unfold wp_X10_thumbDoes
  have J_100 : ∀ (b100_s0 : Int32), ∀ (_ : tk_X10_thumbDoes_100 st postT Y v0 v1 v2 v3 v4  b100_s0), bk_X10_thumbDoes_100 post X v0 v1 v2 v3 v4  b100_s0 := by
    intro b100_s0 h  
    unfold tk_X10_thumbDoes_100 at h
    unfold bk_X10_thumbDoes_100
    refine ⟨fun c13 => ?_, fun c13 => ?_⟩
    · have h := h.1 c13
      refine ⟨_, ob_10 R hk_v0, t_X10_canBe R hk_v0 h (fun r14 h => ?_)⟩
      refine ⟨fun c15 => ?_, fun c15 => ?_⟩
      · have h := h.1 c15
        refine ⟨_, ob_10 R hk_v0, t_X10_canBe R hk_v0 h (fun r16 h => ?_)⟩
        refine ⟨fun c17 => ?_, fun c17 => ?_⟩
        · have h := h.1 c17
          exact hp _ h
        · have h := h.2 c17
          exact hp _ h
      · have h := h.2 c15
        exact hp _ h
    · have h := h.2 c13
      exact hp _ h
  have J_99 : ∀ (_ : Unit), ∀ (_ : tk_X10_thumbDoes_99 st postT Y v0 v1 v2 v3 v4  ), bk_X10_thumbDoes_99 post X v0 v1 v2 v3 v4   := by
    intro _ h  
    unfold tk_X10_thumbDoes_99 at h
    unfold bk_X10_thumbDoes_99
    exact J_100 _ h  
  have J_78 : ∀ (_ : Unit), ∀ (_ : tk_X10_thumbDoes_78 st postT Y v0 v1 v2 v3 v4  ), bk_X10_thumbDoes_78 post X v0 v1 v2 v3 v4   := by
    intro _ h  
    unfold tk_X10_thumbDoes_78 at h
    unfold bk_X10_thumbDoes_78
    exact J_100 _ h  
  refine ⟨fun c1 => ?_, fun c1 => ?_⟩
  · have h := h.1 c1
    refine ⟨fun c2 => ?_, fun c2 => ?_⟩
    · have h := h.1 c2
      refine ⟨fun c3 => ?_, fun c3 => ?_⟩
      · have h := h.1 c3
        refine ⟨fun c4 => ?_, fun c4 => ?_⟩
        · have h := h.1 c4
          exact J_99 () h  
        · have h := h.2 c4
          refine t_X10_isNight R  h (fun r5 h => ?_)
          refine ⟨fun c6 => ?_, fun c6 => ?_⟩
          · have h := h.1 c6
            exact J_99 () h  
          · have h := h.2 c6
            exact J_100 _ h  
      · have h := h.2 c3
        refine ⟨fun c7 => ?_, fun c7 => ?_⟩
        · have h := h.1 c7
          exact J_78 () h  
        · have h := h.2 c7
          refine ⟨_, _, ob_10 R hk_v0, rfl, ?_⟩
          refine ⟨_, _, ar_10_5 R hk_v0, h.1, ?_⟩
          have h := h.2
          refine ⟨fun c8 => ?_, fun c8 => ?_⟩
          · have h := h.1 c8
            exact J_78 () h  
          · have h := h.2 c8
            exact J_100 _ h  
    · have h := h.2 c2
      refine ⟨fun c9 => ?_, fun c9 => ?_⟩
      · have h := h.1 c9
        exact J_100 _ h  
      · have h := h.2 c9
        exact J_100 _ h  
  · have h := h.2 c1
    refine ⟨fun c10 => ?_, fun c10 => ?_⟩
    · have h := h.1 c10
      exact hp _ h
    · have h := h.2 c10
      refine ⟨_, ob_10 R hk_v0, t_X10_canBe R hk_v0 h (fun r11 h => ?_)⟩
      refine ⟨fun c12 => ?_, fun c12 => ?_⟩
      · have h := h.1 c12
        exact hp _ h
      · have h := h.2 c12
        exact hp _ h
def tk_X10_thumbAll_20 (st : TS) (post : TY → Prop) (v0 : Nat) (v1 : Int32) (v2 : Int32) (v3 : Int32)  : Nat → TY → Prop
  | 0, _ => False
  | k + 1, Y => vp_in v1 2 ∧ ((tA Y v0 4 v1.toNatClampNeg) ≤ (tI Y v0 17) → post Y) ∧ (¬ (tA Y v0 4 v1.toNatClampNeg) ≤ (tI Y v0 17) → tp_X10_thumbDoes st (fun r7 => tp_X10_doThing st (fun r9 Y8 => (tk_X10_thumbAll_20 st post v0 v1 v2 v3 k) Y8) Y v0 v1 r7 (0 : Int32)) Y v0 v1 v2 (tI Y v0 17) (tI Y v0 16))
def tp_X10_thumbAll (st : TS) (post : TY → Prop) (Y : TY) (v0 : Nat) (v1 : Int32) (v2 : Int32) (v3 : Int32) : Prop := ∀ Y1 : TY, Y1 = sI Y v0 14 (0 : Int32) → ∀ Y2 : TY, Y2 = sI Y1 v0 16 v3 → ∀ Y3 : TY, Y3 = sI Y2 v0 17 (0 : Int32) → ∀ Y4 : TY, Y4 = sI Y3 v0 18 (0 : Int32) → ∃ n5 : Nat, tk_X10_thumbAll_20 st post v0 v1 v2 v3 n5 Y4
set_option maxHeartbeats 4000000 in
set_option maxRecDepth 100000 in
theorem t_X10_thumbAll {st : TS} {aa : Nat → Nat → Nat} {Y : TY} {X : Hp} {postT : TY → Prop} {post : Hp → Prop} {v0 : Nat} {v1 : Int32} {v2 : Int32} {v3 : Int32} (R : Rel st aa Y X) (hk_v0 : tK Y v0 = 10) (h : tp_X10_thumbAll st postT Y v0 v1 v2 v3) (hp : ∀ (Y' : TY) (X' : Hp), postT Y' → Rel st aa Y' X' → (∀ a, tK Y' a = tK Y a) → post X') : wp_X10_thumbAll post X v0 v1 v2 v3 := by
  unfold tp_X10_thumbAll at h
  unfold wp_X10_thumbAll
  have hE0 : ∀ a, tK Y a = tK Y a := fun a => rfl
  obtain ⟨Y0, hY0⟩ : ∃ Z : TY, Z = Y := ⟨_, rfl⟩
  have hE0 : ∀ a, tK Y a = tK Y0 a := by rw [hY0]; exact hE0
  rw [← hY0] at hp
  have J_20 : ∀ (n : Nat) (Y : TY), ∀ (X : Hp) (_ : tk_X10_thumbAll_20 st postT v0 v1 v2 v3  n Y), Rel st aa Y X → (∀ a, tK Y a = tK Y0 a) → tK Y v0 = 10 → bk_X10_thumbAll_20 post v0 v1 v2 v3  n X := by
    intro n
    induction n with
    | zero =>
      intro Y X h R hE0 hk_v0 
      rw [tk_X10_thumbAll_20] at h
      exact h.elim
    | succ n_20 ih_20 =>
      intro Y X h R hE0 hk_v0 
      rw [tk_X10_thumbAll_20] at h
      rw [bk_X10_thumbAll_20]
      refine ⟨_, _, ob_10 R hk_v0, rfl, ?_⟩
      refine ⟨_, _, ob_10 R hk_v0, rfl, ?_⟩
      refine ⟨_, _, ar_10_4 R hk_v0, h.1, ?_⟩
      have h := h.2
      refine ⟨fun c6 => ?_, fun c6 => ?_⟩
      · have h := h.1 c6
        exact hp _ _ h R hE0
      · have h := h.2 c6
        refine ⟨_, _, ob_10 R hk_v0, rfl, ?_⟩
        refine ⟨_, _, ob_10 R hk_v0, rfl, ?_⟩
        refine ⟨_, ob_10 R hk_v0, t_X10_thumbDoes R hk_v0 h (fun r7 h => ?_)⟩
        refine ⟨_, ob_10 R hk_v0, t_X10_doThing R hk_v0 h (fun r9 Y X h R hE => ?_)⟩
        have hk_v0 := (hE _).trans hk_v0
        have hE0 := fun a => (hE a).trans (hE0 a)
        exact ih_20 _ _ h R hE0 (hk_v0) 
  refine ⟨_, ob_10 R hk_v0, (by decide : 14 < 27), fun X1 e1 => ?_⟩
  have h := h _ rfl
  have R := pu_10_14 R hk_v0 e1
  refine ⟨_, ob_10 R hk_v0, (by decide : 16 < 27), fun X1 e1 => ?_⟩
  have h := h _ rfl
  have R := pu_10_16 R hk_v0 e1
  refine ⟨_, ob_10 R hk_v0, (by decide : 17 < 27), fun X1 e1 => ?_⟩
  have h := h _ rfl
  have R := pu_10_17 R hk_v0 e1
  refine ⟨_, ob_10 R hk_v0, (by decide : 18 < 27), fun X1 e1 => ?_⟩
  have h := h _ rfl
  have R := pu_10_18 R hk_v0 e1
  obtain ⟨n5, h⟩ := h
  exact ⟨n5, J_20 n5 _ _ h R hE0 (hk_v0) ⟩
def tp_X10_thumb (st : TS) (post : Int32 → TY → Prop) (Y : TY) (v0 : Nat) (v1 : Int32) (v2 : Int32) (v3 : Int32) (v4 : Int32) : Prop := tp_X10_isWay st (fun r1 => (¬ r1 = 0 → tp_X10_in st (fun r3 => (r3 = 0 → post (-2 : Int32) Y) ∧ (¬ r3 = 0 → tp_X10_isOwed st (fun r5 => (r5 = 0 → post (-2 : Int32) Y) ∧ (¬ r5 = 0 → tp_X10_in st (fun r7 => (¬ r7 = 0 → tp_X10_thumbAll st (fun Y9 => tp_X10_safeOfTimes st (fun r10 => (¬ v4 = 0 → (¬ v4 = (1 : Int32) → post (tI Y9 v0 16) Y9) ∧ (v4 = (1 : Int32) → tp_X10_bestOf st (fun r14 Y13 => post (r14 - r10) Y13) Y9 v0 v1 (0 : Int32) v3 (0 : Int32) (4 : Int32))) ∧ (v4 = 0 → post r10 Y9)) Y9 v0) Y v0 v1 v2 v3) ∧ (r7 = 0 → post (-2 : Int32) Y)) Y (v4.toInt64) (0 : Int64) (2 : Int64))) Y v3)) Y (v2.toInt64) (0 : Int64) (3 : Int64)) ∧ (r1 = 0 → post (-1 : Int32) Y)) Y v1
set_option maxHeartbeats 4000000 in
set_option maxRecDepth 100000 in
theorem t_X10_thumb {st : TS} {aa : Nat → Nat → Nat} {Y : TY} {X : Hp} {postT : Int32 → TY → Prop} {post : Int32 → Hp → Prop} {v0 : Nat} {v1 : Int32} {v2 : Int32} {v3 : Int32} {v4 : Int32} (R : Rel st aa Y X) (hk_v0 : tK Y v0 = 10) (h : tp_X10_thumb st postT Y v0 v1 v2 v3 v4) (hp : ∀ (r : Int32) (Y' : TY) (X' : Hp), postT r Y' → Rel st aa Y' X' → (∀ a, tK Y' a = tK Y a) → post r X') : wp_X10_thumb post X v0 v1 v2 v3 v4 := by
  unfold tp_X10_thumb at h
  unfold wp_X10_thumb
  have hE0 : ∀ a, tK Y a = tK Y a := fun a => rfl
  obtain ⟨Y0, hY0⟩ : ∃ Z : TY, Z = Y := ⟨_, rfl⟩
  have hE0 : ∀ a, tK Y a = tK Y0 a := by rw [hY0]; exact hE0
  rw [← hY0] at hp
  refine t_X10_isWay R  h (fun r1 h => ?_)
  refine ⟨fun c2 => ?_, fun c2 => ?_⟩
  · have h := h.1 c2
    refine t_X10_in R  h (fun r3 h => ?_)
    refine ⟨fun c4 => ?_, fun c4 => ?_⟩
    · have h := h.1 c4
      exact hp _ _ _ h R hE0
    · have h := h.2 c4
      refine t_X10_isOwed R  h (fun r5 h => ?_)
      refine ⟨fun c6 => ?_, fun c6 => ?_⟩
      · have h := h.1 c6
        exact hp _ _ _ h R hE0
      · have h := h.2 c6
        refine t_X10_in R  h (fun r7 h => ?_)
        refine ⟨fun c8 => ?_, fun c8 => ?_⟩
        · have h := h.1 c8
          refine ⟨_, ob_10 R hk_v0, t_X10_thumbAll R hk_v0 h (fun Y X h R hE => ?_)⟩
          have hk_v0 := (hE _).trans hk_v0
          have hE0 := fun a => (hE a).trans (hE0 a)
          refine ⟨_, ob_10 R hk_v0, t_X10_safeOfTimes R hk_v0 h (fun r10 h => ?_)⟩
          refine ⟨fun c11 => ?_, fun c11 => ?_⟩
          · have h := h.1 c11
            refine ⟨fun c12 => ?_, fun c12 => ?_⟩
            · have h := h.1 c12
              refine ⟨_, _, ob_10 R hk_v0, rfl, ?_⟩
              exact hp _ _ _ h R hE0
            · have h := h.2 c12
              refine ⟨_, ob_10 R hk_v0, t_X10_bestOf R hk_v0 h (fun r14 Y X h R hE => ?_)⟩
              have hk_v0 := (hE _).trans hk_v0
              have hE0 := fun a => (hE a).trans (hE0 a)
              exact hp _ _ _ h R hE0
          · have h := h.2 c11
            exact hp _ _ _ h R hE0
        · have h := h.2 c8
          exact hp _ _ _ h R hE0
  · have h := h.2 c2
    exact hp _ _ _ h R hE0
def tp_X10_worth (st : TS) (post : Int32 → TY → Prop) (Y : TY) (v0 : Nat) (v1 : Int32) (v2 : Int32) (v3 : Int32) (v4 : Int32) : Prop := tp_X10_isWay st (fun r1 => (¬ r1 = 0 → tp_X10_isOwed st (fun r3 => (r3 = 0 → post (-2 : Int32) Y) ∧ (¬ r3 = 0 → tp_X10_isBattery st (fun r5 => (r5 = 0 → post (-2 : Int32) Y) ∧ (¬ r5 = 0 → tp_X10_isBattery st (fun r7 => (r7 = 0 → post (-2 : Int32) Y) ∧ (¬ r7 = 0 → ((v3 + v4) ≤ (24 : Int32) → tp_X10_bestOf st (fun r11 Y10 => tp_X10_bestOf st (fun r13 Y12 => post (r11 - r13) Y12) Y10 v0 v1 (0 : Int32) v2 v3 (4 : Int32)) Y v0 v1 (0 : Int32) v2 (v3 + v4) (4 : Int32)) ∧ (¬ (v3 + v4) ≤ (24 : Int32) → post (-2 : Int32) Y))) Y v4)) Y v3)) Y v2) ∧ (r1 = 0 → post (-1 : Int32) Y)) Y v1
set_option maxHeartbeats 4000000 in
set_option maxRecDepth 100000 in
theorem t_X10_worth {st : TS} {aa : Nat → Nat → Nat} {Y : TY} {X : Hp} {postT : Int32 → TY → Prop} {post : Int32 → Hp → Prop} {v0 : Nat} {v1 : Int32} {v2 : Int32} {v3 : Int32} {v4 : Int32} (R : Rel st aa Y X) (hk_v0 : tK Y v0 = 10) (h : tp_X10_worth st postT Y v0 v1 v2 v3 v4) (hp : ∀ (r : Int32) (Y' : TY) (X' : Hp), postT r Y' → Rel st aa Y' X' → (∀ a, tK Y' a = tK Y a) → post r X') : wp_X10_worth post X v0 v1 v2 v3 v4 := by
  unfold tp_X10_worth at h
  unfold wp_X10_worth
  have hE0 : ∀ a, tK Y a = tK Y a := fun a => rfl
  obtain ⟨Y0, hY0⟩ : ∃ Z : TY, Z = Y := ⟨_, rfl⟩
  have hE0 : ∀ a, tK Y a = tK Y0 a := by rw [hY0]; exact hE0
  rw [← hY0] at hp
  refine t_X10_isWay R  h (fun r1 h => ?_)
  refine ⟨fun c2 => ?_, fun c2 => ?_⟩
  · have h := h.1 c2
    refine t_X10_isOwed R  h (fun r3 h => ?_)
    refine ⟨fun c4 => ?_, fun c4 => ?_⟩
    · have h := h.1 c4
      exact hp _ _ _ h R hE0
    · have h := h.2 c4
      refine t_X10_isBattery R  h (fun r5 h => ?_)
      refine ⟨fun c6 => ?_, fun c6 => ?_⟩
      · have h := h.1 c6
        exact hp _ _ _ h R hE0
      · have h := h.2 c6
        refine t_X10_isBattery R  h (fun r7 h => ?_)
        refine ⟨fun c8 => ?_, fun c8 => ?_⟩
        · have h := h.1 c8
          exact hp _ _ _ h R hE0
        · have h := h.2 c8
          refine ⟨fun c9 => ?_, fun c9 => ?_⟩
          · have h := h.1 c9
            refine ⟨_, ob_10 R hk_v0, t_X10_bestOf R hk_v0 h (fun r11 Y X h R hE => ?_)⟩
            have hk_v0 := (hE _).trans hk_v0
            have hE0 := fun a => (hE a).trans (hE0 a)
            refine ⟨_, ob_10 R hk_v0, t_X10_bestOf R hk_v0 h (fun r13 Y X h R hE => ?_)⟩
            have hk_v0 := (hE _).trans hk_v0
            have hE0 := fun a => (hE a).trans (hE0 a)
            exact hp _ _ _ h R hE0
          · have h := h.2 c9
            exact hp _ _ _ h R hE0
  · have h := h.2 c2
    exact hp _ _ _ h R hE0
def tp_X10_round (st : TS) (post : Int32 → TY → Prop) (Y : TY) (v0 : Nat) (v1 : Int32) (v2 : Int32) : Prop := tp_X10_isOwed st (fun r1 => (r1 = 0 → post (-2 : Int32) Y) ∧ (¬ r1 = 0 → tp_X10_isBattery st (fun r3 => (¬ r3 = 0 → tp_X10_bestOf st (fun r6 Y5 => tp_X10_bestOf st (fun r8 Y7 => (r6 ≤ r8 → post (0 : Int32) Y7) ∧ (¬ r6 ≤ r8 → post (1 : Int32) Y7)) Y5 v0 (0 : Int32) (0 : Int32) v1 v2 (4 : Int32)) Y v0 (1 : Int32) (0 : Int32) v1 v2 (4 : Int32)) ∧ (r3 = 0 → post (-2 : Int32) Y)) Y v2)) Y v1
set_option maxHeartbeats 4000000 in
set_option maxRecDepth 100000 in
theorem t_X10_round {st : TS} {aa : Nat → Nat → Nat} {Y : TY} {X : Hp} {postT : Int32 → TY → Prop} {post : Int32 → Hp → Prop} {v0 : Nat} {v1 : Int32} {v2 : Int32} (R : Rel st aa Y X) (hk_v0 : tK Y v0 = 10) (h : tp_X10_round st postT Y v0 v1 v2) (hp : ∀ (r : Int32) (Y' : TY) (X' : Hp), postT r Y' → Rel st aa Y' X' → (∀ a, tK Y' a = tK Y a) → post r X') : wp_X10_round post X v0 v1 v2 := by
  unfold tp_X10_round at h
  unfold wp_X10_round
  have hE0 : ∀ a, tK Y a = tK Y a := fun a => rfl
  obtain ⟨Y0, hY0⟩ : ∃ Z : TY, Z = Y := ⟨_, rfl⟩
  have hE0 : ∀ a, tK Y a = tK Y0 a := by rw [hY0]; exact hE0
  rw [← hY0] at hp
  refine t_X10_isOwed R  h (fun r1 h => ?_)
  refine ⟨fun c2 => ?_, fun c2 => ?_⟩
  · have h := h.1 c2
    exact hp _ _ _ h R hE0
  · have h := h.2 c2
    refine t_X10_isBattery R  h (fun r3 h => ?_)
    refine ⟨fun c4 => ?_, fun c4 => ?_⟩
    · have h := h.1 c4
      refine ⟨_, ob_10 R hk_v0, t_X10_bestOf R hk_v0 h (fun r6 Y X h R hE => ?_)⟩
      have hk_v0 := (hE _).trans hk_v0
      have hE0 := fun a => (hE a).trans (hE0 a)
      refine ⟨_, ob_10 R hk_v0, t_X10_bestOf R hk_v0 h (fun r8 Y X h R hE => ?_)⟩
      have hk_v0 := (hE _).trans hk_v0
      have hE0 := fun a => (hE a).trans (hE0 a)
      refine ⟨fun c9 => ?_, fun c9 => ?_⟩
      · have h := h.1 c9
        exact hp _ _ _ h R hE0
      · have h := h.2 c9
        exact hp _ _ _ h R hE0
    · have h := h.2 c4
      exact hp _ _ _ h R hE0
def tk_X10_soonest_42 (st : TS) (post : Int32 → TY → Prop) (v0 : Nat) (v1 : Int32) (v2 : Int32) (v3 : Int32) (v4 : Int32)  : Nat → TY → Int32 → Prop
  | 0, _, _ => False
  | k + 1, Y, b42_5 => ((4 : Int32) < b42_5 → post (-6 : Int32) Y) ∧ (¬ (4 : Int32) < b42_5 → tp_X10_bestOf st (fun r12 Y11 => (r12 < v4 → ∀ x14 : Int32, x14 = b42_5 + (1 : Int32) → (tk_X10_soonest_42 st post v0 v1 v2 v3 v4 k) Y11 x14) ∧ (¬ r12 < v4 → vp_in v1 2 ∧ post ((tA Y11 v0 4 v1.toNatClampNeg) + b42_5) Y11)) Y v0 v1 (0 : Int32) v2 v3 b42_5)
def tp_X10_soonest (st : TS) (post : Int32 → TY → Prop) (Y : TY) (v0 : Nat) (v1 : Int32) (v2 : Int32) (v3 : Int32) (v4 : Int32) : Prop := tp_X10_isWay st (fun r1 => (¬ r1 = 0 → tp_X10_isOwed st (fun r3 => (r3 = 0 → post (-2 : Int32) Y) ∧ (¬ r3 = 0 → tp_X10_isBattery st (fun r5 => (r5 = 0 → post (-2 : Int32) Y) ∧ (¬ r5 = 0 → tp_X10_in st (fun r7 => (¬ r7 = 0 → ∃ n9 : Nat, tk_X10_soonest_42 st post v0 v1 v2 v3 v4 n9 Y (0 : Int32)) ∧ (r7 = 0 → post (-2 : Int32) Y)) Y (v4.toInt64) (0 : Int64) (1000000 : Int64))) Y v3)) Y v2) ∧ (r1 = 0 → post (-1 : Int32) Y)) Y v1
set_option maxHeartbeats 4000000 in
set_option maxRecDepth 100000 in
theorem t_X10_soonest {st : TS} {aa : Nat → Nat → Nat} {Y : TY} {X : Hp} {postT : Int32 → TY → Prop} {post : Int32 → Hp → Prop} {v0 : Nat} {v1 : Int32} {v2 : Int32} {v3 : Int32} {v4 : Int32} (R : Rel st aa Y X) (hk_v0 : tK Y v0 = 10) (h : tp_X10_soonest st postT Y v0 v1 v2 v3 v4) (hp : ∀ (r : Int32) (Y' : TY) (X' : Hp), postT r Y' → Rel st aa Y' X' → (∀ a, tK Y' a = tK Y a) → post r X') : wp_X10_soonest post X v0 v1 v2 v3 v4 := by
  unfold tp_X10_soonest at h
  unfold wp_X10_soonest
  have hE0 : ∀ a, tK Y a = tK Y a := fun a => rfl
  obtain ⟨Y0, hY0⟩ : ∃ Z : TY, Z = Y := ⟨_, rfl⟩
  have hE0 : ∀ a, tK Y a = tK Y0 a := by rw [hY0]; exact hE0
  rw [← hY0] at hp
  have J_42 : ∀ (n : Nat) (Y : TY) (b42_5 : Int32), ∀ (X : Hp) (_ : tk_X10_soonest_42 st postT v0 v1 v2 v3 v4  n Y b42_5), Rel st aa Y X → (∀ a, tK Y a = tK Y0 a) → tK Y v0 = 10 → bk_X10_soonest_42 post v0 v1 v2 v3 v4  n X b42_5 := by
    intro n
    induction n with
    | zero =>
      intro Y b42_5 X h R hE0 hk_v0 
      rw [tk_X10_soonest_42] at h
      exact h.elim
    | succ n_42 ih_42 =>
      intro Y b42_5 X h R hE0 hk_v0 
      rw [tk_X10_soonest_42] at h
      rw [bk_X10_soonest_42]
      refine ⟨fun c10 => ?_, fun c10 => ?_⟩
      · have h := h.1 c10
        exact hp _ _ _ h R hE0
      · have h := h.2 c10
        refine ⟨_, ob_10 R hk_v0, t_X10_bestOf R hk_v0 h (fun r12 Y X h R hE => ?_)⟩
        have hk_v0 := (hE _).trans hk_v0
        have hE0 := fun a => (hE a).trans (hE0 a)
        refine ⟨fun c13 => ?_, fun c13 => ?_⟩
        · have h := h.1 c13
          intro x14 ex14
          have h := h x14 ex14
          exact ih_42 _ _ _ h R hE0 (hk_v0) 
        · have h := h.2 c13
          refine ⟨_, _, ob_10 R hk_v0, rfl, ?_⟩
          refine ⟨_, _, ar_10_4 R hk_v0, h.1, ?_⟩
          have h := h.2
          exact hp _ _ _ h R hE0
  refine t_X10_isWay R  h (fun r1 h => ?_)
  refine ⟨fun c2 => ?_, fun c2 => ?_⟩
  · have h := h.1 c2
    refine t_X10_isOwed R  h (fun r3 h => ?_)
    refine ⟨fun c4 => ?_, fun c4 => ?_⟩
    · have h := h.1 c4
      exact hp _ _ _ h R hE0
    · have h := h.2 c4
      refine t_X10_isBattery R  h (fun r5 h => ?_)
      refine ⟨fun c6 => ?_, fun c6 => ?_⟩
      · have h := h.1 c6
        exact hp _ _ _ h R hE0
      · have h := h.2 c6
        refine t_X10_in R  h (fun r7 h => ?_)
        refine ⟨fun c8 => ?_, fun c8 => ?_⟩
        · have h := h.1 c8
          obtain ⟨n9, h⟩ := h
          exact ⟨n9, J_42 n9 _ _ _ h R hE0 (hk_v0) ⟩
        · have h := h.2 c8
          exact hp _ _ _ h R hE0
  · have h := h.2 c2
    exact hp _ _ _ h R hE0
def tk_X10_twoOf_183 (st : TS) (post : Int32 → TY → Prop) (v0 : Nat) (v1 : Int32) (v2 : Int32) (v3 : Int32) (r_22 : TY → Int32 → Prop) (Y : TY) (b183_4 : Int32) (b183_s0 : Int32) (b183_s1 : Int32) : Prop := vp_in b183_s1 2 ∧ ∀ Y19 : TY, Y19 = sF Y v0 21 (upd (tA Y v0 21) b183_s1.toNatClampNeg b183_s0) → ∀ x20 : Int32, x20 = b183_4 + (1 : Int32) → r_22 Y19 x20
def tk_X10_twoOf_93 (st : TS) (post : Int32 → TY → Prop) (v0 : Nat) (v1 : Int32) (v2 : Int32) (v3 : Int32) (r_22 : TY → Int32 → Prop) (Y : TY) (b93_4 : Int32) (b93_5 : Int32) (b93_6 : Int32) (b93_s0 : Int32) : Prop := tp_X10_blindOf st (fun r11 => tp_X10_passHour st (fun Y12 => vp_in b93_5 2 ∧ tp_X10_owedBehind st (fun r13 => vp_in b93_5 2 ∧ ∀ Y14 : TY, Y14 = sF Y12 v0 21 (upd (tA Y12 v0 21) b93_5.toNatClampNeg r13) → vp_in ((1 : Int32) - b93_5) 2 ∧ ∀ x15 : Int32, x15 = (tA Y14 v0 21 ((1 : Int32) - b93_5).toNatClampNeg) → (b93_6 = 0 → ((2 : Int32) ≤ x15 → tk_X10_twoOf_183 st post v0 v1 v2 v3 r_22 Y14 b93_4 ((x15 - (2 : Int32))) (((1 : Int32) - b93_5))) ∧ (¬ (2 : Int32) ≤ x15 → tk_X10_twoOf_183 st post v0 v1 v2 v3 r_22 Y14 b93_4 (0 : Int32) (((1 : Int32) - b93_5)))) ∧ (¬ b93_6 = 0 → tp_X10_owedBehind st (fun r18 => tk_X10_twoOf_183 st post v0 v1 v2 v3 r_22 Y14 b93_4 r18 (((1 : Int32) - b93_5))) Y14 v0 v1 b93_4 x15 (0 : Int32))) Y12 v0 v1 b93_4 (tA Y12 v0 21 b93_5.toNatClampNeg) (0 : Int32)) Y v0 v1 b93_4 r11) Y v0 b93_s0 (0 : Int32) (0 : Int32)
def tk_X10_twoOf_74 (st : TS) (post : Int32 → TY → Prop) (v0 : Nat) (v1 : Int32) (v2 : Int32) (v3 : Int32) (r_22 : TY → Int32 → Prop) (Y : TY) (b74_4 : Int32) (b74_5 : Int32) (b74_6 : Int32) : Prop := vp_in b74_5 2 ∧ tk_X10_twoOf_93 st post v0 v1 v2 v3 r_22 Y b74_4 b74_5 b74_6 ((tA Y v0 21 b74_5.toNatClampNeg))
def tk_X10_twoOf_22 (st : TS) (post : Int32 → TY → Prop) (v0 : Nat) (v1 : Int32) (v2 : Int32) (v3 : Int32)  : Nat → TY → Int32 → Prop
  | 0, _, _ => False
  | k + 1, Y, b22_4 => vp_in v1 2 ∧ ((tA Y v0 4 v1.toNatClampNeg) ≤ b22_4 → tp_X10_safeOfTimes st (fun r6 => post r6 Y) Y v0) ∧ (¬ (tA Y v0 4 v1.toNatClampNeg) ≤ b22_4 → ¬ v3 = 0 ∧ ∀ x7 : Int32, x7 = ((b22_4 / v3) - (b22_4 / v3) / (2 : Int32) * (2 : Int32)) → tp_X10_isSquall st (fun r8 => (r8 = 0 → tk_X10_twoOf_74 st post v0 v1 v2 v3 (tk_X10_twoOf_22 st post v0 v1 v2 v3 k) Y b22_4 x7 r8) ∧ (¬ r8 = 0 → vp_in x7 2 ∧ vp_in ((1 : Int32) - x7) 2 ∧ ((tA Y v0 21 ((1 : Int32) - x7).toNatClampNeg) ≤ (tA Y v0 21 x7.toNatClampNeg) → vp_in ((1 : Int32) - x7) 2 ∧ tk_X10_twoOf_93 st post v0 v1 v2 v3 (tk_X10_twoOf_22 st post v0 v1 v2 v3 k) Y b22_4 x7 r8 ((tA Y v0 21 ((1 : Int32) - x7).toNatClampNeg))) ∧ (¬ (tA Y v0 21 ((1 : Int32) - x7).toNatClampNeg) ≤ (tA Y v0 21 x7.toNatClampNeg) → tk_X10_twoOf_74 st post v0 v1 v2 v3 (tk_X10_twoOf_22 st post v0 v1 v2 v3 k) Y b22_4 x7 r8))) Y v0 v1 b22_4)
def tp_X10_twoOf (st : TS) (post : Int32 → TY → Prop) (Y : TY) (v0 : Nat) (v1 : Int32) (v2 : Int32) (v3 : Int32) : Prop := vp_in (0 : Int32) 2 ∧ ∀ Y1 : TY, Y1 = sF Y v0 21 (upd (tA Y v0 21) (0 : Int32).toNatClampNeg v2) → vp_in (1 : Int32) 2 ∧ ∀ Y2 : TY, Y2 = sF Y1 v0 21 (upd (tA Y1 v0 21) (1 : Int32).toNatClampNeg v2) → ∀ Y3 : TY, Y3 = sI Y2 v0 14 (0 : Int32) → ∃ n4 : Nat, tk_X10_twoOf_22 st post v0 v1 v2 v3 n4 Y3 (0 : Int32)
set_option maxHeartbeats 4000000 in
set_option maxRecDepth 100000 in
theorem t_X10_twoOf {st : TS} {aa : Nat → Nat → Nat} {Y : TY} {X : Hp} {postT : Int32 → TY → Prop} {post : Int32 → Hp → Prop} {v0 : Nat} {v1 : Int32} {v2 : Int32} {v3 : Int32} (R : Rel st aa Y X) (hk_v0 : tK Y v0 = 10) (h : tp_X10_twoOf st postT Y v0 v1 v2 v3) (hp : ∀ (r : Int32) (Y' : TY) (X' : Hp), postT r Y' → Rel st aa Y' X' → (∀ a, tK Y' a = tK Y a) → post r X') : wp_X10_twoOf post X v0 v1 v2 v3 := by
  unfold tp_X10_twoOf at h
  unfold wp_X10_twoOf
  have hE0 : ∀ a, tK Y a = tK Y a := fun a => rfl
  obtain ⟨Y0, hY0⟩ : ∃ Z : TY, Z = Y := ⟨_, rfl⟩
  have hE0 : ∀ a, tK Y a = tK Y0 a := by rw [hY0]; exact hE0
  rw [← hY0] at hp
  have J_22 : ∀ (n : Nat) (Y : TY) (b22_4 : Int32), ∀ (X : Hp) (_ : tk_X10_twoOf_22 st postT v0 v1 v2 v3  n Y b22_4), Rel st aa Y X → (∀ a, tK Y a = tK Y0 a) → tK Y v0 = 10 → bk_X10_twoOf_22 post v0 v1 v2 v3  n X b22_4 := by
    intro n
    induction n with
    | zero =>
      intro Y b22_4 X h R hE0 hk_v0 
      rw [tk_X10_twoOf_22] at h
      exact h.elim
    | succ n_22 ih_22 =>
      have J_183 : ∀ (Y : TY) (b183_4 : Int32) (b183_s0 : Int32) (b183_s1 : Int32), ∀ (X : Hp) (_ : tk_X10_twoOf_183 st postT v0 v1 v2 v3 (tk_X10_twoOf_22 st postT v0 v1 v2 v3 n_22) Y b183_4 b183_s0 b183_s1), Rel st aa Y X → (∀ a, tK Y a = tK Y0 a) → tK Y v0 = 10 → bk_X10_twoOf_183 post v0 v1 v2 v3 (bk_X10_twoOf_22 post v0 v1 v2 v3 n_22) X b183_4 b183_s0 b183_s1 (aa v0 21) := by
        intro Y b183_4 b183_s0 b183_s1 X h R hE0 hk_v0 
        unfold tk_X10_twoOf_183 at h
        unfold bk_X10_twoOf_183
        refine ⟨_, _, ar_10_21 R hk_v0, h.1, fun X1 e1 => ?_⟩
        have h := h.2 _ rfl
        have R := as_10_21 R hk_v0 e1
        intro x20 ex20
        have h := h x20 ex20
        exact ih_22 _ _ _ h R hE0 (hk_v0) 
      have J_93 : ∀ (Y : TY) (b93_4 : Int32) (b93_5 : Int32) (b93_6 : Int32) (b93_s0 : Int32), ∀ (X : Hp) (_ : tk_X10_twoOf_93 st postT v0 v1 v2 v3 (tk_X10_twoOf_22 st postT v0 v1 v2 v3 n_22) Y b93_4 b93_5 b93_6 b93_s0), Rel st aa Y X → (∀ a, tK Y a = tK Y0 a) → tK Y v0 = 10 → bk_X10_twoOf_93 post v0 v1 v2 v3 (bk_X10_twoOf_22 post v0 v1 v2 v3 n_22) X b93_4 b93_5 b93_6 b93_s0 := by
        intro Y b93_4 b93_5 b93_6 b93_s0 X h R hE0 hk_v0 
        unfold tk_X10_twoOf_93 at h
        unfold bk_X10_twoOf_93
        refine ⟨_, ob_10 R hk_v0, t_X10_blindOf R hk_v0 h (fun r11 h => ?_)⟩
        refine ⟨_, ob_10 R hk_v0, t_X10_passHour R hk_v0 h (fun Y X h R hE => ?_)⟩
        have hk_v0 := (hE _).trans hk_v0
        have hE0 := fun a => (hE a).trans (hE0 a)
        refine ⟨_, _, ob_10 R hk_v0, rfl, ?_⟩
        refine ⟨_, _, ob_10 R hk_v0, rfl, ?_⟩
        refine ⟨_, _, ar_10_21 R hk_v0, h.1, ?_⟩
        have h := h.2
        refine ⟨_, ob_10 R hk_v0, t_X10_owedBehind R hk_v0 h (fun r13 h => ?_)⟩
        refine ⟨_, _, ar_10_21 R hk_v0, h.1, fun X1 e1 => ?_⟩
        have h := h.2 _ rfl
        have R := as_10_21 R hk_v0 e1
        refine ⟨_, _, ob_10 R hk_v0, rfl, ?_⟩
        refine ⟨_, _, ar_10_21 R hk_v0, h.1, ?_⟩
        have h := h.2
        intro x15 ex15
        have h := h x15 ex15
        refine ⟨_, _, ob_10 R hk_v0, rfl, ?_⟩
        refine ⟨fun c16 => ?_, fun c16 => ?_⟩
        · have h := h.1 c16
          refine ⟨fun c17 => ?_, fun c17 => ?_⟩
          · have h := h.1 c17
            exact J_183 _ _ _ _ _ h R hE0 (hk_v0) 
          · have h := h.2 c17
            exact J_183 _ _ _ _ _ h R hE0 (hk_v0) 
        · have h := h.2 c16
          refine ⟨_, ob_10 R hk_v0, t_X10_owedBehind R hk_v0 h (fun r18 h => ?_)⟩
          exact J_183 _ _ _ _ _ h R hE0 (hk_v0) 
      have J_74 : ∀ (Y : TY) (b74_4 : Int32) (b74_5 : Int32) (b74_6 : Int32), ∀ (X : Hp) (_ : tk_X10_twoOf_74 st postT v0 v1 v2 v3 (tk_X10_twoOf_22 st postT v0 v1 v2 v3 n_22) Y b74_4 b74_5 b74_6), Rel st aa Y X → (∀ a, tK Y a = tK Y0 a) → tK Y v0 = 10 → bk_X10_twoOf_74 post v0 v1 v2 v3 (bk_X10_twoOf_22 post v0 v1 v2 v3 n_22) X b74_4 b74_5 b74_6 := by
        intro Y b74_4 b74_5 b74_6 X h R hE0 hk_v0 
        unfold tk_X10_twoOf_74 at h
        unfold bk_X10_twoOf_74
        refine ⟨_, _, ob_10 R hk_v0, rfl, ?_⟩
        refine ⟨_, _, ar_10_21 R hk_v0, h.1, ?_⟩
        have h := h.2
        exact J_93 _ _ _ _ _ _ h R hE0 (hk_v0) 
      intro Y b22_4 X h R hE0 hk_v0 
      rw [tk_X10_twoOf_22] at h
      rw [bk_X10_twoOf_22]
      refine ⟨_, _, ob_10 R hk_v0, rfl, ?_⟩
      refine ⟨_, _, ar_10_4 R hk_v0, h.1, ?_⟩
      have h := h.2
      refine ⟨fun c5 => ?_, fun c5 => ?_⟩
      · have h := h.1 c5
        refine ⟨_, ob_10 R hk_v0, t_X10_safeOfTimes R hk_v0 h (fun r6 h => ?_)⟩
        exact hp _ _ _ h R hE0
      · have h := h.2 c5
        refine ⟨h.1, ?_⟩
        have h := h.2
        intro x7 ex7
        have h := h x7 ex7
        refine ⟨_, ob_10 R hk_v0, t_X10_isSquall R hk_v0 h (fun r8 h => ?_)⟩
        refine ⟨fun c9 => ?_, fun c9 => ?_⟩
        · have h := h.1 c9
          exact J_74 _ _ _ _ _ h R hE0 (hk_v0) 
        · have h := h.2 c9
          refine ⟨_, _, ob_10 R hk_v0, rfl, ?_⟩
          refine ⟨_, _, ar_10_21 R hk_v0, h.1, ?_⟩
          have h := h.2
          refine ⟨_, _, ob_10 R hk_v0, rfl, ?_⟩
          refine ⟨_, _, ar_10_21 R hk_v0, h.1, ?_⟩
          have h := h.2
          refine ⟨fun c10 => ?_, fun c10 => ?_⟩
          · have h := h.1 c10
            refine ⟨_, _, ob_10 R hk_v0, rfl, ?_⟩
            refine ⟨_, _, ar_10_21 R hk_v0, h.1, ?_⟩
            have h := h.2
            exact J_93 _ _ _ _ _ _ h R hE0 (hk_v0) 
          · have h := h.2 c10
            exact J_74 _ _ _ _ _ h R hE0 (hk_v0) 
  refine ⟨_, _, ob_10 R hk_v0, rfl, ?_⟩
  refine ⟨_, _, ar_10_21 R hk_v0, h.1, fun X1 e1 => ?_⟩
  have h := h.2 _ rfl
  have R := as_10_21 R hk_v0 e1
  refine ⟨_, _, ob_10 R hk_v0, rfl, ?_⟩
  refine ⟨_, _, ar_10_21 R hk_v0, h.1, fun X1 e1 => ?_⟩
  have h := h.2 _ rfl
  have R := as_10_21 R hk_v0 e1
  refine ⟨_, ob_10 R hk_v0, (by decide : 14 < 27), fun X1 e1 => ?_⟩
  have h := h _ rfl
  have R := pu_10_14 R hk_v0 e1
  obtain ⟨n4, h⟩ := h
  exact ⟨n4, J_22 n4 _ _ _ h R hE0 (hk_v0) ⟩
def tp_X10_two (st : TS) (post : Int32 → TY → Prop) (Y : TY) (v0 : Nat) (v1 : Int32) (v2 : Int32) (v3 : Int32) : Prop := tp_X10_isWay st (fun r1 => (¬ r1 = 0 → tp_X10_isOwed st (fun r3 => (r3 = 0 → post (-2 : Int32) Y) ∧ (¬ r3 = 0 → tp_X10_in st (fun r5 => (r5 = 0 → post (-2 : Int32) Y) ∧ (¬ r5 = 0 → tp_X10_twoOf st (fun r8 Y7 => post r8 Y7) Y v0 v1 v2 v3)) Y (v3.toInt64) (1 : Int64) (6 : Int64))) Y v2) ∧ (r1 = 0 → post (-1 : Int32) Y)) Y v1
set_option maxHeartbeats 4000000 in
set_option maxRecDepth 100000 in
theorem t_X10_two {st : TS} {aa : Nat → Nat → Nat} {Y : TY} {X : Hp} {postT : Int32 → TY → Prop} {post : Int32 → Hp → Prop} {v0 : Nat} {v1 : Int32} {v2 : Int32} {v3 : Int32} (R : Rel st aa Y X) (hk_v0 : tK Y v0 = 10) (h : tp_X10_two st postT Y v0 v1 v2 v3) (hp : ∀ (r : Int32) (Y' : TY) (X' : Hp), postT r Y' → Rel st aa Y' X' → (∀ a, tK Y' a = tK Y a) → post r X') : wp_X10_two post X v0 v1 v2 v3 := by
  unfold tp_X10_two at h
  unfold wp_X10_two
  have hE0 : ∀ a, tK Y a = tK Y a := fun a => rfl
  obtain ⟨Y0, hY0⟩ : ∃ Z : TY, Z = Y := ⟨_, rfl⟩
  have hE0 : ∀ a, tK Y a = tK Y0 a := by rw [hY0]; exact hE0
  rw [← hY0] at hp
  refine t_X10_isWay R  h (fun r1 h => ?_)
  refine ⟨fun c2 => ?_, fun c2 => ?_⟩
  · have h := h.1 c2
    refine t_X10_isOwed R  h (fun r3 h => ?_)
    refine ⟨fun c4 => ?_, fun c4 => ?_⟩
    · have h := h.1 c4
      exact hp _ _ _ h R hE0
    · have h := h.2 c4
      refine t_X10_in R  h (fun r5 h => ?_)
      refine ⟨fun c6 => ?_, fun c6 => ?_⟩
      · have h := h.1 c6
        exact hp _ _ _ h R hE0
      · have h := h.2 c6
        refine ⟨_, ob_10 R hk_v0, t_X10_twoOf R hk_v0 h (fun r8 Y X h R hE => ?_)⟩
        have hk_v0 := (hE _).trans hk_v0
        have hE0 := fun a => (hE a).trans (hE0 a)
        exact hp _ _ _ h R hE0
  · have h := h.2 c2
    exact hp _ _ _ h R hE0
def tk_X10_share_64 (st : TS) (post : Int32 → TY → Prop) (v0 : Nat) (v1 : Int32) (v2 : Int32) (r_33 : TY → Int32 → Int32 → Int32 → Prop) (Y : TY) (b64_3 : Int32) (b64_4 : Int32) (b64_5 : Int32) : Prop := ∀ x12 : Int32, x12 = b64_5 + (1 : Int32) → r_33 Y b64_3 b64_4 x12
def tk_X10_share_33 (st : TS) (post : Int32 → TY → Prop) (v0 : Nat) (v1 : Int32) (v2 : Int32)  : Nat → TY → Int32 → Int32 → Int32 → Prop
  | 0, _, _, _, _ => False
  | k + 1, Y, b33_3, b33_4, b33_5 => ((6 : Int32) < b33_5 → post b33_3 Y) ∧ (¬ (6 : Int32) < b33_5 → tp_X10_twoOf st (fun r10 Y9 => (r10 ≤ b33_4 → tk_X10_share_64 st post v0 v1 v2 (tk_X10_share_33 st post v0 v1 v2 k) Y9 b33_3 b33_4 b33_5) ∧ (¬ r10 ≤ b33_4 → tk_X10_share_64 st post v0 v1 v2 (tk_X10_share_33 st post v0 v1 v2 k) Y9 b33_5 r10 b33_5)) Y v0 v1 v2 b33_5)
def tp_X10_share (st : TS) (post : Int32 → TY → Prop) (Y : TY) (v0 : Nat) (v1 : Int32) (v2 : Int32) : Prop := tp_X10_isWay st (fun r1 => (¬ r1 = 0 → tp_X10_isOwed st (fun r3 => (¬ r3 = 0 → tp_X10_twoOf st (fun r6 Y5 => ∃ n7 : Nat, tk_X10_share_33 st post v0 v1 v2 n7 Y5 (1 : Int32) r6 (2 : Int32)) Y v0 v1 v2 (1 : Int32)) ∧ (r3 = 0 → post (-2 : Int32) Y)) Y v2) ∧ (r1 = 0 → post (-1 : Int32) Y)) Y v1
set_option maxHeartbeats 4000000 in
set_option maxRecDepth 100000 in
theorem t_X10_share {st : TS} {aa : Nat → Nat → Nat} {Y : TY} {X : Hp} {postT : Int32 → TY → Prop} {post : Int32 → Hp → Prop} {v0 : Nat} {v1 : Int32} {v2 : Int32} (R : Rel st aa Y X) (hk_v0 : tK Y v0 = 10) (h : tp_X10_share st postT Y v0 v1 v2) (hp : ∀ (r : Int32) (Y' : TY) (X' : Hp), postT r Y' → Rel st aa Y' X' → (∀ a, tK Y' a = tK Y a) → post r X') : wp_X10_share post X v0 v1 v2 := by
  unfold tp_X10_share at h
  unfold wp_X10_share
  have hE0 : ∀ a, tK Y a = tK Y a := fun a => rfl
  obtain ⟨Y0, hY0⟩ : ∃ Z : TY, Z = Y := ⟨_, rfl⟩
  have hE0 : ∀ a, tK Y a = tK Y0 a := by rw [hY0]; exact hE0
  rw [← hY0] at hp
  have J_33 : ∀ (n : Nat) (Y : TY) (b33_3 : Int32) (b33_4 : Int32) (b33_5 : Int32), ∀ (X : Hp) (_ : tk_X10_share_33 st postT v0 v1 v2  n Y b33_3 b33_4 b33_5), Rel st aa Y X → (∀ a, tK Y a = tK Y0 a) → tK Y v0 = 10 → bk_X10_share_33 post v0 v1 v2  n X b33_3 b33_4 b33_5 := by
    intro n
    induction n with
    | zero =>
      intro Y b33_3 b33_4 b33_5 X h R hE0 hk_v0 
      rw [tk_X10_share_33] at h
      exact h.elim
    | succ n_33 ih_33 =>
      have J_64 : ∀ (Y : TY) (b64_3 : Int32) (b64_4 : Int32) (b64_5 : Int32), ∀ (X : Hp) (_ : tk_X10_share_64 st postT v0 v1 v2 (tk_X10_share_33 st postT v0 v1 v2 n_33) Y b64_3 b64_4 b64_5), Rel st aa Y X → (∀ a, tK Y a = tK Y0 a) → tK Y v0 = 10 → bk_X10_share_64 post v0 v1 v2 (bk_X10_share_33 post v0 v1 v2 n_33) X b64_3 b64_4 b64_5 := by
        intro Y b64_3 b64_4 b64_5 X h R hE0 hk_v0 
        unfold tk_X10_share_64 at h
        unfold bk_X10_share_64
        intro x12 ex12
        have h := h x12 ex12
        exact ih_33 _ _ _ _ _ h R hE0 (hk_v0) 
      intro Y b33_3 b33_4 b33_5 X h R hE0 hk_v0 
      rw [tk_X10_share_33] at h
      rw [bk_X10_share_33]
      refine ⟨fun c8 => ?_, fun c8 => ?_⟩
      · have h := h.1 c8
        exact hp _ _ _ h R hE0
      · have h := h.2 c8
        refine ⟨_, ob_10 R hk_v0, t_X10_twoOf R hk_v0 h (fun r10 Y X h R hE => ?_)⟩
        have hk_v0 := (hE _).trans hk_v0
        have hE0 := fun a => (hE a).trans (hE0 a)
        refine ⟨fun c11 => ?_, fun c11 => ?_⟩
        · have h := h.1 c11
          exact J_64 _ _ _ _ _ h R hE0 (hk_v0) 
        · have h := h.2 c11
          exact J_64 _ _ _ _ _ h R hE0 (hk_v0) 
  refine t_X10_isWay R  h (fun r1 h => ?_)
  refine ⟨fun c2 => ?_, fun c2 => ?_⟩
  · have h := h.1 c2
    refine t_X10_isOwed R  h (fun r3 h => ?_)
    refine ⟨fun c4 => ?_, fun c4 => ?_⟩
    · have h := h.1 c4
      refine ⟨_, ob_10 R hk_v0, t_X10_twoOf R hk_v0 h (fun r6 Y X h R hE => ?_)⟩
      have hk_v0 := (hE _).trans hk_v0
      have hE0 := fun a => (hE a).trans (hE0 a)
      obtain ⟨n7, h⟩ := h
      exact ⟨n7, J_33 n7 _ _ _ _ _ h R hE0 (hk_v0) ⟩
    · have h := h.2 c4
      exact hp _ _ _ h R hE0
  · have h := h.2 c2
    exact hp _ _ _ h R hE0
def tp_X10_getsUp (st : TS) (post : Int32 → Prop) (Y : TY) (v0 : Int32) (v1 : Int32) (v2 : Int32) : Prop := ((v1 * v0) < ((1000 : Int32) * ((1 : Int32) + ((10 : Int32) * v2))) → post (0 : Int32)) ∧ (¬ (v1 * v0) < ((1000 : Int32) * ((1 : Int32) + ((10 : Int32) * v2))) → post (1 : Int32))
set_option maxHeartbeats 4000000 in
set_option maxRecDepth 100000 in
theorem t_X10_getsUp {st : TS} {aa : Nat → Nat → Nat} {Y : TY} {X : Hp} {postT : Int32 → Prop} {post : Int32 → Prop} {v0 : Int32} {v1 : Int32} {v2 : Int32} (R : Rel st aa Y X)  (h : tp_X10_getsUp st postT Y v0 v1 v2) (hp : ∀ (r : Int32) , postT r → post r ) : wp_X10_getsUp post X v0 v1 v2 := by
  unfold tp_X10_getsUp at h
  unfold wp_X10_getsUp
  refine ⟨fun c1 => ?_, fun c1 => ?_⟩
  · have h := h.1 c1
    exact hp _ h
  · have h := h.2 c1
    exact hp _ h
def tp_X10_up (st : TS) (post : Int32 → Prop) (Y : TY) (v0 : Nat) (v1 : Int32) (v2 : Int32) (v3 : Int32) : Prop := tp_X10_in st (fun r1 => (r1 = 0 → post (-2 : Int32)) ∧ (¬ r1 = 0 → tp_X10_in st (fun r3 => (r3 = 0 → post (-2 : Int32)) ∧ (¬ r3 = 0 → tp_X10_isOwed st (fun r5 => (¬ r5 = 0 → tp_X10_getsUp st (fun r7 => (r7 = 0 → post (0 : Int32)) ∧ (¬ r7 = 0 → post (1 : Int32))) Y v1 v2 v3) ∧ (r5 = 0 → post (-2 : Int32))) Y v3)) Y (v2.toInt64) (0 : Int64) (10000 : Int64))) Y (v1.toInt64) (0 : Int64) (1000 : Int64)
set_option maxHeartbeats 4000000 in
set_option maxRecDepth 100000 in
theorem t_X10_up {st : TS} {aa : Nat → Nat → Nat} {Y : TY} {X : Hp} {postT : Int32 → Prop} {post : Int32 → Prop} {v0 : Nat} {v1 : Int32} {v2 : Int32} {v3 : Int32} (R : Rel st aa Y X) (hk_v0 : tK Y v0 = 10) (h : tp_X10_up st postT Y v0 v1 v2 v3) (hp : ∀ (r : Int32) , postT r → post r ) : wp_X10_up post X v0 v1 v2 v3 := by
  unfold tp_X10_up at h
  unfold wp_X10_up
  refine t_X10_in R  h (fun r1 h => ?_)
  refine ⟨fun c2 => ?_, fun c2 => ?_⟩
  · have h := h.1 c2
    exact hp _ h
  · have h := h.2 c2
    refine t_X10_in R  h (fun r3 h => ?_)
    refine ⟨fun c4 => ?_, fun c4 => ?_⟩
    · have h := h.1 c4
      exact hp _ h
    · have h := h.2 c4
      refine t_X10_isOwed R  h (fun r5 h => ?_)
      refine ⟨fun c6 => ?_, fun c6 => ?_⟩
      · have h := h.1 c6
        refine t_X10_getsUp R  h (fun r7 h => ?_)
        refine ⟨fun c8 => ?_, fun c8 => ?_⟩
        · have h := h.1 c8
          exact hp _ h
        · have h := h.2 c8
          exact hp _ h
      · have h := h.2 c6
        exact hp _ h
def tk_X10_trust_24 (st : TS) (post : Int32 → Prop) (Y : TY) (v0 : Nat) (v1 : Int32) (v2 : Int32)  : Nat → Int32 → Prop
  | 0, _ => False
  | k + 1, b24_3 => ((1000 : Int32) < b24_3 → post b24_3) ∧ (¬ (1000 : Int32) < b24_3 → tp_X10_getsUp st (fun r7 => (¬ r7 = 0 → post b24_3) ∧ (r7 = 0 → ∀ x9 : Int32, x9 = b24_3 + (1 : Int32) → (tk_X10_trust_24 st post Y v0 v1 v2 k) x9)) Y b24_3 v1 v2)
def tp_X10_trust (st : TS) (post : Int32 → Prop) (Y : TY) (v0 : Nat) (v1 : Int32) (v2 : Int32) : Prop := tp_X10_in st (fun r1 => (r1 = 0 → post (-2 : Int32)) ∧ (¬ r1 = 0 → tp_X10_isOwed st (fun r3 => (¬ r3 = 0 → ∃ n5 : Nat, tk_X10_trust_24 st post Y v0 v1 v2 n5 (0 : Int32)) ∧ (r3 = 0 → post (-2 : Int32))) Y v2)) Y (v1.toInt64) (0 : Int64) (10000 : Int64)
set_option maxHeartbeats 4000000 in
set_option maxRecDepth 100000 in
theorem t_X10_trust {st : TS} {aa : Nat → Nat → Nat} {Y : TY} {X : Hp} {postT : Int32 → Prop} {post : Int32 → Prop} {v0 : Nat} {v1 : Int32} {v2 : Int32} (R : Rel st aa Y X) (hk_v0 : tK Y v0 = 10) (h : tp_X10_trust st postT Y v0 v1 v2) (hp : ∀ (r : Int32) , postT r → post r ) : wp_X10_trust post X v0 v1 v2 := by
  unfold tp_X10_trust at h
  unfold wp_X10_trust
  have J_24 : ∀ (n : Nat) (b24_3 : Int32), ∀ (_ : tk_X10_trust_24 st postT Y v0 v1 v2  n b24_3), bk_X10_trust_24 post X v0 v1 v2  n b24_3 := by
    intro n
    induction n with
    | zero =>
      intro b24_3 h  
      rw [tk_X10_trust_24] at h
      exact h.elim
    | succ n_24 ih_24 =>
      intro b24_3 h  
      rw [tk_X10_trust_24] at h
      rw [bk_X10_trust_24]
      refine ⟨fun c6 => ?_, fun c6 => ?_⟩
      · have h := h.1 c6
        exact hp _ h
      · have h := h.2 c6
        refine t_X10_getsUp R  h (fun r7 h => ?_)
        refine ⟨fun c8 => ?_, fun c8 => ?_⟩
        · have h := h.1 c8
          exact hp _ h
        · have h := h.2 c8
          intro x9 ex9
          have h := h x9 ex9
          exact ih_24 _ h  
  refine t_X10_in R  h (fun r1 h => ?_)
  refine ⟨fun c2 => ?_, fun c2 => ?_⟩
  · have h := h.1 c2
    exact hp _ h
  · have h := h.2 c2
    refine t_X10_isOwed R  h (fun r3 h => ?_)
    refine ⟨fun c4 => ?_, fun c4 => ?_⟩
    · have h := h.1 c4
      obtain ⟨n5, h⟩ := h
      exact ⟨n5, J_24 n5 _ h  ⟩
    · have h := h.2 c4
      exact hp _ h
def tp_X10_thousandth (st : TS) (post : Int32 → TY → Prop) (Y : TY) (v0 : Nat) : Prop := ∀ Y1 : TY, Y1 = sI Y v0 22 ((((75 : Int32) * (tI Y v0 22)) + (74 : Int32)) - (((75 : Int32) * (tI Y v0 22)) + (74 : Int32)) / (65537 : Int32) * (65537 : Int32)) → post ((tI Y1 v0 22) - (tI Y1 v0 22) / (1000 : Int32) * (1000 : Int32)) Y1
set_option maxHeartbeats 4000000 in
set_option maxRecDepth 100000 in
theorem t_X10_thousandth {st : TS} {aa : Nat → Nat → Nat} {Y : TY} {X : Hp} {postT : Int32 → TY → Prop} {post : Int32 → Hp → Prop} {v0 : Nat} (R : Rel st aa Y X) (hk_v0 : tK Y v0 = 10) (h : tp_X10_thousandth st postT Y v0) (hp : ∀ (r : Int32) (Y' : TY) (X' : Hp), postT r Y' → Rel st aa Y' X' → (∀ a, tK Y' a = tK Y a) → post r X') : wp_X10_thousandth post X v0 := by
  unfold tp_X10_thousandth at h
  unfold wp_X10_thousandth
  have hE0 : ∀ a, tK Y a = tK Y a := fun a => rfl
  obtain ⟨Y0, hY0⟩ : ∃ Z : TY, Z = Y := ⟨_, rfl⟩
  have hE0 : ∀ a, tK Y a = tK Y0 a := by rw [hY0]; exact hE0
  rw [← hY0] at hp
  refine ⟨_, _, ob_10 R hk_v0, rfl, ?_⟩
  refine ⟨_, ob_10 R hk_v0, (by decide : 22 < 27), fun X1 e1 => ?_⟩
  have h := h _ rfl
  have R := pu_10_22 R hk_v0 e1
  refine ⟨_, _, ob_10 R hk_v0, rfl, ?_⟩
  exact hp _ _ _ h R hE0
def tk_X10_draw_117 (st : TS) (post : Int32 → TY → Prop) (v0 : Nat) (v1 : Int32) (v2 : Int32) (v3 : Int32) (v4 : Int32) (r_65 : TY → Int32 → Prop) (Y : TY) (b117_5 : Int32) : Prop := ∀ x22 : Int32, x22 = b117_5 + (1 : Int32) → r_65 Y x22
def tk_X10_draw_93 (st : TS) (post : Int32 → TY → Prop) (v0 : Nat) (v1 : Int32) (v2 : Int32) (v3 : Int32) (v4 : Int32) (r_65 : TY → Int32 → Prop) (Y : TY) (b93_5 : Int32) (b93_s0 : Int32) : Prop := (b93_s0 = 0 → tk_X10_draw_117 st post v0 v1 v2 v3 v4 r_65 Y b93_5) ∧ (¬ b93_s0 = 0 → tp_X10_thousandth st (fun r20 Y19 => vp_in b93_5 130 ∧ ((tA Y19 v0 13 b93_5.toNatClampNeg) ≤ r20 → tk_X10_draw_117 st post v0 v1 v2 v3 v4 r_65 Y19 b93_5) ∧ (¬ (tA Y19 v0 13 b93_5.toNatClampNeg) ≤ r20 → post b93_5 Y19)) Y v0)
def tk_X10_draw_65 (st : TS) (post : Int32 → TY → Prop) (v0 : Nat) (v1 : Int32) (v2 : Int32) (v3 : Int32) (v4 : Int32)  : Nat → TY → Int32 → Prop
  | 0, _, _ => False
  | k + 1, Y, b65_5 => ((tI Y v0 14) ≤ b65_5 → post (-6 : Int32) Y) ∧ (¬ (tI Y v0 14) ≤ b65_5 → tp_X10_thousandth st (fun r16 Y15 => vp_in b65_5 130 ∧ ((tA Y15 v0 12 b65_5.toNatClampNeg) ≤ r16 → tk_X10_draw_93 st post v0 v1 v2 v3 v4 (tk_X10_draw_65 st post v0 v1 v2 v3 v4 k) Y15 b65_5 (0 : Int32)) ∧ (¬ (tA Y15 v0 12 b65_5.toNatClampNeg) ≤ r16 → tk_X10_draw_93 st post v0 v1 v2 v3 v4 (tk_X10_draw_65 st post v0 v1 v2 v3 v4 k) Y15 b65_5 (1 : Int32))) Y v0)
def tp_X10_draw (st : TS) (post : Int32 → TY → Prop) (Y : TY) (v0 : Nat) (v1 : Int32) (v2 : Int32) (v3 : Int32) (v4 : Int32) : Prop := tp_X10_isWay st (fun r1 => (¬ r1 = 0 → tp_X10_isOwed st (fun r3 => (r3 = 0 → post (-2 : Int32) Y) ∧ (¬ r3 = 0 → tp_X10_isBattery st (fun r5 => (r5 = 0 → post (-2 : Int32) Y) ∧ (¬ r5 = 0 → tp_X10_in st (fun r7 => (¬ r7 = 0 → tp_X10_fault st (fun r9 => (r9 < 0 → tp_X10_judgeAll st (fun Y11 => ∀ Y12 : TY, Y12 = sI Y11 v0 22 v4 → ∃ n13 : Nat, tk_X10_draw_65 st post v0 v1 v2 v3 v4 n13 Y12 (0 : Int32)) Y v0 v1 v2 v3) ∧ (¬ r9 < 0 → post (-5 : Int32) Y)) Y v0) ∧ (r7 = 0 → post (-2 : Int32) Y)) Y (v4.toInt64) (0 : Int64) (9999 : Int64))) Y v3)) Y v2) ∧ (r1 = 0 → post (-1 : Int32) Y)) Y v1
set_option maxHeartbeats 4000000 in
set_option maxRecDepth 100000 in
theorem t_X10_draw {st : TS} {aa : Nat → Nat → Nat} {Y : TY} {X : Hp} {postT : Int32 → TY → Prop} {post : Int32 → Hp → Prop} {v0 : Nat} {v1 : Int32} {v2 : Int32} {v3 : Int32} {v4 : Int32} (R : Rel st aa Y X) (hk_v0 : tK Y v0 = 10) (h : tp_X10_draw st postT Y v0 v1 v2 v3 v4) (hp : ∀ (r : Int32) (Y' : TY) (X' : Hp), postT r Y' → Rel st aa Y' X' → (∀ a, tK Y' a = tK Y a) → post r X') : wp_X10_draw post X v0 v1 v2 v3 v4 := by
  unfold tp_X10_draw at h
  unfold wp_X10_draw
  have hE0 : ∀ a, tK Y a = tK Y a := fun a => rfl
  obtain ⟨Y0, hY0⟩ : ∃ Z : TY, Z = Y := ⟨_, rfl⟩
  have hE0 : ∀ a, tK Y a = tK Y0 a := by rw [hY0]; exact hE0
  rw [← hY0] at hp
  have J_65 : ∀ (n : Nat) (Y : TY) (b65_5 : Int32), ∀ (X : Hp) (_ : tk_X10_draw_65 st postT v0 v1 v2 v3 v4  n Y b65_5), Rel st aa Y X → (∀ a, tK Y a = tK Y0 a) → tK Y v0 = 10 → bk_X10_draw_65 post v0 v1 v2 v3 v4  n X b65_5 := by
    intro n
    induction n with
    | zero =>
      intro Y b65_5 X h R hE0 hk_v0 
      rw [tk_X10_draw_65] at h
      exact h.elim
    | succ n_65 ih_65 =>
      have J_117 : ∀ (Y : TY) (b117_5 : Int32), ∀ (X : Hp) (_ : tk_X10_draw_117 st postT v0 v1 v2 v3 v4 (tk_X10_draw_65 st postT v0 v1 v2 v3 v4 n_65) Y b117_5), Rel st aa Y X → (∀ a, tK Y a = tK Y0 a) → tK Y v0 = 10 → bk_X10_draw_117 post v0 v1 v2 v3 v4 (bk_X10_draw_65 post v0 v1 v2 v3 v4 n_65) X b117_5 := by
        intro Y b117_5 X h R hE0 hk_v0 
        unfold tk_X10_draw_117 at h
        unfold bk_X10_draw_117
        intro x22 ex22
        have h := h x22 ex22
        exact ih_65 _ _ _ h R hE0 (hk_v0) 
      have J_93 : ∀ (Y : TY) (b93_5 : Int32) (b93_s0 : Int32), ∀ (X : Hp) (_ : tk_X10_draw_93 st postT v0 v1 v2 v3 v4 (tk_X10_draw_65 st postT v0 v1 v2 v3 v4 n_65) Y b93_5 b93_s0), Rel st aa Y X → (∀ a, tK Y a = tK Y0 a) → tK Y v0 = 10 → bk_X10_draw_93 post v0 v1 v2 v3 v4 (bk_X10_draw_65 post v0 v1 v2 v3 v4 n_65) X b93_5 b93_s0 := by
        intro Y b93_5 b93_s0 X h R hE0 hk_v0 
        unfold tk_X10_draw_93 at h
        unfold bk_X10_draw_93
        refine ⟨fun c18 => ?_, fun c18 => ?_⟩
        · have h := h.1 c18
          exact J_117 _ _ _ h R hE0 (hk_v0) 
        · have h := h.2 c18
          refine ⟨_, ob_10 R hk_v0, t_X10_thousandth R hk_v0 h (fun r20 Y X h R hE => ?_)⟩
          have hk_v0 := (hE _).trans hk_v0
          have hE0 := fun a => (hE a).trans (hE0 a)
          refine ⟨_, _, ob_10 R hk_v0, rfl, ?_⟩
          refine ⟨_, _, ar_10_13 R hk_v0, h.1, ?_⟩
          have h := h.2
          refine ⟨fun c21 => ?_, fun c21 => ?_⟩
          · have h := h.1 c21
            exact J_117 _ _ _ h R hE0 (hk_v0) 
          · have h := h.2 c21
            exact hp _ _ _ h R hE0
      intro Y b65_5 X h R hE0 hk_v0 
      rw [tk_X10_draw_65] at h
      rw [bk_X10_draw_65]
      refine ⟨_, _, ob_10 R hk_v0, rfl, ?_⟩
      refine ⟨fun c14 => ?_, fun c14 => ?_⟩
      · have h := h.1 c14
        exact hp _ _ _ h R hE0
      · have h := h.2 c14
        refine ⟨_, ob_10 R hk_v0, t_X10_thousandth R hk_v0 h (fun r16 Y X h R hE => ?_)⟩
        have hk_v0 := (hE _).trans hk_v0
        have hE0 := fun a => (hE a).trans (hE0 a)
        refine ⟨_, _, ob_10 R hk_v0, rfl, ?_⟩
        refine ⟨_, _, ar_10_12 R hk_v0, h.1, ?_⟩
        have h := h.2
        refine ⟨fun c17 => ?_, fun c17 => ?_⟩
        · have h := h.1 c17
          exact J_93 _ _ _ _ h R hE0 (hk_v0) 
        · have h := h.2 c17
          exact J_93 _ _ _ _ h R hE0 (hk_v0) 
  refine t_X10_isWay R  h (fun r1 h => ?_)
  refine ⟨fun c2 => ?_, fun c2 => ?_⟩
  · have h := h.1 c2
    refine t_X10_isOwed R  h (fun r3 h => ?_)
    refine ⟨fun c4 => ?_, fun c4 => ?_⟩
    · have h := h.1 c4
      exact hp _ _ _ h R hE0
    · have h := h.2 c4
      refine t_X10_isBattery R  h (fun r5 h => ?_)
      refine ⟨fun c6 => ?_, fun c6 => ?_⟩
      · have h := h.1 c6
        exact hp _ _ _ h R hE0
      · have h := h.2 c6
        refine t_X10_in R  h (fun r7 h => ?_)
        refine ⟨fun c8 => ?_, fun c8 => ?_⟩
        · have h := h.1 c8
          refine ⟨_, ob_10 R hk_v0, t_X10_fault R hk_v0 h (fun r9 h => ?_)⟩
          refine ⟨fun c10 => ?_, fun c10 => ?_⟩
          · have h := h.1 c10
            refine ⟨_, ob_10 R hk_v0, t_X10_judgeAll R hk_v0 h (fun Y X h R hE => ?_)⟩
            have hk_v0 := (hE _).trans hk_v0
            have hE0 := fun a => (hE a).trans (hE0 a)
            refine ⟨_, ob_10 R hk_v0, (by decide : 22 < 27), fun X1 e1 => ?_⟩
            have h := h _ rfl
            have R := pu_10_22 R hk_v0 e1
            obtain ⟨n13, h⟩ := h
            exact ⟨n13, J_65 n13 _ _ _ h R hE0 (hk_v0) ⟩
          · have h := h.2 c10
            exact hp _ _ _ h R hE0
        · have h := h.2 c8
          exact hp _ _ _ h R hE0
  · have h := h.2 c2
    exact hp _ _ _ h R hE0
def tk_X10_pass_20 (st : TS) (post : Int32 → TY → Prop) (v0 : Nat) (v1 : Int32)  (Y : TY) (b20_s0 : Int32) : Prop := vp_in (tI Y v0 25) 120 ∧ ∀ Y2 : TY, Y2 = sF Y v0 23 (upd (tA Y v0 23) (tI Y v0 25).toNatClampNeg b20_s0) → ∀ Y3 : TY, Y3 = sI Y2 v0 25 ((tI Y2 v0 25) + (1 : Int32)) → post b20_s0 Y3
def tp_X10_pass (st : TS) (post : Int32 → TY → Prop) (Y : TY) (v0 : Nat) (v1 : Int32) : Prop := ((tI Y v0 26) = 0 → vp_in (tI Y v0 25) 120 ∧ tk_X10_pass_20 st post v0 v1 Y ((tA Y v0 23 (tI Y v0 25).toNatClampNeg))) ∧ (¬ (tI Y v0 26) = 0 → tk_X10_pass_20 st post v0 v1 Y v1)
set_option maxHeartbeats 4000000 in
set_option maxRecDepth 100000 in
theorem t_X10_pass {st : TS} {aa : Nat → Nat → Nat} {Y : TY} {X : Hp} {postT : Int32 → TY → Prop} {post : Int32 → Hp → Prop} {v0 : Nat} {v1 : Int32} (R : Rel st aa Y X) (hk_v0 : tK Y v0 = 10) (h : tp_X10_pass st postT Y v0 v1) (hp : ∀ (r : Int32) (Y' : TY) (X' : Hp), postT r Y' → Rel st aa Y' X' → (∀ a, tK Y' a = tK Y a) → post r X') : wp_X10_pass post X v0 v1 := by
  unfold tp_X10_pass at h
  unfold wp_X10_pass
  have hE0 : ∀ a, tK Y a = tK Y a := fun a => rfl
  obtain ⟨Y0, hY0⟩ : ∃ Z : TY, Z = Y := ⟨_, rfl⟩
  have hE0 : ∀ a, tK Y a = tK Y0 a := by rw [hY0]; exact hE0
  rw [← hY0] at hp
  have J_20 : ∀ (Y : TY) (b20_s0 : Int32), ∀ (X : Hp) (_ : tk_X10_pass_20 st postT v0 v1  Y b20_s0), Rel st aa Y X → (∀ a, tK Y a = tK Y0 a) → tK Y v0 = 10 → bk_X10_pass_20 post v0 v1  X b20_s0 := by
    intro Y b20_s0 X h R hE0 hk_v0 
    unfold tk_X10_pass_20 at h
    unfold bk_X10_pass_20
    refine ⟨_, _, ob_10 R hk_v0, rfl, ?_⟩
    refine ⟨_, _, ob_10 R hk_v0, rfl, ?_⟩
    refine ⟨_, _, ar_10_23 R hk_v0, h.1, fun X1 e1 => ?_⟩
    have h := h.2 _ rfl
    have R := as_10_23 R hk_v0 e1
    refine ⟨_, _, ob_10 R hk_v0, rfl, ?_⟩
    refine ⟨_, ob_10 R hk_v0, (by decide : 25 < 27), fun X1 e1 => ?_⟩
    have h := h _ rfl
    have R := pu_10_25 R hk_v0 e1
    exact hp _ _ _ h R hE0
  refine ⟨_, _, ob_10 R hk_v0, rfl, ?_⟩
  refine ⟨fun c1 => ?_, fun c1 => ?_⟩
  · have h := h.1 c1
    refine ⟨_, _, ob_10 R hk_v0, rfl, ?_⟩
    refine ⟨_, _, ob_10 R hk_v0, rfl, ?_⟩
    refine ⟨_, _, ar_10_23 R hk_v0, h.1, ?_⟩
    have h := h.2
    exact J_20 _ _ _ h R hE0 (hk_v0) 
  · have h := h.2 c1
    exact J_20 _ _ _ h R hE0 (hk_v0) 
def tk_X10_passAll_93 (st : TS) (post : TY → Prop) (v0 : Nat)  : Nat → TY → Int32 → Prop
  | 0, _, _ => False
  | k + 1, Y, b93_1 => ((3 : Int32) ≤ b93_1 → post Y) ∧ (¬ (3 : Int32) ≤ b93_1 → vp_in b93_1 3 ∧ tp_X10_pass st (fun r22 Y21 => vp_in b93_1 3 ∧ ∀ Y23 : TY, Y23 = sF Y21 v0 7 (upd (tA Y21 v0 7) b93_1.toNatClampNeg r22) → vp_in b93_1 3 ∧ tp_X10_pass st (fun r25 Y24 => vp_in b93_1 3 ∧ ∀ Y26 : TY, Y26 = sF Y24 v0 8 (upd (tA Y24 v0 8) b93_1.toNatClampNeg r25) → ∀ x27 : Int32, x27 = b93_1 + (1 : Int32) → (tk_X10_passAll_93 st post v0 k) Y26 x27) Y23 v0 (tA Y23 v0 8 b93_1.toNatClampNeg)) Y v0 (tA Y v0 7 b93_1.toNatClampNeg))
def tk_X10_passAll_64 (st : TS) (post : TY → Prop) (v0 : Nat)  : Nat → TY → Int32 → Prop
  | 0, _, _ => False
  | k + 1, Y, b64_1 => ((2 : Int32) ≤ b64_1 → ∃ n15 : Nat, tk_X10_passAll_93 st post v0 n15 Y (0 : Int32)) ∧ (¬ (2 : Int32) ≤ b64_1 → vp_in b64_1 2 ∧ tp_X10_pass st (fun r17 Y16 => vp_in b64_1 2 ∧ ∀ Y18 : TY, Y18 = sF Y16 v0 3 (upd (tA Y16 v0 3) b64_1.toNatClampNeg r17) → ∀ x19 : Int32, x19 = b64_1 + (1 : Int32) → (tk_X10_passAll_64 st post v0 k) Y18 x19) Y v0 (tA Y v0 3 b64_1.toNatClampNeg))
def tk_X10_passAll_2 (st : TS) (post : TY → Prop) (v0 : Nat)  : Nat → TY → Int32 → Prop
  | 0, _, _ => False
  | k + 1, Y, b2_1 => ((16 : Int32) ≤ b2_1 → ∃ n3 : Nat, tk_X10_passAll_64 st post v0 n3 Y (0 : Int32)) ∧ (¬ (16 : Int32) ≤ b2_1 → vp_in b2_1 16 ∧ tp_X10_pass st (fun r5 Y4 => vp_in b2_1 16 ∧ ∀ Y6 : TY, Y6 = sF Y4 v0 0 (upd (tA Y4 v0 0) b2_1.toNatClampNeg r5) → vp_in b2_1 16 ∧ tp_X10_pass st (fun r8 Y7 => vp_in b2_1 16 ∧ ∀ Y9 : TY, Y9 = sF Y7 v0 1 (upd (tA Y7 v0 1) b2_1.toNatClampNeg r8) → vp_in b2_1 16 ∧ tp_X10_pass st (fun r11 Y10 => vp_in b2_1 16 ∧ ∀ Y12 : TY, Y12 = sF Y10 v0 2 (upd (tA Y10 v0 2) b2_1.toNatClampNeg r11) → ∀ x13 : Int32, x13 = b2_1 + (1 : Int32) → (tk_X10_passAll_2 st post v0 k) Y12 x13) Y9 v0 (tA Y9 v0 2 b2_1.toNatClampNeg)) Y6 v0 (tA Y6 v0 1 b2_1.toNatClampNeg)) Y v0 (tA Y v0 0 b2_1.toNatClampNeg))
def tp_X10_passAll (st : TS) (post : TY → Prop) (Y : TY) (v0 : Nat) : Prop := ∃ n1 : Nat, tk_X10_passAll_2 st post v0 n1 Y (0 : Int32)
set_option maxHeartbeats 4000000 in
set_option maxRecDepth 100000 in
theorem t_X10_passAll {st : TS} {aa : Nat → Nat → Nat} {Y : TY} {X : Hp} {postT : TY → Prop} {post : Hp → Prop} {v0 : Nat} (R : Rel st aa Y X) (hk_v0 : tK Y v0 = 10) (h : tp_X10_passAll st postT Y v0) (hp : ∀ (Y' : TY) (X' : Hp), postT Y' → Rel st aa Y' X' → (∀ a, tK Y' a = tK Y a) → post X') : wp_X10_passAll post X v0 := by
  unfold tp_X10_passAll at h
  unfold wp_X10_passAll
  have hE0 : ∀ a, tK Y a = tK Y a := fun a => rfl
  obtain ⟨Y0, hY0⟩ : ∃ Z : TY, Z = Y := ⟨_, rfl⟩
  have hE0 : ∀ a, tK Y a = tK Y0 a := by rw [hY0]; exact hE0
  rw [← hY0] at hp
  have J_93 : ∀ (n : Nat) (Y : TY) (b93_1 : Int32), ∀ (X : Hp) (_ : tk_X10_passAll_93 st postT v0  n Y b93_1), Rel st aa Y X → (∀ a, tK Y a = tK Y0 a) → tK Y v0 = 10 → bk_X10_passAll_93 post v0  n X b93_1 := by
    intro n
    induction n with
    | zero =>
      intro Y b93_1 X h R hE0 hk_v0 
      rw [tk_X10_passAll_93] at h
      exact h.elim
    | succ n_93 ih_93 =>
      intro Y b93_1 X h R hE0 hk_v0 
      rw [tk_X10_passAll_93] at h
      rw [bk_X10_passAll_93]
      refine ⟨fun c20 => ?_, fun c20 => ?_⟩
      · have h := h.1 c20
        exact hp _ _ h R hE0
      · have h := h.2 c20
        refine ⟨_, _, ob_10 R hk_v0, rfl, ?_⟩
        refine ⟨_, _, ob_10 R hk_v0, rfl, ?_⟩
        refine ⟨_, _, ar_10_7 R hk_v0, h.1, ?_⟩
        have h := h.2
        refine ⟨_, ob_10 R hk_v0, t_X10_pass R hk_v0 h (fun r22 Y X h R hE => ?_)⟩
        have hk_v0 := (hE _).trans hk_v0
        have hE0 := fun a => (hE a).trans (hE0 a)
        refine ⟨_, _, ar_10_7 R hk_v0, h.1, fun X1 e1 => ?_⟩
        have h := h.2 _ rfl
        have R := as_10_7 R hk_v0 e1
        refine ⟨_, _, ob_10 R hk_v0, rfl, ?_⟩
        refine ⟨_, _, ob_10 R hk_v0, rfl, ?_⟩
        refine ⟨_, _, ar_10_8 R hk_v0, h.1, ?_⟩
        have h := h.2
        refine ⟨_, ob_10 R hk_v0, t_X10_pass R hk_v0 h (fun r25 Y X h R hE => ?_)⟩
        have hk_v0 := (hE _).trans hk_v0
        have hE0 := fun a => (hE a).trans (hE0 a)
        refine ⟨_, _, ar_10_8 R hk_v0, h.1, fun X1 e1 => ?_⟩
        have h := h.2 _ rfl
        have R := as_10_8 R hk_v0 e1
        intro x27 ex27
        have h := h x27 ex27
        exact ih_93 _ _ _ h R hE0 (hk_v0) 
  have J_64 : ∀ (n : Nat) (Y : TY) (b64_1 : Int32), ∀ (X : Hp) (_ : tk_X10_passAll_64 st postT v0  n Y b64_1), Rel st aa Y X → (∀ a, tK Y a = tK Y0 a) → tK Y v0 = 10 → bk_X10_passAll_64 post v0  n X b64_1 := by
    intro n
    induction n with
    | zero =>
      intro Y b64_1 X h R hE0 hk_v0 
      rw [tk_X10_passAll_64] at h
      exact h.elim
    | succ n_64 ih_64 =>
      intro Y b64_1 X h R hE0 hk_v0 
      rw [tk_X10_passAll_64] at h
      rw [bk_X10_passAll_64]
      refine ⟨fun c14 => ?_, fun c14 => ?_⟩
      · have h := h.1 c14
        obtain ⟨n15, h⟩ := h
        exact ⟨n15, J_93 n15 _ _ _ h R hE0 (hk_v0) ⟩
      · have h := h.2 c14
        refine ⟨_, _, ob_10 R hk_v0, rfl, ?_⟩
        refine ⟨_, _, ob_10 R hk_v0, rfl, ?_⟩
        refine ⟨_, _, ar_10_3 R hk_v0, h.1, ?_⟩
        have h := h.2
        refine ⟨_, ob_10 R hk_v0, t_X10_pass R hk_v0 h (fun r17 Y X h R hE => ?_)⟩
        have hk_v0 := (hE _).trans hk_v0
        have hE0 := fun a => (hE a).trans (hE0 a)
        refine ⟨_, _, ar_10_3 R hk_v0, h.1, fun X1 e1 => ?_⟩
        have h := h.2 _ rfl
        have R := as_10_3 R hk_v0 e1
        intro x19 ex19
        have h := h x19 ex19
        exact ih_64 _ _ _ h R hE0 (hk_v0) 
  have J_2 : ∀ (n : Nat) (Y : TY) (b2_1 : Int32), ∀ (X : Hp) (_ : tk_X10_passAll_2 st postT v0  n Y b2_1), Rel st aa Y X → (∀ a, tK Y a = tK Y0 a) → tK Y v0 = 10 → bk_X10_passAll_2 post v0  n X b2_1 := by
    intro n
    induction n with
    | zero =>
      intro Y b2_1 X h R hE0 hk_v0 
      rw [tk_X10_passAll_2] at h
      exact h.elim
    | succ n_2 ih_2 =>
      intro Y b2_1 X h R hE0 hk_v0 
      rw [tk_X10_passAll_2] at h
      rw [bk_X10_passAll_2]
      refine ⟨fun c2 => ?_, fun c2 => ?_⟩
      · have h := h.1 c2
        obtain ⟨n3, h⟩ := h
        exact ⟨n3, J_64 n3 _ _ _ h R hE0 (hk_v0) ⟩
      · have h := h.2 c2
        refine ⟨_, _, ob_10 R hk_v0, rfl, ?_⟩
        refine ⟨_, _, ob_10 R hk_v0, rfl, ?_⟩
        refine ⟨_, _, ar_10_0 R hk_v0, h.1, ?_⟩
        have h := h.2
        refine ⟨_, ob_10 R hk_v0, t_X10_pass R hk_v0 h (fun r5 Y X h R hE => ?_)⟩
        have hk_v0 := (hE _).trans hk_v0
        have hE0 := fun a => (hE a).trans (hE0 a)
        refine ⟨_, _, ar_10_0 R hk_v0, h.1, fun X1 e1 => ?_⟩
        have h := h.2 _ rfl
        have R := as_10_0 R hk_v0 e1
        refine ⟨_, _, ob_10 R hk_v0, rfl, ?_⟩
        refine ⟨_, _, ob_10 R hk_v0, rfl, ?_⟩
        refine ⟨_, _, ar_10_1 R hk_v0, h.1, ?_⟩
        have h := h.2
        refine ⟨_, ob_10 R hk_v0, t_X10_pass R hk_v0 h (fun r8 Y X h R hE => ?_)⟩
        have hk_v0 := (hE _).trans hk_v0
        have hE0 := fun a => (hE a).trans (hE0 a)
        refine ⟨_, _, ar_10_1 R hk_v0, h.1, fun X1 e1 => ?_⟩
        have h := h.2 _ rfl
        have R := as_10_1 R hk_v0 e1
        refine ⟨_, _, ob_10 R hk_v0, rfl, ?_⟩
        refine ⟨_, _, ob_10 R hk_v0, rfl, ?_⟩
        refine ⟨_, _, ar_10_2 R hk_v0, h.1, ?_⟩
        have h := h.2
        refine ⟨_, ob_10 R hk_v0, t_X10_pass R hk_v0 h (fun r11 Y X h R hE => ?_)⟩
        have hk_v0 := (hE _).trans hk_v0
        have hE0 := fun a => (hE a).trans (hE0 a)
        refine ⟨_, _, ar_10_2 R hk_v0, h.1, fun X1 e1 => ?_⟩
        have h := h.2 _ rfl
        have R := as_10_2 R hk_v0 e1
        intro x13 ex13
        have h := h x13 ex13
        exact ih_2 _ _ _ h R hE0 (hk_v0) 
  obtain ⟨n1, h⟩ := h
  exact ⟨n1, J_2 n1 _ _ _ h R hE0 (hk_v0) ⟩
def tp_X10_image (st : TS) (post : Int32 → TY → Prop) (Y : TY) (v0 : Nat) (v1 : Int32) : Prop := tp_X10_isEnd st (fun r1 => (¬ r1 = 0 → ∀ Y3 : TY, Y3 = sI Y v0 25 ((60 : Int32) * v1) → ∀ Y4 : TY, Y4 = sI Y3 v0 26 (1 : Int32) → tp_X10_passAll st (fun Y5 => vp_in v1 2 ∧ ∀ Y6 : TY, Y6 = sF Y5 v0 24 (upd (tA Y5 v0 24) v1.toNatClampNeg (vp_nar .boolean (1 : Int32))) → post (1 : Int32) Y6) Y4 v0) ∧ (r1 = 0 → post (-2 : Int32) Y)) Y v1
set_option maxHeartbeats 4000000 in
set_option maxRecDepth 100000 in
theorem t_X10_image {st : TS} {aa : Nat → Nat → Nat} {Y : TY} {X : Hp} {postT : Int32 → TY → Prop} {post : Int32 → Hp → Prop} {v0 : Nat} {v1 : Int32} (R : Rel st aa Y X) (hk_v0 : tK Y v0 = 10) (h : tp_X10_image st postT Y v0 v1) (hp : ∀ (r : Int32) (Y' : TY) (X' : Hp), postT r Y' → Rel st aa Y' X' → (∀ a, tK Y' a = tK Y a) → post r X') : wp_X10_image post X v0 v1 := by
  unfold tp_X10_image at h
  unfold wp_X10_image
  have hE0 : ∀ a, tK Y a = tK Y a := fun a => rfl
  obtain ⟨Y0, hY0⟩ : ∃ Z : TY, Z = Y := ⟨_, rfl⟩
  have hE0 : ∀ a, tK Y a = tK Y0 a := by rw [hY0]; exact hE0
  rw [← hY0] at hp
  refine t_X10_isEnd R  h (fun r1 h => ?_)
  refine ⟨fun c2 => ?_, fun c2 => ?_⟩
  · have h := h.1 c2
    refine ⟨_, ob_10 R hk_v0, (by decide : 25 < 27), fun X1 e1 => ?_⟩
    have h := h _ rfl
    have R := pu_10_25 R hk_v0 e1
    refine ⟨_, ob_10 R hk_v0, (by decide : 26 < 27), fun X1 e1 => ?_⟩
    have h := h _ rfl
    have R := pu_10_26 R hk_v0 e1
    refine ⟨_, ob_10 R hk_v0, t_X10_passAll R hk_v0 h (fun Y X h R hE => ?_)⟩
    have hk_v0 := (hE _).trans hk_v0
    have hE0 := fun a => (hE a).trans (hE0 a)
    refine ⟨_, _, ob_10 R hk_v0, rfl, ?_⟩
    refine ⟨_, _, ar_10_24 R hk_v0, h.1, fun X1 e1 => ?_⟩
    have h := h.2 _ rfl
    have R := as_10_24 R hk_v0 e1
    exact hp _ _ _ h R hE0
  · have h := h.2 c2
    exact hp _ _ _ h R hE0
def tp_X10_restore (st : TS) (post : Int32 → TY → Prop) (Y : TY) (v0 : Nat) (v1 : Int32) : Prop := tp_X10_isEnd st (fun r1 => (¬ r1 = 0 → vp_in v1 2 ∧ (¬ (tA Y v0 24 v1.toNatClampNeg) = 0 → ∀ Y4 : TY, Y4 = sI Y v0 25 ((60 : Int32) * v1) → ∀ Y5 : TY, Y5 = sI Y4 v0 26 (0 : Int32) → tp_X10_passAll st (fun Y6 => tp_X10_layHours st (fun Y7 => tp_X10_layHours st (fun Y8 => post (1 : Int32) Y8) Y7 v0 (1 : Int32)) Y6 v0 (0 : Int32)) Y5 v0) ∧ ((tA Y v0 24 v1.toNatClampNeg) = 0 → post (-3 : Int32) Y)) ∧ (r1 = 0 → post (-2 : Int32) Y)) Y v1
set_option maxHeartbeats 4000000 in
set_option maxRecDepth 100000 in
theorem t_X10_restore {st : TS} {aa : Nat → Nat → Nat} {Y : TY} {X : Hp} {postT : Int32 → TY → Prop} {post : Int32 → Hp → Prop} {v0 : Nat} {v1 : Int32} (R : Rel st aa Y X) (hk_v0 : tK Y v0 = 10) (h : tp_X10_restore st postT Y v0 v1) (hp : ∀ (r : Int32) (Y' : TY) (X' : Hp), postT r Y' → Rel st aa Y' X' → (∀ a, tK Y' a = tK Y a) → post r X') : wp_X10_restore post X v0 v1 := by
  unfold tp_X10_restore at h
  unfold wp_X10_restore
  have hE0 : ∀ a, tK Y a = tK Y a := fun a => rfl
  obtain ⟨Y0, hY0⟩ : ∃ Z : TY, Z = Y := ⟨_, rfl⟩
  have hE0 : ∀ a, tK Y a = tK Y0 a := by rw [hY0]; exact hE0
  rw [← hY0] at hp
  refine t_X10_isEnd R  h (fun r1 h => ?_)
  refine ⟨fun c2 => ?_, fun c2 => ?_⟩
  · have h := h.1 c2
    refine ⟨_, _, ob_10 R hk_v0, rfl, ?_⟩
    refine ⟨_, _, ar_10_24 R hk_v0, h.1, ?_⟩
    have h := h.2
    refine ⟨fun c3 => ?_, fun c3 => ?_⟩
    · have h := h.1 c3
      refine ⟨_, ob_10 R hk_v0, (by decide : 25 < 27), fun X1 e1 => ?_⟩
      have h := h _ rfl
      have R := pu_10_25 R hk_v0 e1
      refine ⟨_, ob_10 R hk_v0, (by decide : 26 < 27), fun X1 e1 => ?_⟩
      have h := h _ rfl
      have R := pu_10_26 R hk_v0 e1
      refine ⟨_, ob_10 R hk_v0, t_X10_passAll R hk_v0 h (fun Y X h R hE => ?_)⟩
      have hk_v0 := (hE _).trans hk_v0
      have hE0 := fun a => (hE a).trans (hE0 a)
      refine ⟨_, ob_10 R hk_v0, t_X10_layHours R hk_v0 h (fun Y X h R hE => ?_)⟩
      have hk_v0 := (hE _).trans hk_v0
      have hE0 := fun a => (hE a).trans (hE0 a)
      refine ⟨_, ob_10 R hk_v0, t_X10_layHours R hk_v0 h (fun Y X h R hE => ?_)⟩
      have hk_v0 := (hE _).trans hk_v0
      have hE0 := fun a => (hE a).trans (hE0 a)
      exact hp _ _ _ h R hE0
    · have h := h.2 c3
      exact hp _ _ _ h R hE0
  · have h := h.2 c2
    exact hp _ _ _ h R hE0
def tp_X10_told (st : TS) (post : Int32 → Prop) (Y : TY) (v0 : Nat) (v1 : Int32) : Prop := tp_X10_in st (fun r1 => (r1 = 0 → tp_X10_in st (fun r3 => (r3 = 0 → tp_X10_in st (fun r5 => (r5 = 0 → tp_X10_in st (fun r7 => (r7 = 0 → (¬ v1 = 0 → post (-2 : Int32)) ∧ (v1 = 0 → post (tI Y v0 10))) ∧ (¬ r7 = 0 → vp_in (v1 - (8 : Int32)) 3 ∧ post (tA Y v0 8 (v1 - (8 : Int32)).toNatClampNeg))) Y (v1.toInt64) (8 : Int64) (10 : Int64)) ∧ (¬ r5 = 0 → vp_in (v1 - (5 : Int32)) 3 ∧ post (tA Y v0 7 (v1 - (5 : Int32)).toNatClampNeg))) Y (v1.toInt64) (5 : Int64) (7 : Int64)) ∧ (¬ r3 = 0 → vp_in (v1 - (3 : Int32)) 2 ∧ post (tA Y v0 4 (v1 - (3 : Int32)).toNatClampNeg))) Y (v1.toInt64) (3 : Int64) (4 : Int64)) ∧ (¬ r1 = 0 → vp_in (v1 - (1 : Int32)) 2 ∧ post (tA Y v0 3 (v1 - (1 : Int32)).toNatClampNeg))) Y (v1.toInt64) (1 : Int64) (2 : Int64)
set_option maxHeartbeats 4000000 in
set_option maxRecDepth 100000 in
theorem t_X10_told {st : TS} {aa : Nat → Nat → Nat} {Y : TY} {X : Hp} {postT : Int32 → Prop} {post : Int32 → Prop} {v0 : Nat} {v1 : Int32} (R : Rel st aa Y X) (hk_v0 : tK Y v0 = 10) (h : tp_X10_told st postT Y v0 v1) (hp : ∀ (r : Int32) , postT r → post r ) : wp_X10_told post X v0 v1 := by
  unfold tp_X10_told at h
  unfold wp_X10_told
  refine t_X10_in R  h (fun r1 h => ?_)
  refine ⟨fun c2 => ?_, fun c2 => ?_⟩
  · have h := h.1 c2
    refine t_X10_in R  h (fun r3 h => ?_)
    refine ⟨fun c4 => ?_, fun c4 => ?_⟩
    · have h := h.1 c4
      refine t_X10_in R  h (fun r5 h => ?_)
      refine ⟨fun c6 => ?_, fun c6 => ?_⟩
      · have h := h.1 c6
        refine t_X10_in R  h (fun r7 h => ?_)
        refine ⟨fun c8 => ?_, fun c8 => ?_⟩
        · have h := h.1 c8
          refine ⟨fun c9 => ?_, fun c9 => ?_⟩
          · have h := h.1 c9
            exact hp _ h
          · have h := h.2 c9
            refine ⟨_, _, ob_10 R hk_v0, rfl, ?_⟩
            exact hp _ h
        · have h := h.2 c8
          refine ⟨_, _, ob_10 R hk_v0, rfl, ?_⟩
          refine ⟨_, _, ar_10_8 R hk_v0, h.1, ?_⟩
          have h := h.2
          exact hp _ h
      · have h := h.2 c6
        refine ⟨_, _, ob_10 R hk_v0, rfl, ?_⟩
        refine ⟨_, _, ar_10_7 R hk_v0, h.1, ?_⟩
        have h := h.2
        exact hp _ h
    · have h := h.2 c4
      refine ⟨_, _, ob_10 R hk_v0, rfl, ?_⟩
      refine ⟨_, _, ar_10_4 R hk_v0, h.1, ?_⟩
      have h := h.2
      exact hp _ h
  · have h := h.2 c2
    refine ⟨_, _, ob_10 R hk_v0, rfl, ?_⟩
    refine ⟨_, _, ar_10_3 R hk_v0, h.1, ?_⟩
    have h := h.2
    exact hp _ h
