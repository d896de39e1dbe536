def tp_X4_spendable (st : TS) (post : Int32 → Prop) (Y : TY) (v0 : Nat) (v1 : Int32) (v2 : Int32) (v3 : Int32) : Prop := ∀ x2 : Int32, x2 = (((tI Y (st.1 v0 0) 1) - v1) + v3) → (x2 ≤ v2 → post x2) ∧ (¬ x2 ≤ v2 → post v2)
set_option maxHeartbeats 4000000 in
set_option maxRecDepth 100000 in
theorem t_X4_spendable {st : TS} {aa : Nat → Nat → Nat} {Y : TY} {X : Hp} {postT : Int32 → Prop} {post : Int32 → Prop} {v0 : Nat} {v1 : Int32} {v2 : Int32} {v3 : Int32} (R : Rel st aa Y X) (hk_v0 : tK Y v0 = 4) (h : tp_X4_spendable st postT Y v0 v1 v2 v3) (hp : ∀ (r : Int32) , postT r → post r ) : wp_X4_spendable post X v0 v1 v2 v3 := by
  unfold tp_X4_spendable at h
  unfold wp_X4_spendable
  refine ⟨_, _, ob_4 R hk_v0, rfl, ?_⟩
  have k1 := wf_4_0 R hk_v0
  refine ⟨_, _, ob_8 R k1, rfl, ?_⟩
  intro x2 ex2
  have h := h x2 ex2
  refine ⟨fun c3 => ?_, fun c3 => ?_⟩
  · have h := h.1 c3
    exact hp _ h
  · have h := h.2 c3
    exact hp _ h
