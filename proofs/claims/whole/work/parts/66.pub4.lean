section P6
variable {st : TS} {A : Nat → Nat} {Y Y' : TY} {G : GD}
theorem ft_neg {sg : Nat → Nat} : ∀ {j k w : Nat}, k + j ≤ 60 → (ftF sg j k w < 0 ↔ ftF sg j k w = -6)
  | 0, k, w, h => by
    unfold ftF
    by_cases c : w = 0
    · rw [if_pos c]
      exact ⟨fun _ => rfl, fun _ => by decide⟩
    · rw [if_neg c]
      constructor
      · intro q
        rw [show (0 : Int32) = nI 0 from rfl, nI_ltI (by omega) (by omega)] at q
        omega
      · intro q
        rw [q]
        decide
  | j + 1, k, w, h => by
    unfold ftF
    by_cases c : wtN w (sg k) = 3
    · rw [if_pos c]
      constructor
      · intro q
        rw [show (0 : Int32) = nI 0 from rfl, nI_ltI (by omega) (by omega)] at q
        omega
      · intro q
        rw [q]
        decide
    · rw [if_neg c]
      exact ft_neg (by omega)
theorem boN (hS : SA st A) (ox : OX (boD st (A 17)) Y Y') : OX (nm A (fun i => i = 17 ∨ i = 18)) Y Y' := ox.mono (fun b e => by
  unfold boD at e
  rw [hS.2.2.2.2.2.2.1] at e
  rcases e with e | e
  · exact ⟨17, by omega, Or.inl rfl, e⟩
  · exact ⟨18, by omega, Or.inr rfl, e⟩)
theorem trN (hS : SA st A) (ox : OX (· = st.1 (A 17) 1) Y Y') : OX (nm A (fun i => i = 17 ∨ i = 18)) Y Y' := ox.mono (fun b e => by
  have e : b = st.1 (A 17) 1 := e
  rw [hS.2.2.2.2.2.2.1] at e
  exact ⟨18, by omega, Or.inr rfl, e⟩)
theorem k_setOut {post : TY → Prop} {w o c : Nat} (hS : SA st A) (hC : Cl A Y G) (hw : w < 2) (hp : ∀ Y', OX (boD st (A 17)) Y Y' → BoP st Y' (A 17) (A (4 + w)) (G.1 w) G.2.1 (0, o, c, T0) → Cl A Y' G → CS A 0 Y Y' → post Y') : tp_X0_setOut st post Y (A 17) (A (4 + w)) (nI o) (nI c) := by
  have k := hC.1.1
  have k8 : tK Y (A (4 + w)) = 8 := by
    rw [k (4 + w) (by omega)]
    unfold kd
    (repeat' split) <;> omega
  refine c_setOut (k 17 (by omega)) (by rw [hS.2.2.2.2.2.1]; exact k 10 (by omega)) (by rw [hS.2.2.2.2.2.2.1]; exact k 18 (by omega)) k8 (hC.1.2.1 w hw) (by rw [hS.2.2.2.2.2.1]; exact hC.1.2.2.1) (fun Y' ox B => ?_)
  exact hp Y' ox B (hC.boat hS (boN hS ox)) ((boN hS ox).cs hS (by omega))
def jdV (R : Int32 × QD) (v : Int32) : Int32 := if v = 0 then R.1 else if v = 1 then nI R.2.2.2.2.1 else if v = 2 then nI R.2.2.1 else if v = 3 then nI (sfF R.2.2.2.2 R.2.2.2.2.1 1000000) else if v = 4 then opI (rkF (rT R.2.2.2.2) R.2.2.2.2.1) else if v = 5 then nI R.2.1 else nI R.2.2.2.1
theorem jdV_at {post : Int32 → Prop} {R : Int32 × QD} {v : Int32} (hp : post (jdV R v)) : (v = 0 → post R.1) ∧ (v = 1 → post (nI R.2.2.2.2.1)) ∧ (v = 2 → post (nI R.2.2.1)) ∧ (v = 3 → post (nI (sfF R.2.2.2.2 R.2.2.2.2.1 1000000))) ∧ (v = 4 → post (opI (rkF (rT R.2.2.2.2) R.2.2.2.2.1))) ∧ (v = 5 → post (nI R.2.1)) ∧ (¬ v = 0 ∧ ¬ v = 1 ∧ ¬ v = 2 ∧ ¬ v = 3 ∧ ¬ v = 4 ∧ ¬ v = 5 → post (nI R.2.2.2.1)) := by
  unfold jdV at hp
  refine ⟨fun q => ?_, fun q => ?_, fun q => ?_, fun q => ?_, fun q => ?_, fun q => ?_, fun q => ?_⟩
  · rw [if_pos q] at hp
    exact hp
  · subst q
    rw [if_neg (by decide), if_pos rfl] at hp
    exact hp
  · subst q
    rw [if_neg (by decide), if_neg (by decide), if_pos rfl] at hp
    exact hp
  · subst q
    rw [if_neg (by decide), if_neg (by decide), if_neg (by decide), if_pos rfl] at hp
    exact hp
  · subst q
    rw [if_neg (by decide), if_neg (by decide), if_neg (by decide), if_neg (by decide), if_pos rfl] at hp
    exact hp
  · subst q
    rw [if_neg (by decide), if_neg (by decide), if_neg (by decide), if_neg (by decide), if_neg (by decide), if_pos rfl] at hp
    exact hp
  · obtain ⟨q0, q1, q2, q3, q4, q5⟩ := q
    rw [if_neg q0, if_neg q1, if_neg q2, if_neg q3, if_neg q4, if_neg q5] at hp
    exact hp
def slG (G : GD) (w o b : Nat) : Int32 × QD := slF (G.1 w) G.2.1 G.2.2.2.2.2.2 G.2.2.2.2.2.1 0 0 0 (0, o, b, T0)
def sJudge (G : GD) (v1 v2 v3 v4 : Int32) : Int32 := cond (inB 0 1 v1) (cond (inB 0 20 v2 && inB 0 24 v3 && inB 0 6 v4) (if sFault G = -6 then jdV (slG G (cN v1) (cN v2) (cN v3)) v4 else -5) (-2)) (-1)
/-- the boat sails by the pad -/
theorem k_sail {post : Int32 → TY → Prop} {w o b : Nat} (hS : SA st A) (hC : Cl A Y G) (hw : w < 2) (ho : o ≤ 20) (hb : b ≤ 24) (hf : sFault G = -6) (hp : ∀ Y', BoP st Y' (A 17) (A (4 + w)) (G.1 w) G.2.1 (slG G w o b).2 → Cl A Y' G → CS A 0 Y Y' → post (slG G w o b).1 Y') : tp_X0_setOut st (fun Y14 => tp_X0_sailBy st post Y14 (A 17) (A 16)) Y (A 17) (A (4 + w)) (nI o) (nI b) := by
  refine k_setOut hS hC hw (fun Y1 ox1 B1 C1 s1 => ?_)
  refine c_sailBy B1 ⟨Nat.zero_le _, ho, hb⟩ rfl C1.1.2.2.2.2.2 (C1.1.1 16 (by omega)) hf (fun Y2 ox2 B2 => ?_)
  exact hp Y2 B2 (C1.boat hS (boN hS ox2)) (by have := s1.trans ((boN hS ox2).cs hS (by omega)); exact this)
theorem k_judge {post : Int32 → TY → Prop} {v1 v2 v3 v4 : Int32} (hS : SA st A) (hC : Cl A Y G) (hp : ∀ Y', Cl A Y' G → CS A 0 Y Y' → post (sJudge G v1 v2 v3 v4) Y') : tp_X9_judge st post Y (A 0) v1 v2 v3 v4 := by
  have st' := CS.refl A Y
  unfold tp_X9_judge
  unfold sJudge at hp
  refine k_wayOf hS (fun c => ⟨fun _ => ?_, fun y hy => by cases hy⟩) (fun w hw e c => ⟨fun q => (by cases q), fun y hy => ?_⟩)
  · rw [c] at hp
    exact hp Y hC st'
  cases hy
  subst e
  rw [c, cN_nI (by omega)] at hp
  rw [hS.2.2.1, hS.2.2.2.1]
  refine q_cOwed (bI_el' (fun c2 => ?_) (fun c2 => q_cBattery (bI_el' (fun c3 => ?_) (fun c3 => q_within 0 6 (bI_el (fun c4 => ?_) (fun c4 => ?_))))))
  · rw [c2] at hp
    exact hp Y hC st'
  · rw [c2, c3] at hp
    exact hp Y hC st'
  · obtain ⟨o, o1, o2, rfl⟩ := rgN (by omega) (by omega) c2
    obtain ⟨b, b1, b2, rfl⟩ := rgN (by omega) (by omega) c3
    rw [c2, c3, c4, cN_nI (by omega), cN_nI (by omega)] at hp
    have hp : ∀ Y', Cl A Y' G → CS A 0 Y Y' → post (if sFault G = -6 then jdV (slG G w o b) v4 else -5) Y' := hp
    refine c_fault hC.1.2.2.2.2.2 ⟨fun hf => ?_, fun hf => ?_⟩
    · have hf : sFault G = -6 := hf
      rw [if_pos hf] at hp
      refine k_sail hS hC hw o2 b2 hf (fun Y' B C s => ?_)
      have hp := hp Y' C s
      obtain ⟨p0, p1, p2, p3, p4, p5, p6⟩ := jdV_at (post := fun r => post r Y') hp
      obtain ⟨k1, k2, k3, k4, w1, w2, w3, w4, i3, i4, i5⟩ := B
      rw [i3, i4, i5, w4.2.2.1]
      exact ⟨p0, p1, p2, fun q => c_safe w4 (p3 q), fun q => c_riskiest w4 (p4 q), p5, p6⟩
    · have hf : ¬ sFault G = -6 := hf
      rw [if_neg hf] at hp
      exact hp Y hC st'
  · rw [c2, c3, c4] at hp
    exact hp Y hC st'
theorem sl_T {W : WD} {N : ND} {sg : Nat → Nat} : ∀ (j i th be : Nat) (Q : QD), (slF W N sg j i th be Q).2.2.2.2.1 ≤ Q.2.2.2.1 + 2 * j
  | 0, _, _, _, Q => Nat.le_add_right _ _
  | j + 1, i, th, be, Q => by
    unfold slF
    split
    · have := sl_T (W := W) (N := N) (sg := sg) j (i + 1) th (if sg i = 33 then 1 else 0) Q
      omega
    · split
      · have h := sl_T (W := W) (N := N) (sg := sg) j (i + 1) (th + 1) (if sg i = 33 then 1 else 0) (ddQ W N Q (thN (sg i)) be)
        have e : (ddQ W N Q (thN (sg i)) be).2.2.2.1 = Q.2.2.2.1 + (if thN (sg i) = 3 then 2 else 1) := ddT_1 W N Q _ _
        rw [e] at h
        have l2 : (if thN (sg i) = 3 then 2 else 1) ≤ 2 := by split <;> omega
        omega
      · show Q.2.2.2.1 ≤ _
        omega
theorem slG_T (G : GD) (w o b : Nat) (h : G.2.2.2.2.2.1 ≤ 60) : (slG G w o b).2.2.2.2.1 ≤ 120 := by
  have := sl_T (W := G.1 w) (N := G.2.1) (sg := G.2.2.2.2.2.2) G.2.2.2.2.2.1 0 0 0 (0, o, b, T0)
  have e : (0, o, b, T0).2.2.2.1 = 0 := rfl
  rw [e] at this
  show (slF (G.1 w) G.2.1 G.2.2.2.2.2.2 G.2.2.2.2.2.1 0 0 0 (0, o, b, T0)).2.2.2.2.1 ≤ 120
  omega
theorem j_judge {post : Int32 → TY → Prop} {v1 v2 v3 v4 : Int32} (hM : Mo (A 19) Y G) (hp : ∀ Y', Mo (A 19) Y' G → MS A Y Y' → post (sJudge G v1 v2 v3 v4) Y') : tp_X10_judge st post Y (A 19) v1 v2 v3 v4 := by
  have st' := MS.refl A Y
  unfold tp_X10_judge
  unfold sJudge at hp
  refine q_isWay (bI_el (fun c => ?_) (fun c => ?_))
  rotate_left
  · rw [c] at hp
    exact hp Y hM st'
  obtain ⟨w, w1, w2, rfl⟩ := rgN (by omega) (by omega) c
  obtain ⟨a1, a2, a3⟩ := hM.1 w (by omega)
  rw [c, cN_nI (by omega)] at hp
  refine q_isOwed (bI_el' (fun c2 => ?_) (fun c2 => q_isBattery (bI_el' (fun c3 => ?_) (fun c3 => q_in 0 6 (bI_el (fun c4 => ?_) (fun c4 => ?_))))))
  · rw [c2] at hp
    exact hp Y hM st'
  · rw [c2, c3] at hp
    exact hp Y hM st'
  · obtain ⟨o, o1, o2, rfl⟩ := rgN (by omega) (by omega) c2
    obtain ⟨b, b1, b2, rfl⟩ := rgN (by omega) (by omega) c3
    rw [c2, c3, c4, cN_nI (by omega), cN_nI (by omega)] at hp
    have hp : ∀ Y', Mo (A 19) Y' G → MS A Y Y' → post (if sFault G = -6 then jdV (slG G w o b) v4 else -5) Y' := hp
    refine m_fault hM.2.2.2.1 ?_
    have hP := hM.2.2.2.1
    have en : (ftF G.2.2.2.2.2.2 G.2.2.2.2.2.1 0 0 < 0) = (sFault G = -6) := propext (ft_neg (by have := hP.1; omega))
    rw [en]
    refine ⟨fun hf => ?_, fun hf => ?_⟩
    · rw [if_pos hf] at hp
      refine m_judgeAll a1 a2 hM.2.1 hM.2.2.1 (by omega) hP hf o2 b2 (fun Y' mx mq j15 => ?_)
      have hp := hp Y' (hM.mx mx (fun t q => by unfold scJ at q; omega)) mx.ms
      obtain ⟨p0, p1, p2, p3, p4, p5, p6⟩ := jdV_at (post := fun r => post r Y') hp
      obtain ⟨t1, t2, t3, t4⟩ := mq
      have hT := slG_T G w o b hP.1
      rw [j15, t1.2.1, t3, t2, t4]
      exact ⟨p0, p1, p2, fun q => m_safe t1 (by have := hT; unfold slG at this; omega) (p3 q), fun q => m_mostRisk t1 (by have := hT; unfold slG at this; omega) (p4 q), p5, p6⟩
    · rw [if_neg hf] at hp
      exact hp Y hM st'
  · rw [c2, c3, c4] at hp
    exact hp Y hM st'
-- draw
def sDraw (G : GD) (v1 v2 v3 v4 : Int32) : Int32 := cond (inB 0 1 v1) (cond (inB 0 20 v2 && inB 0 24 v3 && inB 0 9999 v4) (if sFault G = -6 then dwF (slG G (cN v1) (cN v2) (cN v3)).2.2.2.2 (slG G (cN v1) (cN v2) (cN v3)).2.2.2.2.1 0 (cN v4) else -5) (-2)) (-1)
theorem k_draw {post : Int32 → TY → Prop} {v1 v2 v3 v4 : Int32} (hS : SA st A) (hC : Cl A Y G) (hp : ∀ Y', Cl A Y' G → CS A 0 Y Y' → post (sDraw G v1 v2 v3 v4) Y') : tp_X9_draw st post Y (A 0) v1 v2 v3 v4 := by
  have st' := CS.refl A Y
  unfold tp_X9_draw
  unfold sDraw at hp
  refine k_wayOf hS (fun c => ⟨fun _ => ?_, fun y hy => by cases hy⟩) (fun w hw e c => ⟨fun q => (by cases q), fun y hy => ?_⟩)
  · rw [c] at hp
    exact hp Y hC st'
  cases hy
  subst e
  rw [c, cN_nI (by omega)] at hp
  rw [hS.2.2.1, hS.2.2.2.1]
  refine q_cOwed (bI_el' (fun c2 => ?_) (fun c2 => q_cBattery (bI_el' (fun c3 => ?_) (fun c3 => q_within 0 9999 (bI_el (fun c4 => ?_) (fun c4 => ?_))))))
  · rw [c2] at hp
    exact hp Y hC st'
  · rw [c2, c3] at hp
    exact hp Y hC st'
  · obtain ⟨o, o1, o2, rfl⟩ := rgN (by omega) (by omega) c2
    obtain ⟨b, b1, b2, rfl⟩ := rgN (by omega) (by omega) c3
    obtain ⟨s, s1, s2, rfl⟩ := rgN (by omega) (by omega) c4
    rw [c2, c3, c4, cN_nI (by omega), cN_nI (by omega), cN_nI (by omega)] at hp
    have hp : ∀ Y', Cl A Y' G → CS A 0 Y Y' → post (if sFault G = -6 then dwF (slG G w o b).2.2.2.2 (slG G w o b).2.2.2.2.1 0 s else -5) Y' := hp
    refine c_fault hC.1.2.2.2.2.2 ⟨fun hf => ?_, fun hf => ?_⟩
    · have hf : sFault G = -6 := hf
      rw [if_pos hf] at hp
      refine k_sail hS hC hw o2 b2 hf (fun Y' B C s => ?_)
      exact c_struckBy B.2.2.2.2.2.2.2.1 (by omega) (hp Y' C s)
    · have hf : ¬ sFault G = -6 := hf
      rw [if_neg hf] at hp
      exact hp Y hC st'
  · rw [c2, c3, c4] at hp
    exact hp Y hC st'
theorem j_draw {post : Int32 → TY → Prop} {v1 v2 v3 v4 : Int32} (hM : Mo (A 19) Y G) (hp : ∀ Y', Mo (A 19) Y' G → MS A Y Y' → post (sDraw G v1 v2 v3 v4) Y') : tp_X10_draw st post Y (A 19) v1 v2 v3 v4 := by
  have st' := MS.refl A Y
  unfold tp_X10_draw
  unfold sDraw at hp
  refine q_isWay (bI_el (fun c => ?_) (fun c => ?_))
  rotate_left
  · rw [c] at hp
    exact hp Y hM st'
  obtain ⟨w, w1, w2, rfl⟩ := rgN (by omega) (by omega) c
  obtain ⟨a1, a2, a3⟩ := hM.1 w (by omega)
  rw [c, cN_nI (by omega)] at hp
  refine q_isOwed (bI_el' (fun c2 => ?_) (fun c2 => q_isBattery (bI_el' (fun c3 => ?_) (fun c3 => q_in 0 9999 (bI_el (fun c4 => ?_) (fun c4 => ?_))))))
  · rw [c2] at hp
    exact hp Y hM st'
  · rw [c2, c3] at hp
    exact hp Y hM st'
  · obtain ⟨o, o1, o2, rfl⟩ := rgN (by omega) (by omega) c2
    obtain ⟨b, b1, b2, rfl⟩ := rgN (by omega) (by omega) c3
    obtain ⟨s, s1, s2, rfl⟩ := rgN (by omega) (by omega) c4
    rw [c2, c3, c4, cN_nI (by omega), cN_nI (by omega), cN_nI (by omega)] at hp
    have hp : ∀ Y', Mo (A 19) Y' G → MS A Y Y' → post (if sFault G = -6 then dwF (slG G w o b).2.2.2.2 (slG G w o b).2.2.2.2.1 0 s else -5) Y' := hp
    refine m_fault hM.2.2.2.1 ?_
    have hP := hM.2.2.2.1
    have en : (ftF G.2.2.2.2.2.2 G.2.2.2.2.2.1 0 0 < 0) = (sFault G = -6) := propext (ft_neg (by have := hP.1; omega))
    rw [en]
    refine ⟨fun hf => ?_, fun hf => ?_⟩
    · rw [if_pos hf] at hp
      refine m_judgeAll a1 a2 hM.2.1 hM.2.2.1 (by omega) hP hf o2 b2 (fun Y11 mx mq j15 Y12 e12 => ?_)
      have hT := slG_T G w o b hP.1
      have mx2 : MX (A 19) scE Y11 Y12 := by rw [e12]; exact MX.sI (S := scE) rfl
      refine m_drawLoop (T := (slG G w o b).2.2.2.2) (mx2.mt (fun t h1 h2 q => by unfold scE at q; omega) mq.1) (by omega) (s := s) (by omega) (by rw [e12, tI_sI, if_pos ⟨rfl, rfl⟩]) (fun Y' mx3 => ?_)
      have M1 := hM.mx mx (fun t q => by unfold scJ at q; omega)
      have M2 := M1.mx mx2 (fun t q => by unfold scE at q; omega)
      exact hp Y' (M2.mx mx3 (fun t q => by unfold scE at q; omega)) (mx.ms.trans (mx2.ms.trans mx3.ms))
    · rw [if_neg hf] at hp
      exact hp Y hM st'
  · rw [c2, c3, c4] at hp
    exact hp Y hM st'
-- two, share
def twV (W : WD) (N : ND) (o u : Nat) : Nat := sfF (twS W N u (hrs W) 0 o o T0) (twS W N u (hrs W) 0 o o T0).1 1000000
theorem sfF_le {T : TD} : ∀ {k x : Nat}, x ≤ 1000000 → sfF T k x ≤ 1000000
  | 0, _, h => h
  | k + 1, x, h => sfF_le (k := k) (les_le h)
theorem twV_le (W : WD) (N : ND) (o u : Nat) : twV W N o u ≤ 1000000 := sfF_le (Nat.le_refl _)
def sTwo (G : GD) (v1 v2 v3 : Int32) : Int32 := cond (inB 0 1 v1) (cond (inB 0 20 v2 && inB 1 6 v3) (nI (twV (G.1 (cN v1)) G.2.1 (cN v2) (cN v3))) (-2)) (-1)
theorem k_turns {post : Int32 → TY → Prop} {w o u : Nat} (hS : SA st A) (hC : Cl A Y G) (hw : w < 2) (ho : o ≤ 20) (h1 : 1 ≤ u) (h6 : u ≤ 6) (hp : ∀ Y', Cl A Y' G → CS A 0 Y Y' → post (nI (twV (G.1 w) G.2.1 o u)) Y') : tp_X0_safeByTurns st post Y (A 17) (A (4 + w)) (nI o) (nI u) := by
  refine c_turns (hC.1.2.1 w hw) (by rw [hS.2.2.2.2.2.1]; exact hC.1.2.2.1) (by rw [hS.2.2.2.2.2.2.1]; exact hS.ne (by omega) (by omega) (by omega)) (by rw [hS.2.2.2.2.2.1, hS.2.2.2.2.2.2.1]; exact hS.ne (by omega) (by omega) (by omega)) ho h1 h6 (fun Y' ox => ?_)
  exact hp Y' (hC.boat hS (trN hS ox)) ((trN hS ox).cs hS (by omega))
theorem j_turns {post : Int32 → TY → Prop} {w o u : Nat} (hM : Mo (A 19) Y G) (hw : w < 2) (ho : o ≤ 20) (h1 : 1 ≤ u) (h6 : u ≤ 6) (hp : ∀ Y', Mo (A 19) Y' G → MS A Y Y' → post (nI (twV (G.1 w) G.2.1 o u)) Y') : tp_X10_twoOf st post Y (A 19) (nI w) (nI o) (nI u) := by
  obtain ⟨a1, a2, a3⟩ := hM.1 w hw
  exact m_twoOf a1 a2 hM.2.1 hM.2.2.1 (by omega) ho h1 h6 (fun Y' mx => hp Y' (hM.mx mx (fun t q => by unfold scW at q; omega)) mx.ms)
theorem k_two {post : Int32 → TY → Prop} {v1 v2 v3 : Int32} (hS : SA st A) (hC : Cl A Y G) (hp : ∀ Y', Cl A Y' G → CS A 0 Y Y' → post (sTwo G v1 v2 v3) Y') : tp_X9_two st post Y (A 0) v1 v2 v3 := by
  have st' := CS.refl A Y
  unfold tp_X9_two
  unfold sTwo at hp
  refine k_wayOf hS (fun c => ⟨fun _ => ?_, fun y hy => by cases hy⟩) (fun w hw e c => ⟨fun q => (by cases q), fun y hy => ?_⟩)
  · rw [c] at hp
    exact hp Y hC st'
  cases hy
  subst e
  rw [c, cN_nI (by omega)] at hp
  rw [hS.2.2.2.1]
  refine q_cOwed (bI_el' (fun c2 => ?_) (fun c2 => q_within 1 6 (bI_el (fun c3 => ?_) (fun c3 => ?_))))
  · rw [c2] at hp
    exact hp Y hC st'
  · obtain ⟨o, o1, o2, rfl⟩ := rgN (by omega) (by omega) c2
    obtain ⟨u, u1, u2, rfl⟩ := rgN (by omega) (by omega) c3
    rw [c2, c3, cN_nI (by omega), cN_nI (by omega)] at hp
    exact k_turns hS hC hw o2 u1 u2 hp
  · rw [c2, c3] at hp
    exact hp Y hC st'
theorem j_two {post : Int32 → TY → Prop} {v1 v2 v3 : Int32} (hM : Mo (A 19) Y G) (hp : ∀ Y', Mo (A 19) Y' G → MS A Y Y' → post (sTwo G v1 v2 v3) Y') : tp_X10_two st post Y (A 19) v1 v2 v3 := by
  have st' := MS.refl A Y
  unfold tp_X10_two
  unfold sTwo at hp
  refine q_isWay (bI_el (fun c => ?_) (fun c => ?_))
  rotate_left
  · rw [c] at hp
    exact hp Y hM st'
  obtain ⟨w, w1, w2, rfl⟩ := rgN (by omega) (by omega) c
  rw [c, cN_nI (by omega)] at hp
  refine q_isOwed (bI_el' (fun c2 => ?_) (fun c2 => q_in 1 6 (bI_el' (fun c3 => ?_) (fun c3 => ?_))))
  · rw [c2] at hp
    exact hp Y hM st'
  · rw [c2, c3] at hp
    exact hp Y hM st'
  · obtain ⟨o, o1, o2, rfl⟩ := rgN (by omega) (by omega) c2
    obtain ⟨u, u1, u2, rfl⟩ := rgN (by omega) (by omega) c3
    rw [c2, c3, cN_nI (by omega), cN_nI (by omega)] at hp
    exact j_turns hM (by omega) o2 u1 u2 hp
def shF (W : WD) (N : ND) (o : Nat) : Nat → Nat → Nat → Nat → Nat
  | 0, _, best, _ => best
  | j + 1, u, best, most => if twV W N o u ≤ most then shF W N o j (u + 1) best most else shF W N o j (u + 1) u (twV W N o u)
def sShare (G : GD) (v1 v2 : Int32) : Int32 := cond (inB 0 1 v1) (cond (inB 0 20 v2) (nI (shF (G.1 (cN v1)) G.2.1 (cN v2) 5 2 1 (twV (G.1 (cN v1)) G.2.1 (cN v2) 1))) (-2)) (-1)
theorem k_share {post : Int32 → TY → Prop} {v1 v2 : Int32} (hS : SA st A) (hC : Cl A Y G) (hp : ∀ Y', Cl A Y' G → CS A 0 Y Y' → post (sShare G v1 v2) Y') : tp_X9_share st post Y (A 0) v1 v2 := by
  have st' := CS.refl A Y
  unfold tp_X9_share
  unfold sShare at hp
  refine k_wayOf hS (fun c => ⟨fun _ => ?_, fun y hy => by cases hy⟩) (fun w hw e c => ⟨fun q => (by cases q), fun y hy => ?_⟩)
  · rw [c] at hp
    exact hp Y hC st'
  cases hy
  subst e
  rw [c, cN_nI (by omega)] at hp
  refine q_cOwed (bI_el (fun c2 => ?_) (fun c2 => ?_))
  · obtain ⟨o, o1, o2, rfl⟩ := rgN (by omega) (by omega) c2
    rw [c2, cN_nI (by omega)] at hp
    have hp : ∀ Y', Cl A Y' G → CS A 0 Y Y' → post (nI (shF (G.1 w) G.2.1 o 5 2 1 (twV (G.1 w) G.2.1 o 1))) Y' := hp
    rw [hS.2.2.2.1]
    refine k_turns (u := 1) hS hC hw o2 (by omega) (by omega) (fun Y1 C1 s1 => ⟨6, ?_⟩)
    have key : ∀ j u best most Yc, u + j = 7 → 2 ≤ u → best ≤ 6 → most ≤ 1000000 → Cl A Yc G → CS A 0 Y Yc → (∀ Y', Cl A Y' G → CS A 0 Y Y' → post (nI (shF (G.1 w) G.2.1 o j u best most)) Y') → tk_X9_share_40 st post (A 0) (nI w) (nI o) (j + 1) Yc (A (4 + w)) (nI best) (nI most) (nI u) := by
      intro j
      induction j with
      | zero =>
        intro u best most Yc hu hu2 hb hm C s hp
        have : u = 7 := by omega
        subst this
        rw [tk_X9_share_40]
        exact ⟨fun _ => hp Yc C s, fun q => absurd (by decide) q⟩
      | succ j ih =>
        intro u best most Yc hu hu2 hb hm C s hp
        have tv := twV_le (G.1 w) G.2.1 o u
        rw [tk_X9_share_40, show (6 : Int32) = nI 6 from rfl, nI_ltI (by omega) (by omega), hS.2.2.2.1]
        unfold shF at hp
        refine ⟨fun q => by omega, fun _ => k_turns hS C hw o2 (by omega) (by omega) (fun Y2 C2 s2 => ?_)⟩
        have s3 : CS A 0 Y Y2 := by have := s.trans s2; exact this
        rw [nI_leI (by omega) (by omega)]
        unfold tk_X9_share_75
        refine ⟨fun q x ex => ?_, fun q x ex => ?_⟩
        · rw [ex, show nI u + (1 : Int32) = nI (u + 1) from nI_1 u]
          rw [if_pos q] at hp
          exact ih (u + 1) best most Y2 (by omega) (by omega) hb hm C2 s3 hp
        · rw [ex, show nI u + (1 : Int32) = nI (u + 1) from nI_1 u]
          rw [if_neg q] at hp
          exact ih (u + 1) u _ Y2 (by omega) (by omega) (by omega) tv C2 s3 hp
    exact key 5 2 1 _ Y1 rfl (by omega) (by omega) (twV_le _ _ _ _) C1 s1 hp
  · rw [c2] at hp
    exact hp Y hC st'
theorem j_share {post : Int32 → TY → Prop} {v1 v2 : Int32} (hM : Mo (A 19) Y G) (hp : ∀ Y', Mo (A 19) Y' G → MS A Y Y' → post (sShare G v1 v2) Y') : tp_X10_share st post Y (A 19) v1 v2 := by
  have st' := MS.refl A Y
  unfold tp_X10_share
  unfold sShare at hp
  refine q_isWay (bI_el (fun c => ?_) (fun c => ?_))
  rotate_left
  · rw [c] at hp
    exact hp Y hM st'
  obtain ⟨w, w1, w2, rfl⟩ := rgN (by omega) (by omega) c
  rw [c, cN_nI (by omega)] at hp
  refine q_isOwed (bI_el (fun c2 => ?_) (fun c2 => ?_))
  · obtain ⟨o, o1, o2, rfl⟩ := rgN (by omega) (by omega) c2
    rw [c2, cN_nI (by omega)] at hp
    have hp : ∀ Y', Mo (A 19) Y' G → MS A Y Y' → post (nI (shF (G.1 w) G.2.1 o 5 2 1 (twV (G.1 w) G.2.1 o 1))) Y' := hp
    refine j_turns (u := 1) hM (by omega) o2 (by omega) (by omega) (fun Y1 M1 s1 => ⟨6, ?_⟩)
    have key : ∀ j u best most Yc, u + j = 7 → 2 ≤ u → best ≤ 6 → most ≤ 1000000 → Mo (A 19) Yc G → MS A Y Yc → (∀ Y', Mo (A 19) Y' G → MS A Y Y' → post (nI (shF (G.1 w) G.2.1 o j u best most)) Y') → tk_X10_share_33 st post (A 19) (nI w) (nI o) (j + 1) Yc (nI best) (nI most) (nI u) := by
      intro j
      induction j with
      | zero =>
        intro u best most Yc hu hu2 hb hm C s hp
        have : u = 7 := by omega
        subst this
        rw [tk_X10_share_33]
        exact ⟨fun _ => hp Yc C s, fun q => absurd (by decide) q⟩
      | succ j ih =>
        intro u best most Yc hu hu2 hb hm C s hp
        have tv := twV_le (G.1 w) G.2.1 o u
        rw [tk_X10_share_33, show (6 : Int32) = nI 6 from rfl, nI_ltI (by omega) (by omega)]
        unfold shF at hp
        refine ⟨fun q => by omega, fun _ => j_turns C (by omega) o2 (by omega) (by omega) (fun Y2 C2 s2 => ?_)⟩
        have s3 := s.trans s2
        rw [nI_leI (by omega) (by omega)]
        unfold tk_X10_share_64
        refine ⟨fun q x ex => ?_, fun q x ex => ?_⟩
        · rw [ex, show nI u + (1 : Int32) = nI (u + 1) from nI_1 u]
          rw [if_pos q] at hp
          exact ih (u + 1) best most Y2 (by omega) (by omega) hb hm C2 s3 hp
        · rw [ex, show nI u + (1 : Int32) = nI (u + 1) from nI_1 u]
          rw [if_neg q] at hp
          exact ih (u + 1) u _ Y2 (by omega) (by omega) (by omega) tv C2 s3 hp
    exact key 5 2 1 _ Y1 rfl (by omega) (by omega) (twV_le _ _ _ _) M1 s1 hp
  · rw [c2] at hp
    exact hp Y hM st'
end P6
