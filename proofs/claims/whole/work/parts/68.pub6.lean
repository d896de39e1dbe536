theorem ta_wf {W : WD} {N : ND} {r : Nat} : ∀ (j : Nat) (Q : QD), wfQ W Q → Q.2.2.2.1 ≤ Q.1 → wfQ W (taF W N r j Q) ∧ (taF W N r j Q).2.2.2.1 ≤ (taF W N r j Q).1
  | 0, Q, h1, h2 => ⟨h1, h2⟩
  | j + 1, Q, h1, h2 => by
    unfold taF
    by_cases c : hrs W ≤ Q.1
    · rw [if_pos c]
      exact ⟨h1, h2⟩
    · rw [if_neg c]
      obtain ⟨s1, s2, s3, s4⟩ := tu_step (N := N) (r := r) h1 (show Q.1 < hrs W by omega)
      exact ta_wf j _ s2 (by omega)
theorem zz_0 {Y Y' : TY} {p : Nat} {W : WD} {h b b' l l' : Nat} (nm : ∀ i, i < 125 → nmB Y' p i = tgB Y p W h b' l' i) (hb : b ≤ b') (hl : l ≤ l') : zzP Y' p W h b l = 0 := by
  have e : cnB (tgB Y' p W h b l) 125 = cnP Y' p := by
    unfold cnP
    apply cnB_congr
    intro i hi
    unfold tgB
    cases c : TsB W h b l i
    · rw [Bool.or_false]
    · have := TsB_mono hb hl c
      rw [Bool.or_true, nm i hi]
      unfold tgB
      rw [this, Bool.or_true]
  unfold zzP
  rw [e, Nat.sub_self]
section P8
variable {st : TS} {A : Nat → Nat} {Y Y' : TY} {G : GD}
-- thumb
def taQ (G : GD) (w r o : Nat) : QD := taF (G.1 w) G.2.1 r 48 (0, o, 0, T0)
def taS (G : GD) (w r o : Nat) : Int32 := nI (sfF (taQ G w r o).2.2.2 (taQ G w r o).2.2.2.1 1000000)
def sThumb (G : GD) (v1 v2 v3 v4 : Int32) : Int32 := cond (inB 0 1 v1) (cond (inB 0 3 v2 && inB 0 20 v3 && inB 0 2 v4) (if v4 = 0 then taS G (cN v1) (cN v2) (cN v3) else if v4 = 1 then nI (V (G.1 (cN v1)) G.2.1 0 4 (cN v3) 0) - taS G (cN v1) (cN v2) (cN v3) else nI (taQ G (cN v1) (cN v2) (cN v3)).2.1) (-2)) (-1)
def zThumb (A : Nat → Nat) (Y : TY) (G : GD) (v1 v2 v3 v4 : Int32) : Nat := cond (inB 0 1 v1) (cond (inB 0 3 v2 && inB 0 20 v3 && inB 0 2 v4) (if v4 = 0 then 0 else if v4 = 1 then zzP Y (A (13 + cN v1)) (G.1 (cN v1)) 0 0 4 else 0) 0) 0
theorem zThumb_le {v1 v2 v3 v4 : Int32} : TP A Y + zThumb A Y G v1 v2 v3 v4 ≤ 250 := by
  have z : TP A Y + 0 ≤ 250 := by
    rw [Nat.add_zero]
    exact TP_250 A Y
  unfold zThumb
  cases c : inB 0 1 v1
  · exact z
  · obtain ⟨w, w1, w2, rfl⟩ := rgN (by omega) (by omega) c
    rw [cN_nI (by omega)]
    cases c2 : (inB 0 3 v2 && inB 0 20 v3 && inB 0 2 v4)
    · exact z
    · show TP A Y + (if v4 = 0 then 0 else if v4 = 1 then zzP Y (A (13 + w)) (G.1 w) 0 0 4 else 0) ≤ 250
      split
      · exact z
      · split
        · exact TP_zz (by omega) _ _ _ _
        · exact z
theorem PF.trk {w : Nat} (hS : SA st A) (hC : Cl A Y G) (hw : w < 2) (F : PF st (A (13 + w)) Y Y') {T : TD} (h : TrP Y (A 18) T) : TrP Y' (A 18) T := by
  have k := hC.1.1
  obtain ⟨o1, o2⟩ := F.1 (A 18) (by rw [k 18 (by omega)]; decide) (by rw [(hS.2.2.2.2.2.2.2.1 w hw).2.2.2.2]; exact hS.ne (by omega) (by omega) (by omega)) (fun i e => by
    have := (hC.1.2.2.2.1.1 w hw).1 i _ e
    rw [k 18 (by omega)] at this
    exact absurd this (by decide))
  exact h.mv o1 o2
theorem k_thumb {post : Int32 → TY → Prop} {mc ms : Nat} {v1 v2 v3 v4 : Int32} (hS : SA st A) (hC : Cl A Y G) (hmc : 2 * zThumb A Y G v1 v2 v3 v4 ≤ mc) (hms : 1031 * zThumb A Y G v1 v2 v3 v4 ≤ ms) (hp : ∀ Y', Cl A Y' G → CS A (zThumb A Y G v1 v2 v3 v4) Y Y' → post (sThumb G v1 v2 v3 v4) Y') : tp_X9_thumb st post mc ms Y (A 0) v1 v2 v3 v4 := by
  have st' := CS.refl A Y
  have z0 : ∀ n : Nat, 0 ≤ n := Nat.zero_le
  unfold tp_X9_thumb
  unfold sThumb zThumb at hp
  unfold zThumb at hmc hms
  refine ⟨z0 _, z0 _, k_planOf hS (fun c => ⟨fun _ => ⟨z0 _, z0 _, ?_⟩, fun y hy => by cases hy⟩) (fun w hw e c => ⟨fun q => (by cases q), fun y hy => ⟨z0 _, z0 _, ?_⟩⟩)⟩
  · rw [c] at hp
    exact hp Y hC st'
  cases hy
  subst e
  rw [c, cN_nI (by omega)] at hp
  rw [c, cN_nI (by omega)] at hmc hms
  rw [hS.2.2.2.1, (hS.2.2.2.2.2.2.2.1 w hw).2.2.1]
  refine q_within 0 3 (bI_el' (fun c2 => ⟨z0 _, z0 _, ?_⟩) (fun c2 => ⟨z0 _, z0 _, q_cOwed (bI_el' (fun c3 => ⟨z0 _, z0 _, ?_⟩) (fun c3 => ⟨z0 _, z0 _, q_within 0 2 (bI_el (fun c4 => ⟨z0 _, z0 _, ?_⟩) (fun c4 => ⟨z0 _, z0 _, ?_⟩))⟩))⟩))
  · rw [c2] at hp
    exact hp Y hC st'
  · rw [c2, c3] at hp
    exact hp Y hC st'
  · obtain ⟨r, r1, r2, rfl⟩ := rgN (by omega) (by omega) c2
    obtain ⟨o, o1, o2, rfl⟩ := rgN (by omega) (by omega) c3
    rw [c2, c3, c4, cN_nI (by omega), cN_nI (by omega)] at hp
    rw [c2, c3, c4] at hmc hms
    have hp : ∀ Y', Cl A Y' G → CS A (if v4 = 0 then 0 else if v4 = 1 then zzP Y (A (13 + w)) (G.1 w) 0 0 4 else 0) Y Y' → post (if v4 = 0 then taS G w r o else if v4 = 1 then nI (V (G.1 w) G.2.1 0 4 o 0) - taS G w r o else nI (taQ G w r o).2.1) Y' := hp
    have hmc : 2 * (if v4 = 0 then 0 else if v4 = 1 then zzP Y (A (13 + w)) (G.1 w) 0 0 4 else 0) ≤ mc := hmc
    have hms : 1031 * (if v4 = 0 then 0 else if v4 = 1 then zzP Y (A (13 + w)) (G.1 w) 0 0 4 else 0) ≤ ms := hms
    refine k_setOut (c := 0) hS hC hw (fun Y1 ox1 B1 C1 s1 => ⟨z0 _, z0 _, ?_⟩)
    refine c_sailByThumb B1 ⟨Nat.zero_le _, o2, Nat.zero_le _⟩ (Nat.le_refl _) r2 (fun Y2 ox2 B2 => ?_)
    have C2 := C1.boat hS (boN hS ox2)
    have s2 : CS A 0 Y Y2 := by have := s1.trans ((boN hS ox2).cs hS (by omega)); exact this
    have hP : tP Y2 (A (13 + w)) = tP Y (A (13 + w)) := (ox2.2.2 _).trans (ox1.2.2 _)
    obtain ⟨k1, k2, k3, k4, w1, w2, w3, w4, i3, i4, i5⟩ := B2
    rw [hS.2.2.2.2.2.2.1] at w4
    rw [i4, hS.2.2.2.2.2.2.1]
    refine ⟨fun q => ⟨z0 _, z0 _, c_safe w4 ⟨z0 _, z0 _, ?_⟩⟩, fun q => ?_, fun q => ⟨z0 _, z0 _, ?_⟩⟩
    · rw [if_pos q, if_pos q] at hp
      exact hp Y2 C2 s2
    · have q0 : ¬ v4 = 0 := fun z => by rw [q] at z; exact absurd z (by decide)
      rw [if_neg q0, if_pos q, if_neg q0, if_pos q] at hp
      rw [if_neg q0, if_pos q] at hmc hms
      have ez := zz_eq hP (G.1 w) 0 0 4
      refine ⟨mc, ms, by omega, by omega, k_bestFrom (h := 0) (b := 0) (l := 4) hS C2 hw (Nat.zero_le _) o2 (by omega) (by omega) (by rw [ez]; exact hmc) (by rw [ez]; exact hms) (fun Y3 C3 s3 F nm => ⟨by omega, by omega, c_safe (F.trk hS C2 hw w4) ⟨by omega, by omega, ?_⟩⟩)⟩
      rw [ez] at s3
      exact hp Y3 C3 (by have := s2.trans s3; rw [Nat.zero_add] at this; exact this)
    · rw [if_neg q.1, if_neg q.2, if_neg q.1, if_neg q.2] at hp
      exact hp Y2 C2 s2
  · rw [c2, c3, c4] at hp
    exact hp Y hC st'
theorem j_thumb {post : Int32 → TY → Prop} {v1 v2 v3 v4 : Int32} (hM : Mo (A 19) Y G) (hp : ∀ Y', Mo (A 19) Y' G → MS A Y Y' → post (sThumb G v1 v2 v3 v4) Y') : tp_X10_thumb st post Y (A 19) v1 v2 v3 v4 := by
  have st' := MS.refl A Y
  unfold tp_X10_thumb
  unfold sThumb at hp
  refine q_isWay (bI_el (fun c => ?_) (fun c => ?_))
  rotate_left
  · rw [c] at hp
    exact hp Y hM st'
  obtain ⟨w, w1, w2, rfl⟩ := rgN (by omega) (by omega) c
  obtain ⟨a1, a2, a3⟩ := hM.1 w (by omega)
  have h48 := a1.2.1
  rw [c, cN_nI (by omega)] at hp
  refine q_in 0 3 (bI_el' (fun c2 => ?_) (fun c2 => q_isOwed (bI_el' (fun c3 => ?_) (fun c3 => q_in 0 2 (bI_el (fun c4 => ?_) (fun c4 => ?_))))))
  · rw [c2] at hp
    exact hp Y hM st'
  · rw [c2, c3] at hp
    exact hp Y hM st'
  · obtain ⟨r, r1, r2, rfl⟩ := rgN (by omega) (by omega) c2
    obtain ⟨o, o1, o2, rfl⟩ := rgN (by omega) (by omega) c3
    rw [c2, c3, c4, cN_nI (by omega), cN_nI (by omega)] at hp
    have hp : ∀ Y', Mo (A 19) Y' G → MS A Y Y' → post (if v4 = 0 then taS G w r o else if v4 = 1 then nI (V (G.1 w) G.2.1 0 4 o 0) - taS G w r o else nI (taQ G w r o).2.1) Y' := hp
    refine m_thumbAll a1 a2 hM.2.1 hM.2.2.1 (by omega) r2 o2 (fun Y2 mx mq => ?_)
    have M2 := hM.mx mx (fun t q => by unfold scD at q; omega)
    obtain ⟨t1, t2, t3, t4⟩ := mq
    obtain ⟨x1, x2⟩ := ta_wf (W := G.1 w) (N := G.2.1) (r := r) 48 (0, o, 0, T0) ⟨Nat.zero_le _, o2, Nat.zero_le _⟩ (Nat.le_refl _)
    have x3 := x1.1
    refine m_safe t1 (by omega) ⟨fun q => ⟨fun q2 => ?_, fun q2 => ?_⟩, fun q => ?_⟩
    · rw [t3]
      rw [if_neg q, if_neg q2] at hp
      exact hp Y2 M2 mx.ms
    · rw [if_neg q, if_pos q2] at hp
      exact j_bestOf (h := 0) (b := 0) (l := 4) M2 (by omega) (Nat.zero_le _) o2 (by omega) (by omega) (fun Y3 M3 s3 => hp Y3 M3 (mx.ms.trans s3))
    · rw [if_pos q] at hp
      exact hp Y2 M2 mx.ms
  · rw [c2, c3, c4] at hp
    exact hp Y hM st'
-- worth
def sWorth (G : GD) (v1 v2 v3 v4 : Int32) : Int32 := cond (inB 0 1 v1) (cond (inB 0 20 v2 && inB 0 24 v3 && inB 0 (24 - cN v3) v4) (nI (V (G.1 (cN v1)) G.2.1 0 4 (cN v2) (cN v3 + cN v4)) - nI (V (G.1 (cN v1)) G.2.1 0 4 (cN v2) (cN v3))) (-2)) (-1)
def zWorth (A : Nat → Nat) (Y : TY) (G : GD) (v1 v2 v3 v4 : Int32) : Nat := cond (inB 0 1 v1) (cond (inB 0 20 v2 && inB 0 24 v3 && inB 0 (24 - cN v3) v4) (zzP Y (A (13 + cN v1)) (G.1 (cN v1)) 0 (cN v3 + cN v4) 4) 0) 0
theorem zWorth_le {v1 v2 v3 v4 : Int32} : TP A Y + zWorth A Y G v1 v2 v3 v4 ≤ 250 := by
  have z : TP A Y + 0 ≤ 250 := by
    rw [Nat.add_zero]
    exact TP_250 A Y
  unfold zWorth
  cases c : inB 0 1 v1
  · exact z
  · obtain ⟨w, w1, w2, rfl⟩ := rgN (by omega) (by omega) c
    rw [cN_nI (show w < 2147483648 by omega)]
    cases c2 : (inB 0 20 v2 && inB 0 24 v3 && inB 0 (24 - cN v3) v4)
    · exact z
    · exact TP_zz (by omega) _ _ _ _
theorem k_worth {post : Int32 → TY → Prop} {mc ms : Nat} {v1 v2 v3 v4 : Int32} (hS : SA st A) (hC : Cl A Y G) (hmc : 2 * zWorth A Y G v1 v2 v3 v4 ≤ mc) (hms : 1031 * zWorth A Y G v1 v2 v3 v4 ≤ ms) (hp : ∀ Y', Cl A Y' G → CS A (zWorth A Y G v1 v2 v3 v4) Y Y' → post (sWorth G v1 v2 v3 v4) Y') : tp_X9_worth st post mc ms Y (A 0) v1 v2 v3 v4 := by
  have st' := CS.refl A Y
  have z0 : ∀ n : Nat, 0 ≤ n := Nat.zero_le
  unfold tp_X9_worth
  unfold sWorth zWorth at hp
  unfold zWorth at hmc hms
  refine ⟨z0 _, z0 _, k_planOf hS (fun c => ⟨fun _ => ⟨z0 _, z0 _, ?_⟩, fun y hy => by cases hy⟩) (fun w hw e c => ⟨fun q => (by cases q), fun y hy => ⟨z0 _, z0 _, ?_⟩⟩)⟩
  · rw [c] at hp
    exact hp Y hC st'
  cases hy
  subst e
  rw [c, cN_nI (show w < 2147483648 by omega)] at hp
  rw [c, cN_nI (show w < 2147483648 by omega)] at hmc hms
  refine q_cOwed (bI_el' (fun c2 => ⟨z0 _, z0 _, ?_⟩) (fun c2 => ⟨z0 _, z0 _, q_cBattery (bI_el' (fun c3 => ⟨z0 _, z0 _, ?_⟩) (fun c3 => ⟨z0 _, z0 _, ?_⟩))⟩))
  · rw [c2] at hp
    exact hp Y hC st'
  · rw [c2, c3] at hp
    exact hp Y hC st'
  · obtain ⟨o, o1, o2, rfl⟩ := rgN (by omega) (by omega) c2
    obtain ⟨b, b1, b2, rfl⟩ := rgN (by omega) (by omega) c3
    rw [c2, c3, cN_nI (show o < 2147483648 by omega), cN_nI (show b < 2147483648 by omega)] at hp
    rw [c2, c3, cN_nI (show b < 2147483648 by omega)] at hmc hms
    rw [show (24 : Int32) - nI b = nI (24 - b) from pk_sub (a := 24) b2]
    refine q_within 0 (24 - b) (bI_el (fun c4 => ?_) (fun c4 => ⟨z0 _, z0 _, ?_⟩))
    · obtain ⟨k, k1, k2, rfl⟩ := rgN (by omega) (by omega) c4
      rw [c4, cN_nI (show k < 2147483648 by omega)] at hp hmc hms
      rw [nI_add]
      refine ⟨mc, ms, by omega, by omega, k_bestFrom (h := 0) (l := 4) hS hC hw (Nat.zero_le _) o2 (by omega) (by omega) hmc hms (fun Y1 C1 s1 F1 nm1 => ?_)⟩
      have ez := zz_0 (b := b) (l := 4) nm1 (by omega) (Nat.le_refl _)
      refine ⟨0, 0, by omega, by omega, k_bestFrom (h := 0) (l := 4) hS C1 hw (Nat.zero_le _) o2 b2 (by omega) (by rw [ez]; exact Nat.le_refl _) (by rw [ez]; exact Nat.le_refl _) (fun Y2 C2 s2 F2 nm2 => ⟨by omega, by omega, ?_⟩)⟩
      rw [ez] at s2
      exact hp Y2 C2 (by have := s1.trans s2; rw [Nat.add_zero] at this; exact this)
    · rw [c4] at hp
      exact hp Y hC st'
theorem j_worth {post : Int32 → TY → Prop} {v1 v2 v3 v4 : Int32} (hM : Mo (A 19) Y G) (hp : ∀ Y', Mo (A 19) Y' G → MS A Y Y' → post (sWorth G v1 v2 v3 v4) Y') : tp_X10_worth st post Y (A 19) v1 v2 v3 v4 := by
  have st' := MS.refl A Y
  unfold tp_X10_worth
  unfold sWorth at hp
  refine q_isWay (bI_el (fun c => ?_) (fun c => ?_))
  rotate_left
  · rw [c] at hp
    exact hp Y hM st'
  obtain ⟨w, w1, w2, rfl⟩ := rgN (by omega) (by omega) c
  rw [c, cN_nI (show w < 2147483648 by omega)] at hp
  refine q_isOwed (bI_el' (fun c2 => ?_) (fun c2 => q_isBattery (bI_el' (fun c3 => ?_) (fun c3 => ?_))))
  · rw [c2] at hp
    exact hp Y hM st'
  · rw [c2, c3] at hp
    exact hp Y hM st'
  · obtain ⟨o, o1, o2, rfl⟩ := rgN (by omega) (by omega) c2
    obtain ⟨b, b1, b2, rfl⟩ := rgN (by omega) (by omega) c3
    rw [c2, c3, cN_nI (show o < 2147483648 by omega), cN_nI (show b < 2147483648 by omega)] at hp
    refine q_isBattery (bI_el' (fun c4 => ?_) (fun c4 => ?_))
    · rw [inB_sub (a := 0) (b := 24 - b) (by omega) (by omega) (by omega) (by omega) (by omega) c4] at hp
      exact hp Y hM st'
    · obtain ⟨k, k1, k2, rfl⟩ := rgN (by omega) (by omega) c4
      rw [inB_nI (by omega) (by omega) (by omega), cN_nI (show k < 2147483648 by omega)] at hp
      rw [nI_add, show (24 : Int32) = nI 24 from rfl, nI_leI (by omega) (by omega)]
      refine ⟨fun q => ?_, fun q => ?_⟩
      · rw [decide_eq_true (show 0 ≤ k ∧ k ≤ 24 - b by omega)] at hp
        exact j_bestOf (h := 0) (l := 4) hM (by omega) (Nat.zero_le _) o2 (by omega) (by omega) (fun Y1 M1 s1 => j_bestOf (h := 0) (l := 4) M1 (by omega) (Nat.zero_le _) o2 b2 (by omega) (fun Y2 M2 s2 => hp Y2 M2 (s1.trans s2)))
      · rw [decide_eq_false (show ¬ (0 ≤ k ∧ k ≤ 24 - b) by omega)] at hp
        exact hp Y hM st'
-- round
def sRound (G : GD) (v1 v2 : Int32) : Int32 := cond (inB 0 20 v1 && inB 0 24 v2) (if V (G.1 1) G.2.1 0 4 (cN v1) (cN v2) ≤ V (G.1 0) G.2.1 0 4 (cN v1) (cN v2) then 0 else 1) (-2)
def zRound (A : Nat → Nat) (Y : TY) (G : GD) (v1 v2 : Int32) : Nat := cond (inB 0 20 v1 && inB 0 24 v2) (zzP Y (A 13) (G.1 0) 0 (cN v2) 4 + zzP Y (A 14) (G.1 1) 0 (cN v2) 4) 0
theorem zRound_le {v1 v2 : Int32} : TP A Y + zRound A Y G v1 v2 ≤ 250 := by
  unfold zRound
  cases c2 : (inB 0 20 v1 && inB 0 24 v2)
  · show TP A Y + 0 ≤ 250
    rw [Nat.add_zero]
    exact TP_250 A Y
  · show TP A Y + (zzP Y (A 13) (G.1 0) 0 (cN v2) 4 + zzP Y (A 14) (G.1 1) 0 (cN v2) 4) ≤ 250
    have h1 := zz_le Y (A 13) (G.1 0) 0 (cN v2) 4
    have h2 := zz_le Y (A 14) (G.1 1) 0 (cN v2) 4
    unfold TP
    omega
theorem k_round {post : Int32 → TY → Prop} {mc ms : Nat} {v1 v2 : Int32} (hS : SA st A) (hC : Cl A Y G) (hmc : 2 * zRound A Y G v1 v2 ≤ mc) (hms : 1031 * zRound A Y G v1 v2 ≤ ms) (hp : ∀ Y', Cl A Y' G → CS A (zRound A Y G v1 v2) Y Y' → post (sRound G v1 v2) Y') : tp_X9_round st post mc ms Y (A 0) v1 v2 := by
  have st' := CS.refl A Y
  have z0 : ∀ n : Nat, 0 ≤ n := Nat.zero_le
  unfold tp_X9_round
  unfold sRound zRound at hp
  unfold zRound at hmc hms
  refine ⟨z0 _, z0 _, q_cOwed (bI_el' (fun c2 => ⟨z0 _, z0 _, ?_⟩) (fun c2 => ⟨z0 _, z0 _, q_cBattery (bI_el (fun c3 => ?_) (fun c3 => ⟨z0 _, z0 _, ?_⟩))⟩))⟩
  · rw [c2] at hp
    exact hp Y hC st'
  · obtain ⟨o, o1, o2, rfl⟩ := rgN (by omega) (by omega) c2
    obtain ⟨b, b1, b2, rfl⟩ := rgN (by omega) (by omega) c3
    rw [c2, c3, cN_nI (show o < 2147483648 by omega), cN_nI (show b < 2147483648 by omega)] at hp
    rw [c2, c3, cN_nI (show b < 2147483648 by omega)] at hmc hms
    have hmc : 2 * (zzP Y (A 13) (G.1 0) 0 b 4 + zzP Y (A 14) (G.1 1) 0 b 4) ≤ mc := hmc
    have hms : 1031 * (zzP Y (A 13) (G.1 0) 0 b 4 + zzP Y (A 14) (G.1 1) 0 b 4) ≤ ms := hms
    have hp : ∀ Y', Cl A Y' G → CS A (zzP Y (A 13) (G.1 0) 0 b 4 + zzP Y (A 14) (G.1 1) 0 b 4) Y Y' → post (if V (G.1 1) G.2.1 0 4 o b ≤ V (G.1 0) G.2.1 0 4 o b then 0 else 1) Y' := hp
    refine ⟨(show vp_in (nI 0) 2 from vp_in_nI (by decide) (by decide)), _, (hS.2.2.2.2.2.2.2.1 0 (by omega)).2.1, 2 * zzP Y (A 13) (G.1 0) 0 b 4, 1031 * zzP Y (A 13) (G.1 0) 0 b 4, by omega, by omega, ?_⟩
    refine k_bestFrom (w := 0) (h := 0) (l := 4) hS hC (by omega) (Nat.zero_le _) o2 b2 (by omega) (Nat.le_refl _) (Nat.le_refl _) (fun Y1 C1 s1 F1 nm1 => ?_)
    have hP : tP Y1 (A (13 + 1)) = tP Y (A (13 + 1)) := F1.2.2.1 _ (hS.ne (by omega) (by omega) (by omega))
    have ez : zzP Y1 (A 14) (G.1 1) 0 b 4 = zzP Y (A 14) (G.1 1) 0 b 4 := zz_eq hP (G.1 1) 0 b 4
    refine ⟨(show vp_in (nI 1) 2 from vp_in_nI (by decide) (by decide)), _, (hS.2.2.2.2.2.2.2.1 1 (by omega)).2.1, 2 * zzP Y (A 14) (G.1 1) 0 b 4, 1031 * zzP Y (A 14) (G.1 1) 0 b 4, by omega, by omega, ?_⟩
    refine k_bestFrom (w := 1) (h := 0) (l := 4) hS C1 (by omega) (Nat.zero_le _) o2 b2 (by omega) (by show 2 * zzP Y1 (A 14) (G.1 1) 0 b 4 ≤ _; rw [ez]; exact Nat.le_refl _) (by show 1031 * zzP Y1 (A 14) (G.1 1) 0 b 4 ≤ _; rw [ez]; exact Nat.le_refl _) (fun Y2 C2 s2 F2 nm2 => ?_)
    have v0 := V_le (G.1 0) G.2.1 0 4 o b
    have v1 := V_le (G.1 1) G.2.1 0 4 o b
    have s2 : CS A (zzP Y1 (A 14) (G.1 1) 0 b 4) Y1 Y2 := s2
    rw [ez] at s2
    have hp := hp Y2 C2 (s1.trans s2)
    rw [nI_leI (by omega) (by omega)]
    refine ⟨fun q => ⟨by omega, by omega, ?_⟩, fun q => ⟨by omega, by omega, ?_⟩⟩
    · rw [if_pos q] at hp
      exact hp
    · rw [if_neg q] at hp
      exact hp
  · rw [c2, c3] at hp
    exact hp Y hC st'
theorem j_round {post : Int32 → TY → Prop} {v1 v2 : Int32} (hM : Mo (A 19) Y G) (hp : ∀ Y', Mo (A 19) Y' G → MS A Y Y' → post (sRound G v1 v2) Y') : tp_X10_round st post Y (A 19) v1 v2 := by
  have st' := MS.refl A Y
  unfold tp_X10_round
  unfold sRound at hp
  refine q_isOwed (bI_el' (fun c2 => ?_) (fun c2 => q_isBattery (bI_el (fun c3 => ?_) (fun c3 => ?_))))
  · rw [c2] at hp
    exact hp Y hM st'
  · obtain ⟨o, o1, o2, rfl⟩ := rgN (by omega) (by omega) c2
    obtain ⟨b, b1, b2, rfl⟩ := rgN (by omega) (by omega) c3
    rw [c2, c3, cN_nI (show o < 2147483648 by omega), cN_nI (show b < 2147483648 by omega)] at hp
    have hp : ∀ Y', Mo (A 19) Y' G → MS A Y Y' → post (if V (G.1 1) G.2.1 0 4 o b ≤ V (G.1 0) G.2.1 0 4 o b then 0 else 1) Y' := hp
    refine j_bestOf (w := 1) (h := 0) (l := 4) hM (by omega) (Nat.zero_le _) o2 b2 (by omega) (fun Y1 M1 s1 => j_bestOf (w := 0) (h := 0) (l := 4) M1 (by omega) (Nat.zero_le _) o2 b2 (by omega) (fun Y2 M2 s2 => ?_))
    have v0 := V_le (G.1 0) G.2.1 0 4 o b
    have v1 := V_le (G.1 1) G.2.1 0 4 o b
    have hp := hp Y2 M2 (s1.trans s2)
    rw [nI_leI (by omega) (by omega)]
    refine ⟨fun q => ?_, fun q => ?_⟩
    · rw [if_pos q] at hp
      exact hp
    · rw [if_neg q] at hp
      exact hp
  · rw [c2, c3] at hp
    exact hp Y hM st'
end P8
