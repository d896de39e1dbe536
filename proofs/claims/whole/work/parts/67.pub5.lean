theorem TsB_mono {W : WD} {h b b' l l' i : Nat} (hb : b ≤ b') (hl : l ≤ l') (q : TsB W h b l i = true) : TsB W h b' l' i = true := by
  simp only [TsB, Bool.and_eq_true, decide_eq_true_eq] at q ⊢
  omega
theorem zz_le (Y : TY) (p : Nat) (W : WD) (h b l : Nat) : cnP Y p + zzP Y p W h b l ≤ 125 := by
  have h2 : cnP Y p ≤ cnB (tgB Y p W h b l) 125 := cnP_le (fun i _ q => by unfold tgB; rw [q]; rfl)
  have h3 : cnB (tgB Y p W h b l) 125 ≤ 125 := cnB_le
  unfold zzP
  omega
theorem zz_eq {Y Y' : TY} {p : Nat} (hP : tP Y' p = tP Y p) (W : WD) (h b l : Nat) : zzP Y' p W h b l = zzP Y p W h b l := by
  have e : ∀ i, nmB Y' p i = nmB Y p i := fun i => by unfold nmB; rw [hP]
  have e1 : cnP Y' p = cnP Y p := cnP_eq (fun i _ => e i)
  have e2 : cnB (tgB Y' p W h b l) 125 = cnB (tgB Y p W h b l) 125 := by
    apply cnB_congr
    intro i _
    unfold tgB
    rw [e]
  unfold zzP
  rw [e1, e2]
theorem TP_zz {A : Nat → Nat} {Y : TY} {w : Nat} (hw : w < 2) (W : WD) (h b l : Nat) : TP A Y + zzP Y (A (13 + w)) W h b l ≤ 250 := by
  have h1 := zz_le Y (A (13 + w)) W h b l
  have h2 := cnP_125 Y (A 13)
  have h3 := cnP_125 Y (A 14)
  unfold TP
  have : w = 0 ∨ w = 1 := by omega
  rcases this with rfl | rfl
  · have h1 : cnP Y (A 13) + zzP Y (A (13 + 0)) W h b l ≤ 125 := h1
    omega
  · have h1 : cnP Y (A 14) + zzP Y (A (13 + 1)) W h b l ≤ 125 := h1
    omega
section P7
variable {st : TS} {A : Nat → Nat} {Y Y' : TY} {G : GD}
theorem k_bestFrom {post : Int32 → TY → Prop} {w h o b l mc ms : Nat} (hS : SA st A) (hC : Cl A Y G) (hw : w < 2) (hh : h ≤ hrs (G.1 w)) (ho : o ≤ 20) (hb : b ≤ 24) (hl : l ≤ 4) (hmc : 2 * zzP Y (A (13 + w)) (G.1 w) h b l ≤ mc) (hms : 1031 * zzP Y (A (13 + w)) (G.1 w) h b l ≤ ms) (hp : ∀ Y', Cl A Y' G → CS A (zzP Y (A (13 + w)) (G.1 w) h b l) Y Y' → PF st (A (13 + w)) Y Y' → (∀ i, i < 125 → nmB Y' (A (13 + w)) i = tgB Y (A (13 + w)) (G.1 w) h b l i) → post (nI (V (G.1 w) G.2.1 h l o b)) Y') : tp_X4_bestFrom st post mc ms Y (A (13 + w)) (nI h) (nI o) (nI b) (nI l) := by
  refine c_bestFrom (hC.1.pc hS hw) (hC.2 w hw) hC.1.2.2.1.1 hh ho hb hl hmc hms (fun Y' F C O nm => ?_)
  obtain ⟨d1, d2⟩ := hC.pf hS hw F C O (cnP_zz nm)
  exact hp Y' d1 d2 F nm
theorem j_bestOf {post : Int32 → TY → Prop} {w h o b l : Nat} (hM : Mo (A 19) Y G) (hw : w < 2) (hh : h ≤ hrs (G.1 w)) (ho : o ≤ 20) (hb : b ≤ 24) (hl : l ≤ 4) (hp : ∀ Y', Mo (A 19) Y' G → MS A Y Y' → post (nI (V (G.1 w) G.2.1 h l o b)) Y') : tp_X10_bestOf st post Y (A 19) (nI w) (nI h) (nI o) (nI b) (nI l) := by
  obtain ⟨a1, a2, a3⟩ := hM.1 w hw
  refine m_bestOf a1 a2 hM.2.1 hM.2.2.1 (by omega) a3 hh ho hb hl (fun Y' bx => ?_)
  obtain ⟨b1, b2⟩ := hM.bx hw bx
  exact hp Y' b1 b2
theorem k_reaches {post : Int32 → Prop} {w : Nat} {v2 v5 : Int32} (hS : SA st A) (hC : Cl A Y G) (hw : w < 2) (hp : post (bI (inB 0 (hrs (G.1 w)) v2 && inB 0 4 v5))) : tp_X4_reaches st post Y (A (13 + w)) v2 v5 := by
  unfold tp_X4_reaches
  rw [(hS.2.2.2.2.2.2.2.1 w hw).2.2.1, (hC.1.2.1 w hw).2.2.1]
  refine q_within 0 (hrs (G.1 w)) (bI_el' (fun c => ?_) (fun c => q_within 0 4 (bI_el' (fun c2 => ?_) (fun c2 => ?_))))
  · rw [c] at hp
    exact hp
  · rw [c, c2] at hp
    exact hp
  · rw [c, c2] at hp
    exact hp
theorem j_isPlace {post : Int32 → Prop} {w : Nat} {v2 v3 v4 v5 : Int32} (hM : Mo (A 19) Y G) (hw : w < 2) (hp : post (bI (inB 0 (hrs (G.1 w)) v2 && inB 0 4 v5 && inB 0 20 v3 && inB 0 24 v4))) : tp_X10_isPlace st post Y (A 19) (nI w) v2 v3 v4 v5 := by
  unfold tp_X10_isPlace
  rw [nI_clamp (by omega), (hM.1 w hw).2.1.2.1]
  refine ⟨vp_in_nI (by omega) (by omega), q_in 0 (hrs (G.1 w)) (bI_el' (fun c => ?_) (fun c => q_isOwed (bI_el' (fun c3 => ?_) (fun c3 => q_isBattery (bI_el' (fun c4 => ?_) (fun c4 => q_in 0 4 (bI_el' (fun c5 => ?_) (fun c5 => ?_))))))))⟩
  · rw [c] at hp
    exact hp
  · rw [c3, Bool.and_false] at hp
    exact hp
  · rw [c4, Bool.and_false] at hp
    exact hp
  · rw [c, c5] at hp
    exact hp
  · rw [c, c3, c4, c5] at hp
    exact hp
-- best
def okP (G : GD) (w : Nat) (v2 v3 v4 v5 : Int32) : Bool := inB 0 (hrs (G.1 w)) v2 && inB 0 4 v5 && inB 0 20 v3 && inB 0 24 v4
def sBest (G : GD) (v1 v2 v3 v4 v5 : Int32) : Int32 := cond (inB 0 1 v1) (cond (okP G (cN v1) v2 v3 v4 v5) (nI (V (G.1 (cN v1)) G.2.1 (cN v2) (cN v5) (cN v3) (cN v4))) (-2)) (-1)
def zBest (A : Nat → Nat) (Y : TY) (G : GD) (v1 v2 v3 v4 v5 : Int32) : Nat := cond (inB 0 1 v1) (cond (okP G (cN v1) v2 v3 v4 v5) (zzP Y (A (13 + cN v1)) (G.1 (cN v1)) (cN v2) (cN v4) (cN v5)) 0) 0
theorem TP_250 (A : Nat → Nat) (Y : TY) : TP A Y ≤ 250 := by
  have h2 := cnP_125 Y (A 13)
  have h3 := cnP_125 Y (A 14)
  unfold TP
  omega
theorem zBest_le {v1 v2 v3 v4 v5 : Int32} : TP A Y + zBest A Y G v1 v2 v3 v4 v5 ≤ 250 := by
  unfold zBest
  cases c : inB 0 1 v1
  · show TP A Y + 0 ≤ 250
    rw [Nat.add_zero]
    exact TP_250 A Y
  · obtain ⟨w, w1, w2, rfl⟩ := rgN (by omega) (by omega) c
    rw [cN_nI (by omega)]
    cases c2 : okP G w v2 v3 v4 v5
    · show TP A Y + 0 ≤ 250
      rw [Nat.add_zero]
      exact TP_250 A Y
    · exact TP_zz (by omega) _ _ _ _
theorem k_best {post : Int32 → TY → Prop} {mc ms : Nat} {v1 v2 v3 v4 v5 : Int32} (hS : SA st A) (hC : Cl A Y G) (hmc : 2 * zBest A Y G v1 v2 v3 v4 v5 ≤ mc) (hms : 1031 * zBest A Y G v1 v2 v3 v4 v5 ≤ ms) (hp : ∀ Y', Cl A Y' G → CS A (zBest A Y G v1 v2 v3 v4 v5) Y Y' → post (sBest G v1 v2 v3 v4 v5) Y') : tp_X9_best st post mc ms Y (A 0) v1 v2 v3 v4 v5 := by
  have st' := CS.refl A Y
  have z0 : ∀ n : Nat, 0 ≤ n := Nat.zero_le
  unfold tp_X9_best
  unfold sBest zBest at hp
  unfold zBest at hmc hms
  refine ⟨z0 _, z0 _, k_planOf hS (fun c => ⟨fun _ => ⟨z0 _, z0 _, ?_⟩, fun y hy => by cases hy⟩) (fun w hw e c => ⟨fun q => (by cases q), fun y hy => ⟨z0 _, z0 _, ?_⟩⟩)⟩
  · rw [c] at hp
    exact hp Y hC st'
  cases hy
  subst e
  rw [c, cN_nI (by omega)] at hp
  rw [c, cN_nI (by omega)] at hmc hms
  unfold okP at hp hmc hms
  refine k_reaches hS hC hw (bI_el' (fun c2 => ⟨z0 _, z0 _, ?_⟩) (fun c2 => ⟨z0 _, z0 _, q_cOwed (bI_el' (fun c3 => ⟨z0 _, z0 _, ?_⟩) (fun c3 => ⟨z0 _, z0 _, q_cBattery (bI_el (fun c4 => ?_) (fun c4 => ⟨z0 _, z0 _, ?_⟩))⟩))⟩))
  · rw [c2] at hp
    exact hp Y hC st'
  · rw [c2, c3] at hp
    exact hp Y hC st'
  · rw [c2, c3, c4] at hp
    rw [c2, c3, c4] at hmc hms
    have c5 : inB 0 (hrs (G.1 w)) v2 = true ∧ inB 0 4 v5 = true := by
      rw [Bool.and_eq_true] at c2
      exact c2
    have h48 := (hC.1.2.1 w hw).1.2.1
    obtain ⟨h, h1, h2, rfl⟩ := rgN (by omega) (by omega) c5.1
    obtain ⟨l, l1, l2, rfl⟩ := rgN (by omega) (by omega) c5.2
    obtain ⟨o, o1, o2, rfl⟩ := rgN (by omega) (by omega) c3
    obtain ⟨b, b1, b2, rfl⟩ := rgN (by omega) (by omega) c4
    rw [cN_nI (by omega), cN_nI (by omega), cN_nI (by omega), cN_nI (by omega)] at hp
    rw [cN_nI (by omega), cN_nI (by omega), cN_nI (by omega)] at hmc hms
    refine ⟨mc, ms, by omega, by omega, k_bestFrom hS hC hw h2 o2 b2 l2 hmc hms (fun Y' C s F nm => ⟨by omega, by omega, hp Y' C s⟩)⟩
  · rw [c2, c3, c4] at hp
    exact hp Y hC st'
theorem okP_nI {w h o b l : Nat} (h48 : hrs (G.1 w) ≤ 48) {v2 v3 v4 v5 : Int32} (c : okP G w v2 v3 v4 v5 = true) : ∃ h o b l, h ≤ hrs (G.1 w) ∧ o ≤ 20 ∧ b ≤ 24 ∧ l ≤ 4 ∧ v2 = nI h ∧ v3 = nI o ∧ v4 = nI b ∧ v5 = nI l := by
  unfold okP at c
  simp only [Bool.and_eq_true] at c
  obtain ⟨⟨⟨c1, c2⟩, c3⟩, c4⟩ := c
  obtain ⟨h, h1, h2, e1⟩ := rgN (by omega) (by omega) c1
  obtain ⟨l, l1, l2, e2⟩ := rgN (by omega) (by omega) c2
  obtain ⟨o, o1, o2, e3⟩ := rgN (by omega) (by omega) c3
  obtain ⟨b, b1, b2, e4⟩ := rgN (by omega) (by omega) c4
  exact ⟨h, o, b, l, h2, o2, b2, l2, e1, e3, e4, e2⟩
theorem j_best {post : Int32 → TY → Prop} {v1 v2 v3 v4 v5 : Int32} (hM : Mo (A 19) Y G) (hp : ∀ Y', Mo (A 19) Y' G → MS A Y Y' → post (sBest G v1 v2 v3 v4 v5) Y') : tp_X10_best st post Y (A 19) v1 v2 v3 v4 v5 := by
  have st' := MS.refl A Y
  unfold tp_X10_best
  unfold sBest at hp
  refine q_isWay (bI_el (fun c => ?_) (fun c => ?_))
  rotate_left
  · rw [c] at hp
    exact hp Y hM st'
  obtain ⟨w, w1, w2, rfl⟩ := rgN (by omega) (by omega) c
  have h48 := (hM.1 w (by omega)).1.2.1
  rw [c, cN_nI (by omega)] at hp
  refine j_isPlace hM (by omega) ?_
  show (bI (okP G w v2 v3 v4 v5) = 0 → _) ∧ (¬ bI (okP G w v2 v3 v4 v5) = 0 → _)
  refine bI_el' (fun c2 => ?_) (fun c2 => ?_)
  · rw [c2] at hp
    exact hp Y hM st'
  · rw [c2] at hp
    obtain ⟨h, o, b, l, h2, o2, b2, l2, rfl, rfl, rfl, rfl⟩ := okP_nI (h := 0) (o := 0) (b := 0) (l := 0) h48 c2
    rw [cN_nI (by omega), cN_nI (by omega), cN_nI (by omega), cN_nI (by omega)] at hp
    exact j_bestOf hM (by omega) h2 o2 b2 l2 hp
-- does
def sDoes (G : GD) (v1 v2 v3 v4 v5 : Int32) : Int32 := cond (inB 0 1 v1) (cond (okP G (cN v1) v2 v3 v4 v5) (cdD (dsD (G.1 (cN v1)) G.2.1 (cN v2) (cN v5) (cN v3) (cN v4))) (-2)) (-1)
theorem c_codeD {post : Int32 → Prop} {d : Nat} (hd : d ≤ 10) (hp : post (cdD d)) : tp_X9_codeOf st post Y (dcD d) := by
  by_cases c : d < 10
  · rw [show dcD d = nI d by unfold dcD; rw [if_pos c]]
    exact c_codeOf c hp
  · have : d = 10 := by omega
    subst this
    unfold tp_X9_codeOf
    exact ⟨fun q => absurd q (by decide), fun _ => hp⟩
theorem k_does {post : Int32 → TY → Prop} {mc ms : Nat} {v1 v2 v3 v4 v5 : Int32} (hS : SA st A) (hC : Cl A Y G) (hmc : 2 * zBest A Y G v1 v2 v3 v4 v5 ≤ mc) (hms : 1031 * zBest A Y G v1 v2 v3 v4 v5 ≤ ms) (hp : ∀ Y', Cl A Y' G → CS A (zBest A Y G v1 v2 v3 v4 v5) Y Y' → post (sDoes G v1 v2 v3 v4 v5) Y') : tp_X9_does st post mc ms Y (A 0) v1 v2 v3 v4 v5 := by
  have st' := CS.refl A Y
  have z0 : ∀ n : Nat, 0 ≤ n := Nat.zero_le
  unfold tp_X9_does
  unfold sDoes zBest at hp
  unfold zBest at hmc hms
  refine ⟨z0 _, z0 _, k_planOf hS (fun c => ⟨fun _ => ⟨z0 _, z0 _, ?_⟩, fun y hy => by cases hy⟩) (fun w hw e c => ⟨fun q => (by cases q), fun y hy => ⟨z0 _, z0 _, ?_⟩⟩)⟩
  · rw [c] at hp
    exact hp Y hC st'
  cases hy
  subst e
  rw [c, cN_nI (by omega)] at hp
  rw [c, cN_nI (by omega)] at hmc hms
  unfold okP at hp hmc hms
  refine k_reaches hS hC hw (bI_el' (fun c2 => ⟨z0 _, z0 _, ?_⟩) (fun c2 => ⟨z0 _, z0 _, q_cOwed (bI_el' (fun c3 => ⟨z0 _, z0 _, ?_⟩) (fun c3 => ⟨z0 _, z0 _, q_cBattery (bI_el (fun c4 => ?_) (fun c4 => ⟨z0 _, z0 _, ?_⟩))⟩))⟩))
  · rw [c2] at hp
    exact hp Y hC st'
  · rw [c2, c3] at hp
    exact hp Y hC st'
  · rw [c2, c3, c4] at hp
    rw [c2, c3, c4] at hmc hms
    have c5 : inB 0 (hrs (G.1 w)) v2 = true ∧ inB 0 4 v5 = true := by
      rw [Bool.and_eq_true] at c2
      exact c2
    have h48 := (hC.1.2.1 w hw).1.2.1
    obtain ⟨h, h1, h2, rfl⟩ := rgN (by omega) (by omega) c5.1
    obtain ⟨l, l1, l2, rfl⟩ := rgN (by omega) (by omega) c5.2
    obtain ⟨o, o1, o2, rfl⟩ := rgN (by omega) (by omega) c3
    obtain ⟨b, b1, b2, rfl⟩ := rgN (by omega) (by omega) c4
    rw [cN_nI (by omega), cN_nI (by omega), cN_nI (by omega), cN_nI (by omega)] at hp
    rw [cN_nI (by omega), cN_nI (by omega), cN_nI (by omega)] at hmc hms
    refine ⟨mc, ms, by omega, by omega, c_firstDeed (hC.1.pc hS hw) (hC.2 w hw) hC.1.2.2.1.1 h2 o2 b2 l2 hmc hms (fun Y' F C O nm => ⟨by omega, by omega, c_codeD (dsD_le _ _ _ _ _ _) ⟨by omega, by omega, ?_⟩⟩)⟩
    obtain ⟨d1, d2⟩ := hC.pf hS hw F C O (cnP_zz nm)
    exact hp Y' d1 d2
  · rw [c2, c3, c4] at hp
    exact hp Y hC st'
theorem j_does {post : Int32 → TY → Prop} {v1 v2 v3 v4 v5 : Int32} (hM : Mo (A 19) Y G) (hp : ∀ Y', Mo (A 19) Y' G → MS A Y Y' → post (sDoes G v1 v2 v3 v4 v5) Y') : tp_X10_does st post Y (A 19) v1 v2 v3 v4 v5 := by
  have st' := MS.refl A Y
  unfold tp_X10_does
  unfold sDoes at hp
  refine q_isWay (bI_el (fun c => ?_) (fun c => ?_))
  rotate_left
  · rw [c] at hp
    exact hp Y hM st'
  obtain ⟨w, w1, w2, rfl⟩ := rgN (by omega) (by omega) c
  obtain ⟨a1, a2, a3⟩ := hM.1 w (by omega)
  have h48 := a1.2.1
  rw [c, cN_nI (by omega)] at hp
  refine j_isPlace hM (by omega) ?_
  show (¬ bI (okP G w v2 v3 v4 v5) = 0 → _) ∧ (bI (okP G w v2 v3 v4 v5) = 0 → _)
  refine bI_el (fun c2 => ?_) (fun c2 => ?_)
  · rw [c2] at hp
    obtain ⟨h, o, b, l, h2, o2, b2, l2, rfl, rfl, rfl, rfl⟩ := okP_nI (h := 0) (o := 0) (b := 0) (l := 0) h48 c2
    rw [cN_nI (by omega), cN_nI (by omega), cN_nI (by omega), cN_nI (by omega)] at hp
    rw [nI_clamp (by omega), a2.2.1, eqn (by omega) (by omega)]
    refine ⟨vp_in_nI (by omega) (by omega), fun q => m_doesOf a1 a2 hM.2.1 hM.2.2.1 (by omega) a3 (by omega) o2 b2 l2 (fun Y' bx => ?_), fun q => ?_⟩
    · obtain ⟨d1, d2⟩ := hM.bx (by omega) bx
      exact hp Y' d1 d2
    · rw [dsD_end _ _ (by omega)] at hp
      exact hp Y hM st'
  · rw [c2] at hp
    exact hp Y hM st'
-- logged
def sLogged (G : GD) (v1 v2 v3 v4 : Int32) : Int32 := cond (inB 0 1 v1) (cond (inB 0 20 v2 && inB 0 24 v3) (lgF (G.1 (cN v1)) G.2.1 v4 53 0 0 (cN v2) (cN v3) 4) (-2)) (-1)
def zLogged (A : Nat → Nat) (Y : TY) (G : GD) (v1 v2 v3 : Int32) : Nat := cond (inB 0 1 v1) (cond (inB 0 20 v2 && inB 0 24 v3) (zzP Y (A (13 + cN v1)) (G.1 (cN v1)) 0 (cN v3) 4) 0) 0
theorem zLogged_le {v1 v2 v3 : Int32} : TP A Y + zLogged A Y G v1 v2 v3 ≤ 250 := by
  unfold zLogged
  cases c : inB 0 1 v1
  · show TP A Y + 0 ≤ 250
    rw [Nat.add_zero]
    exact TP_250 A Y
  · obtain ⟨w, w1, w2, rfl⟩ := rgN (by omega) (by omega) c
    rw [cN_nI (by omega)]
    cases c2 : (inB 0 20 v2 && inB 0 24 v3)
    · show TP A Y + 0 ≤ 250
      rw [Nat.add_zero]
      exact TP_250 A Y
    · exact TP_zz (by omega) _ _ _ _
theorem k_logged {post : Int32 → TY → Prop} {mc ms : Nat} {v1 v2 v3 v4 : Int32} (hS : SA st A) (hC : Cl A Y G) (hmc : 2 * zLogged A Y G v1 v2 v3 ≤ mc) (hms : 1031 * zLogged A Y G v1 v2 v3 ≤ ms) (hp : ∀ Y', Cl A Y' G → CS A (zLogged A Y G v1 v2 v3) Y Y' → post (sLogged G v1 v2 v3 v4) Y') : tp_X9_logged st post mc ms Y (A 0) v1 v2 v3 v4 := by
  have st' := CS.refl A Y
  have z0 : ∀ n : Nat, 0 ≤ n := Nat.zero_le
  unfold tp_X9_logged
  unfold sLogged zLogged at hp
  unfold zLogged at hmc hms
  refine ⟨z0 _, z0 _, k_planOf hS (fun c => ⟨fun _ => ⟨z0 _, z0 _, ?_⟩, fun y hy => by cases hy⟩) (fun w hw e c => ⟨fun q => (by cases q), fun y hy => ⟨z0 _, z0 _, ?_⟩⟩)⟩
  · rw [c] at hp
    exact hp Y hC st'
  cases hy
  subst e
  rw [c, cN_nI (by omega)] at hp
  rw [c, cN_nI (by omega)] at hmc hms
  refine q_cOwed (bI_el' (fun c3 => ⟨z0 _, z0 _, ?_⟩) (fun c3 => ⟨z0 _, z0 _, q_cBattery (bI_el (fun c4 => ?_) (fun c4 => ⟨z0 _, z0 _, ?_⟩))⟩))
  · rw [c3] at hp
    exact hp Y hC st'
  · obtain ⟨o, o1, o2, rfl⟩ := rgN (by omega) (by omega) c3
    obtain ⟨b, b1, b2, rfl⟩ := rgN (by omega) (by omega) c4
    rw [c3, c4, cN_nI (by omega), cN_nI (by omega)] at hp
    rw [c3, c4, cN_nI (by omega)] at hmc hms
    refine ⟨mc, ms, by omega, by omega, c_follow (hC.1.pc hS hw) (hC.2 w hw) hC.1.2.2.1.1 o2 b2 hmc hms (fun Y' F C O nm => ⟨by omega, by omega, ?_⟩)⟩
    obtain ⟨d1, d2⟩ := hC.pf hS hw F C O (cnP_zz nm)
    exact hp Y' d1 d2
  · rw [c3, c4] at hp
    exact hp Y hC st'
theorem j_logged {post : Int32 → TY → Prop} {v1 v2 v3 v4 : Int32} (hM : Mo (A 19) Y G) (hp : ∀ Y', Mo (A 19) Y' G → MS A Y Y' → post (sLogged G v1 v2 v3 v4) Y') : tp_X10_logged st post Y (A 19) v1 v2 v3 v4 := by
  have st' := MS.refl A Y
  unfold tp_X10_logged
  unfold sLogged at hp
  refine q_isWay (bI_el (fun c => ?_) (fun c => ?_))
  rotate_left
  · rw [c] at hp
    exact hp Y hM st'
  obtain ⟨w, w1, w2, rfl⟩ := rgN (by omega) (by omega) c
  obtain ⟨a1, a2, a3⟩ := hM.1 w (by omega)
  rw [c, cN_nI (by omega)] at hp
  refine q_isOwed (bI_el' (fun c3 => ?_) (fun c3 => q_isBattery (bI_el (fun c4 => ?_) (fun c4 => ?_))))
  · rw [c3] at hp
    exact hp Y hM st'
  · obtain ⟨o, o1, o2, rfl⟩ := rgN (by omega) (by omega) c3
    obtain ⟨b, b1, b2, rfl⟩ := rgN (by omega) (by omega) c4
    rw [c3, c4, cN_nI (by omega), cN_nI (by omega)] at hp
    refine m_logged a1 a2 hM.2.1 hM.2.2.1 (by omega) a3 o2 b2 (fun Y' bx => ?_)
    rcases bx with rfl | bx
    · exact hp _ hM st'
    · obtain ⟨d1, d2⟩ := hM.bx (by omega) bx
      exact hp Y' d1 d2
  · rw [c3, c4] at hp
    exact hp Y hM st'
end P7
