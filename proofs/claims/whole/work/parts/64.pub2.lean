section P4
variable {st : TS} {A : Nat → Nat} {Y : TY} {G : GD}
-- about
def lgB (W : WD) (v : Int32) : Bool := decide ((0 : Int32) ≤ v ∧ v ≤ nI W.1 - 1)
def abW (W : WD) (k : Nat) (v : Int32) : Int32 := if v = 0 then nI (W.2.1 k) else if v = 1 then nI (W.2.2.1 k) else if v = 2 then nI (W.2.2.2 k) else if v = 3 then nI (hrF W.2.1 k) else -2
def sAbout (G : GD) (v1 v2 v3 : Int32) : Int32 := cond (inB 0 1 v1) (cond (lgB (G.1 (cN v1)) v2) (abW (G.1 (cN v1)) (cN v2) v3) (-1)) (-1)
theorem rgL {W : WD} {v : Int32} (h8 : W.1 ≤ 8) (h : lgB W v = true) : ∃ k, k < W.1 ∧ v = nI k := by
  have h := of_decide_eq_true h
  simp only [i_nI, i_lit, i_sub] at h
  obtain ⟨w, q1, q2, q3⟩ := rgZ (lo := 0) (by omega) (by omega) (by omega) (by omega) h
  exact ⟨w, by omega, q3⟩
theorem abW_at {post : Int32 → Prop} {W : WD} {k : Nat} {v : Int32} (hp : post (abW W k v)) : (v = 0 → post (nI (W.2.1 k))) ∧ (v = 1 → post (nI (W.2.2.1 k))) ∧ (v = 2 → post (nI (W.2.2.2 k))) ∧ (v = 3 → post (nI (hrF W.2.1 k))) ∧ (¬ v = 0 ∧ ¬ v = 1 ∧ ¬ v = 2 ∧ ¬ v = 3 → post (-2)) := by
  unfold abW at hp
  refine ⟨fun q => ?_, fun q => ?_, fun q => ?_, fun q => ?_, fun q => ?_⟩
  · rw [if_pos q] at hp
    exact hp
  · subst q
    rw [if_neg (by decide), if_pos rfl] at hp
    exact hp
  · subst q
    rw [if_neg (by decide), if_neg (by decide), if_pos rfl] at hp
    exact hp
  · subst q
    rw [if_neg (by decide), if_neg (by decide), if_neg (by decide), if_pos rfl] at hp
    exact hp
  · obtain ⟨q0, q1, q2, q3⟩ := q
    rw [if_neg q0, if_neg q1, if_neg q2, if_neg q3] at hp
    exact hp
theorem k_about {post : Int32 → Prop} {v1 v2 v3 : Int32} (hS : SA st A) (hC : Cl A Y G) (hp : post (sAbout G v1 v2 v3)) : tp_X9_about st post Y (A 0) v1 v2 v3 := by
  unfold tp_X9_about
  refine k_wayOf hS (fun c => ⟨fun _ => ?_, fun y hy => by cases hy⟩) (fun w hw e c => ⟨fun q => (by cases q), fun y hy => ?_⟩)
  · rw [show sAbout G v1 v2 v3 = -1 by unfold sAbout; rw [c]; rfl] at hp
    exact hp
  cases hy
  subst e
  have hwW := hC.1.2.1 w hw
  have h8 := hwW.1.1
  unfold sAbout at hp
  rw [c, cN_nI (by omega)] at hp
  unfold tp_X8_hasLeg
  rw [hwW.2.1]
  refine p_within ⟨bI_or _, ?_⟩
  show (¬ bI (lgB (G.1 w) v2) = 0 → _) ∧ (bI (lgB (G.1 w) v2) = 0 → _)
  refine bI_el (fun c2 => ?_) (fun c2 => ?_)
  · rw [c2] at hp
    obtain ⟨k, k1, rfl⟩ := rgL h8 c2
    rw [cN_nI (by omega)] at hp
    obtain ⟨p0, p1, p2, p3, p4⟩ := abW_at (post := post) hp
    obtain ⟨l0, l1, l2⟩ := hwW.2.2.2.1 k k1
    have hv : vp_in (nI k) 8 := vp_in_nI (by omega) (by omega)
    rw [nI_clamp (by omega), l0, l1, l2]
    exact ⟨fun q => ⟨hv, p0 q⟩, fun q => ⟨hv, p1 q⟩, fun q => ⟨hv, p2 q⟩, fun q => c_firstHour hwW k1 (p3 q), p4⟩
  · rw [c2] at hp
    exact hp
theorem j_about {post : Int32 → Prop} {v1 v2 v3 : Int32} (hM : Mo (A 19) Y G) (hp : post (sAbout G v1 v2 v3)) : tp_X10_about st post Y (A 19) v1 v2 v3 := by
  unfold tp_X10_about
  refine q_isWay (bI_el' (fun c => ?_) (fun c => ?_))
  · rw [show sAbout G v1 v2 v3 = -1 by unfold sAbout; rw [c]; rfl] at hp
    exact hp
  obtain ⟨w, w1, w2, rfl⟩ := rgN (by omega) (by omega) c
  obtain ⟨a1, a2, a3⟩ := hM.1 w (by omega)
  have h8 := a1.1
  unfold sAbout at hp
  rw [c, cN_nI (by omega)] at hp
  rw [nI_clamp (by omega), a2.1]
  refine ⟨vp_in_nI (by omega) (by omega), p_in (lo := 0) (hi := nI (G.1 w).1 - 1) ?_⟩
  show (¬ bI (lgB (G.1 w) v2) = 0 → _) ∧ (bI (lgB (G.1 w) v2) = 0 → _)
  refine bI_el (fun c2 => ?_) (fun c2 => ?_)
  · rw [c2] at hp
    obtain ⟨k, k1, rfl⟩ := rgL h8 c2
    rw [cN_nI (by omega)] at hp
    obtain ⟨p0, p1, p2, p3, p4⟩ := abW_at (post := post) hp
    obtain ⟨l0, l1, l2⟩ := a2.2.2.1 k k1
    have key : ∀ j i, i + j = k → tk_X10_about_33 st post Y (A 19) (nI w) (nI k) v3 (j + 1) (nI (hrF (G.1 w).2.1 i)) (nI i) := by
      intro j
      induction j with
      | zero =>
        intro i hi
        have : i = k := by omega
        subst this
        rw [tk_X10_about_33]
        refine ⟨fun _ x ex => ?_, fun q => absurd (Int32.le_refl _) q⟩
        rw [show (8 : Int32) = nI 8 from rfl, ix 8 (by omega) (by omega) (by omega)] at ex
        have hv : vp_in x 16 := by rw [ex]; exact vp_in_nI (by omega) (by omega)
        rw [show x.toNatClampNeg = 8 * w + i by rw [ex]; exact nI_clamp (by omega), l0, l1, l2]
        exact ⟨fun q => ⟨hv, p0 q⟩, fun q => ⟨hv, p1 q⟩, fun q => ⟨hv, p2 q⟩, p3, p4⟩
      | succ j ih =>
        intro i hi
        rw [tk_X10_about_33, nI_leI (by omega) (by omega), show (8 : Int32) = nI 8 from rfl, show nI 8 * nI w + nI i = nI (8 * w + i) from ix 8 (by omega) (by omega) (by omega), nI_clamp (by omega), (a2.2.2.1 i (by omega)).1, nI_add]
        refine ⟨fun q => by omega, fun _ => ⟨vp_in_nI (by omega) (by omega), fun x ex x2 ex2 => ?_⟩⟩
        rw [ex, ex2, show nI i + (1 : Int32) = nI (i + 1) from nI_1 i]
        exact ih (i + 1) (by omega)
    exact ⟨k + 1, key k 0 (by omega)⟩
  · rw [c2] at hp
    exact hp
-- nap
def sNap (G : GD) (v1 v2 v3 : Int32) : Int32 × GD := cond (inB 1 3 v1 && inB 0 1 v2) (if v2 = 0 then cond (inB 0 9 v3) (nI (G.2.1.1 (cN v1)), (G.1, gvN G.2.1 (cN v1) (cN v3), G.2.2)) (-2, G) else cond (inB 0 1000 v3) (nI (G.2.1.2 (cN v1)), (G.1, dpN G.2.1 (cN v1) (cN v3), G.2.2)) (-2, G)) (-2, G)
theorem Cb.nap {Y1 : TY} {N' : ND} (hS : SA st A) (hC : Cb A Y G) (ox : OX (· = A 10) Y Y1) (hN : NapP Y1 (A 10) N') : Cb A Y1 (G.1, N', G.2.2) ∧ CS A 0 Y Y1 := by
  have oxn : OX (nm A (fun i => i = 10)) Y Y1 := ox.mono (fun b e => ⟨10, by omega, rfl, e⟩)
  exact ⟨hC.up hS oxn (fun u hu e => by omega) (fun u hu e => rfl) (fun _ => hN) (fun q => absurd rfl q) (hC.2.2.2.2.ox hS oxn (fun i _ q => by omega) rfl), oxn.cs hS (by omega)⟩
theorem k_nap {post : Int32 → TY → Prop} {v1 v2 v3 : Int32} (hS : SA st A) (hC : Cl A Y G) (hp : ∀ Y', Cl A Y' (sNap G v1 v2 v3).2 → CS A 0 Y Y' → post (sNap G v1 v2 v3).1 Y') : tp_X9_nap st post Y (A 0) v1 v2 v3 := by
  have st' := CS.refl A Y
  unfold tp_X9_nap
  refine q_within 1 3 (bI_el' (fun c => ?_) (fun c => q_within 0 1 (bI_el (fun c2 => ?_) (fun c2 => ?_))))
  · rw [show sNap G v1 v2 v3 = (-2, G) by unfold sNap; rw [c]; rfl] at hp
    exact hp Y hC st'
  · obtain ⟨k, k1, k2, rfl⟩ := rgN (by omega) (by omega) c
    unfold sNap at hp
    rw [c, c2, cN_nI (by omega)] at hp
    unfold tk_X9_nap_35 tk_X9_nap_75
    rw [hS.2.1, hS.2.2.2.2.1]
    refine ⟨fun z => ?_, fun z => ?_⟩
    · rw [if_neg z] at hp
      refine q_within 0 1000 (bI_el (fun c3 => ⟨fun _ => ?_, fun q => absurd q z⟩) (fun c3 => ?_))
      · obtain ⟨v, x1, x2, rfl⟩ := rgN (by omega) (by omega) c3
        rw [c3, cN_nI (by omega)] at hp
        refine c_changeDeep hC.1.2.2.1 k1 k2 x2 (fun Y1 ox1 N1 => ?_)
        obtain ⟨b1, b2⟩ := hC.1.nap hS ox1 N1
        exact k_forgetPlans hS b1 (fun Y2 C2 s2 => hp Y2 C2 (by have := b2.trans s2; exact this))
      · rw [c3] at hp
        exact hp Y hC st'
    · rw [if_pos z] at hp
      refine q_within 0 9 (bI_el (fun c3 => ⟨fun q => absurd z q, fun _ => ?_⟩) (fun c3 => ?_))
      · obtain ⟨v, x1, x2, rfl⟩ := rgN (by omega) (by omega) c3
        rw [c3, cN_nI (by omega)] at hp
        refine c_changeGive hC.1.2.2.1 k1 k2 x2 (fun Y1 ox1 N1 => ?_)
        obtain ⟨b1, b2⟩ := hC.1.nap hS ox1 N1
        exact k_forgetPlans hS b1 (fun Y2 C2 s2 => hp Y2 C2 (by have := b2.trans s2; exact this))
      · rw [c3] at hp
        exact hp Y hC st'
  · rw [show sNap G v1 v2 v3 = (-2, G) by unfold sNap; rw [c, c2]; rfl] at hp
    exact hp Y hC st'
def scN (t : Nat) : Prop := t = 7 ∨ t = 8 ∨ t = 20
theorem Mo.nap {m : Nat} {Y' : TY} {N' : ND} (hM : Mo m Y G) (mx : MX m scN Y Y') (hN : wfN N') (hn : MNP Y' m N') (h20 : ∀ w, w < 2 → tA Y' m 20 w = 0) : Mo m Y' (G.1, N', G.2.2) := by
  obtain ⟨h1, h2, h3, h4, h5⟩ := hM
  refine ⟨fun w hw => ⟨(h1 w hw).1, mx.mw (fun t q z => by unfold scN at z; omega) (h1 w hw).2.1, Or.inl (h20 w hw)⟩, hN, hn, mx.mp (fun t q1 q2 z => by unfold scN at z; omega) h4, fun n hn => ?_⟩
  obtain ⟨b1, b2⟩ := h5 n hn
  exact ⟨by rw [(mx.2.1 24 (by unfold scN; omega)).2]; exact b1, fun hk => ⟨(b2 hk).1, (b2 hk).2.1, (b2 hk).2.2.mv (mx.2.1 23 (by unfold scN; omega)).2⟩⟩
theorem j_nap94 {post : Int32 → TY → Prop} {v1 v2 v3 r : Int32} {N' : ND} {Y1 : TY} (hM : Mo (A 19) Y G) (mx : MX (A 19) scN Y Y1) (hN : wfN N') (hn : MNP Y1 (A 19) N') (hp : ∀ Y', Mo (A 19) Y' (G.1, N', G.2.2) → MS A Y Y' → post r Y') : tk_X10_nap_94 st post (A 19) v1 v2 v3 Y1 r := by
  unfold tk_X10_nap_94
  refine ⟨(show vp_in (nI 0) 2 from vp_in_nI (by decide) (by decide)), fun Y2 e2 => ⟨(show vp_in (nI 1) 2 from vp_in_nI (by decide) (by decide)), fun Y3 e3 => ?_⟩⟩
  have mx3 : MX (A 19) scN Y Y3 := by
    refine mx.trans ?_
    rw [e3, e2]
    exact (MX.sF (S := scN) (Or.inr (Or.inr rfl))).trans (MX.sF (S := scN) (Or.inr (Or.inr rfl)))
  refine hp Y3 (hM.nap mx3 hN ?_ (fun w hw => ?_)) mx3.ms
  · unfold MNP at hn ⊢
    rw [e3, tA_other _ _ (by decide), tA_other _ _ (by decide), e2, tA_other _ _ (by decide), tA_other _ _ (by decide)]
    exact hn
  · have : w = 0 ∨ w = 1 := by omega
    rcases this with rfl | rfl
    · rw [e3, tA_same, show (1 : Int32).toNatClampNeg = 1 from rfl, pk_un (by decide), e2, tA_same, show (0 : Int32).toNatClampNeg = 0 from rfl, pk_us]
      rfl
    · rw [e3, tA_same, show (1 : Int32).toNatClampNeg = 1 from rfl, pk_us]
      rfl
theorem j_nap {post : Int32 → TY → Prop} {v1 v2 v3 : Int32} (hM : Mo (A 19) Y G) (hp : ∀ Y', Mo (A 19) Y' (sNap G v1 v2 v3).2 → MS A Y Y' → post (sNap G v1 v2 v3).1 Y') : tp_X10_nap st post Y (A 19) v1 v2 v3 := by
  have st' := MS.refl A Y
  unfold tp_X10_nap
  refine q_in 1 3 (bI_el' (fun c => ?_) (fun c => q_isEnd (bI_el' (fun c2 => ?_) (fun c2 => ?_))))
  · rw [show sNap G v1 v2 v3 = (-2, G) by unfold sNap; rw [c]; rfl] at hp
    exact hp Y hM st'
  · rw [show sNap G v1 v2 v3 = (-2, G) by unfold sNap; rw [c, c2]; rfl] at hp
    exact hp Y hM st'
  · obtain ⟨k, k1, k2, rfl⟩ := rgN (by omega) (by omega) c
    unfold sNap at hp
    rw [c, c2, cN_nI (by omega)] at hp
    have ek : nI k - (1 : Int32) = nI (k - 1) := pk_sub (b := 1) k1
    have hv : vp_in (nI (k - 1)) 3 := vp_in_nI (by omega) (by omega)
    obtain ⟨n1, n2⟩ := hM.2.2.1 k k1 k2
    unfold tk_X10_nap_35 tk_X10_nap_67
    rw [ek, nI_clamp (by omega), n1, n2]
    refine ⟨fun z => ?_, fun z => ?_⟩
    · rw [if_neg z] at hp
      refine q_in 0 1000 (bI_el (fun c3 => ⟨fun _ => ⟨hv, fun _ => ⟨hv, fun Y1 e1 => ?_⟩, fun q => absurd q z⟩, fun q => absurd q z⟩) (fun c3 => ?_))
      · obtain ⟨v, x1, x2, rfl⟩ := rgN (by omega) (by omega) c3
        rw [c3, cN_nI (by omega)] at hp
        refine j_nap94 (N' := dpN G.2.1 k v) hM (by rw [e1]; exact MX.sF (S := scN) (Or.inr (Or.inl rfl))) (dpN_wf hM.2.1 x2) (fun i q1 q2 => ?_) hp
        show _ = nI (G.2.1.1 i) ∧ _ = nI (va_up G.2.1.2 k v i)
        rw [e1, tA_other _ _ (by decide), tA_same]
        by_cases c : i = k
        · subst c
          rw [pk_us, va_up_self]
          exact ⟨n1, rfl⟩
        · rw [pk_un (by omega), va_up_ne _ _ c]
          exact hM.2.2.1 i q1 q2
      · rw [c3] at hp
        exact hp Y hM st'
    · rw [if_pos z] at hp
      refine q_in 0 9 (bI_el (fun c3 => ⟨fun q => absurd z q, fun _ => ⟨hv, fun q => absurd z q, fun _ => ⟨hv, fun Y1 e1 => ?_⟩⟩⟩) (fun c3 => ?_))
      · obtain ⟨v, x1, x2, rfl⟩ := rgN (by omega) (by omega) c3
        rw [c3, cN_nI (by omega)] at hp
        refine j_nap94 (N' := gvN G.2.1 k v) hM (by rw [e1]; exact MX.sF (S := scN) (Or.inl rfl)) (gvN_wf hM.2.1 x2) (fun i q1 q2 => ?_) hp
        show _ = nI (va_up G.2.1.1 k v i) ∧ _ = nI (G.2.1.2 i)
        rw [e1, tA_same, tA_other _ _ (by decide)]
        by_cases c : i = k
        · subst c
          rw [pk_us, va_up_self]
          exact ⟨rfl, n2⟩
        · rw [pk_un (by omega), va_up_ne _ _ c]
          exact hM.2.2.1 i q1 q2
      · rw [c3] at hp
        exact hp Y hM st'
-- owed, risk
def hrB (W : WD) (v : Int32) : Bool := decide ((0 : Int32) ≤ v ∧ v ≤ nI (hrs W) - 1)
theorem rgH {W : WD} {v : Int32} (h48 : hrs W ≤ 48) (h : hrB W v = true) : ∃ k, k < hrs W ∧ v = nI k := by
  have h := of_decide_eq_true h
  simp only [i_nI, i_lit, i_sub] at h
  obtain ⟨w, q1, q2, q3⟩ := rgZ (lo := 0) (by omega) (by omega) (by omega) (by omega) h
  exact ⟨w, by omega, q3⟩
theorem q_hasHour {post : Int32 → Prop} {v : Int32} {a : Nat} {W : WD} (hw : WayP Y a W) (hp : post (bI (hrB W v))) : tp_X8_hasHour st post Y a v := by
  have h48 := hw.1.2.1
  unfold tp_X8_hasHour
  rw [hw.2.2.1]
  obtain ⟨x, x1, x2, rfl⟩ := i_rng v
  have e : hrB W (iI x) = decide (0 ≤ x ∧ x < (hrs W : Int)) := by
    unfold hrB
    apply decide_eq_decide.mpr
    simp (disch := omega) only [i_nI, i_lit, i_sub, i_le]
    omega
  rw [e] at hp
  simp (disch := omega) only [i_nI, i_lit, i_lt, i_le]
  refine ⟨fun c => bI_f hp (decide_eq_false (by omega)), fun c => ⟨fun c2 => bI_f hp (decide_eq_false (by omega)), fun c2 => bI_t hp (decide_eq_true (by omega))⟩⟩
theorem q_isHour {post : Int32 → Prop} {v : Int32} {w : Nat} {W : WD} (hm : MWP Y (A 19) w W) (hw : w < 2) (hp : post (bI (hrB W v))) : tp_X10_isHour st post Y (A 19) (nI w) v := by
  unfold tp_X10_isHour
  rw [nI_clamp (by omega), hm.2.1]
  exact ⟨vp_in_nI (by omega) (by omega), p_in (lo := 0) (hi := nI (hrs W) - 1) ⟨bI_or _, hp⟩⟩
def sOwed (G : GD) (v1 v2 v3 v4 : Int32) : Int32 := cond (inB 0 1 v1) (cond (hrB (G.1 (cN v1)) v2 && inB 0 20 v3 && inB 0 4 v4) (cond (letB (G.1 (cN v1)) (cN v2) (cN v4)) (nI (owB (G.1 (cN v1)) G.2.1 (cN v2) (cN v3) (cN v4))) (-5)) (-2)) (-1)
theorem k_owed {post : Int32 → Prop} {v1 v2 v3 v4 : Int32} (hS : SA st A) (hC : Cl A Y G) (hp : post (sOwed G v1 v2 v3 v4)) : tp_X9_owed st post Y (A 0) v1 v2 v3 v4 := by
  unfold tp_X9_owed
  refine k_wayOf hS (fun c => ⟨fun _ => ?_, fun y hy => by cases hy⟩) (fun w hw e c => ⟨fun q => (by cases q), fun y hy => ?_⟩)
  · rw [show sOwed G v1 v2 v3 v4 = -1 by unfold sOwed; rw [c]; rfl] at hp
    exact hp
  cases hy
  subst e
  have hwW := hC.1.2.1 w hw
  have h48 := hwW.1.2.1
  unfold sOwed at hp
  rw [c, cN_nI (by omega)] at hp
  rw [hS.2.1, hS.2.2.2.2.1]
  refine q_hasHour hwW (bI_el' (fun c2 => ?_) (fun c2 => q_cOwed (bI_el' (fun c3 => ?_) (fun c3 => q_cThing (bI_el (fun c4 => ?_) (fun c4 => ?_))))))
  · rw [c2] at hp
    exact hp
  · rw [c2, c3] at hp
    exact hp
  · obtain ⟨h, h1, rfl⟩ := rgH h48 c2
    obtain ⟨o, o1, o2, rfl⟩ := rgN (by omega) (by omega) c3
    obtain ⟨t, t1, t2, rfl⟩ := rgN (by omega) (by omega) c4
    rw [c2, c3, c4, cN_nI (by omega), cN_nI (by omega), cN_nI (by omega)] at hp
    refine p_lets hwW (by omega) t2 (bI_el (fun c5 => ?_) (fun c5 => ?_))
    · rw [c5] at hp
      exact c_owedBehind hwW hC.1.2.2.1 (by omega) o2 t2 hp
    · rw [c5] at hp
      exact hp
  · rw [c2, c3, c4] at hp
    exact hp
theorem j_owed {post : Int32 → Prop} {v1 v2 v3 v4 : Int32} (hM : Mo (A 19) Y G) (hp : post (sOwed G v1 v2 v3 v4)) : tp_X10_owed st post Y (A 19) v1 v2 v3 v4 := by
  unfold tp_X10_owed
  refine q_isWay (bI_el (fun c => ?_) (fun c => ?_))
  rotate_left
  · rw [show sOwed G v1 v2 v3 v4 = -1 by unfold sOwed; rw [c]; rfl] at hp
    exact hp
  obtain ⟨w, w1, w2, rfl⟩ := rgN (by omega) (by omega) c
  obtain ⟨a1, a2, a3⟩ := hM.1 w (by omega)
  have h48 := a1.2.1
  unfold sOwed at hp
  rw [c, cN_nI (by omega)] at hp
  refine q_isHour a2 (by omega) (bI_el' (fun c2 => ?_) (fun c2 => q_isOwed (bI_el' (fun c3 => ?_) (fun c3 => q_in 0 4 (bI_el (fun c4 => ?_) (fun c4 => ?_))))))
  · rw [c2] at hp
    exact hp
  · rw [c2, c3] at hp
    exact hp
  · obtain ⟨h, h1, rfl⟩ := rgH h48 c2
    obtain ⟨o, o1, o2, rfl⟩ := rgN (by omega) (by omega) c3
    obtain ⟨t, t1, t2, rfl⟩ := rgN (by omega) (by omega) c4
    rw [c2, c3, c4, cN_nI (by omega), cN_nI (by omega), cN_nI (by omega)] at hp
    refine m_canBe a1 a2 (by omega) (by omega) t2 (bI_el' (fun c5 => ?_) (fun c5 => ?_))
    · rw [c5] at hp
      exact hp
    · rw [c5] at hp
      exact m_owedBehind a1 a2 hM.2.1 hM.2.2.1 (by omega) h1 o2 t2 hp
  · rw [c2, c3, c4] at hp
    exact hp
def sRisk (G : GD) (v1 v2 v3 v4 v5 : Int32) : Int32 := cond (inB 0 1 v1) (cond (hrB (G.1 (cN v1)) v2 && inB 0 20 v3 && inB 0 4 v4 && inB 0 1 v5) (cond (letB (G.1 (cN v1)) (cN v2) (cN v4) && !(decide (cN v4 = 0) && decide (cN v5 = 1))) (nI (shp (G.1 (cN v1)) (cN v2) * blB G.2.1 (cN v4) (cN v5) (cN v3))) (-5)) (-2)) (-1)
theorem k_risk {post : Int32 → Prop} {v1 v2 v3 v4 v5 : Int32} (hS : SA st A) (hC : Cl A Y G) (hp : post (sRisk G v1 v2 v3 v4 v5)) : tp_X9_risk st post Y (A 0) v1 v2 v3 v4 v5 := by
  unfold tp_X9_risk
  refine k_wayOf hS (fun c => ⟨fun _ => ?_, fun y hy => by cases hy⟩) (fun w hw e c => ⟨fun q => (by cases q), fun y hy => ?_⟩)
  · rw [show sRisk G v1 v2 v3 v4 v5 = -1 by unfold sRisk; rw [c]; rfl] at hp
    exact hp
  cases hy
  subst e
  have hwW := hC.1.2.1 w hw
  have h48 := hwW.1.2.1
  unfold sRisk at hp
  rw [c, cN_nI (by omega)] at hp
  rw [hS.2.1, hS.2.2.2.2.1]
  refine q_hasHour hwW (bI_el' (fun c2 => ?_) (fun c2 => q_cOwed (bI_el' (fun c3 => ?_) (fun c3 => q_cThing (bI_el' (fun c4 => ?_) (fun c4 => q_within 0 1 (bI_el (fun c5 => ?_) (fun c5 => ?_))))))))
  · rw [c2] at hp
    exact hp
  · rw [c2, c3] at hp
    exact hp
  · rw [c2, c3, c4] at hp
    exact hp
  · obtain ⟨h, h1, rfl⟩ := rgH h48 c2
    obtain ⟨o, o1, o2, rfl⟩ := rgN (by omega) (by omega) c3
    obtain ⟨t, t1, t2, rfl⟩ := rgN (by omega) (by omega) c4
    obtain ⟨b, b1, b2, rfl⟩ := rgN (by omega) (by omega) c5
    rw [c2, c3, c4, c5, cN_nI (by omega), cN_nI (by omega), cN_nI (by omega), cN_nI (by omega)] at hp
    intro x ex
    rw [show (2 : Int32) = nI 2 from rfl, pk_mul, nI_add] at ex
    rw [ex, show (1 : Int32) = nI 1 from rfl, eqn (by omega) (by omega)]
    refine ⟨fun z => ?_, fun z => p_lets hwW (by omega) t2 (bI_el (fun c6 => ?_) (fun c6 => ?_))⟩
    · rw [show (decide (t = 0) && decide (b = 1)) = true by rw [decide_eq_true (show t = 0 by omega), decide_eq_true (show b = 1 by omega)]; rfl, Bool.not_true, Bool.and_false] at hp
      exact hp
    · have : (decide (t = 0) && decide (b = 1)) = false := by
        by_cases ct : t = 0
        · rw [decide_eq_false (show ¬ b = 1 by omega), Bool.and_false]
        · rw [decide_eq_false ct, Bool.false_and]
      rw [c6, this] at hp
      refine p_shipsAt hwW (by omega) (c_blindOf hC.1.2.2.1 o2 t2 b2 ?_)
      rw [if_pos h1, pk_mul]
      exact hp
    · rw [c6] at hp
      exact hp
  · rw [c2, c3, c4, c5] at hp
    exact hp
theorem j_risk {post : Int32 → Prop} {v1 v2 v3 v4 v5 : Int32} (hM : Mo (A 19) Y G) (hp : post (sRisk G v1 v2 v3 v4 v5)) : tp_X10_risk st post Y (A 19) v1 v2 v3 v4 v5 := by
  unfold tp_X10_risk
  refine q_isWay (bI_el (fun c => ?_) (fun c => ?_))
  rotate_left
  · rw [show sRisk G v1 v2 v3 v4 v5 = -1 by unfold sRisk; rw [c]; rfl] at hp
    exact hp
  obtain ⟨w, w1, w2, rfl⟩ := rgN (by omega) (by omega) c
  obtain ⟨a1, a2, a3⟩ := hM.1 w (by omega)
  have h48 := a1.2.1
  unfold sRisk at hp
  rw [c, cN_nI (by omega)] at hp
  refine q_isHour a2 (by omega) (bI_el' (fun c2 => ?_) (fun c2 => q_isOwed (bI_el' (fun c3 => ?_) (fun c3 => q_in 0 4 (bI_el' (fun c4 => ?_) (fun c4 => q_isEnd (bI_el (fun c5 => ?_) (fun c5 => ?_))))))))
  · rw [c2] at hp
    exact hp
  · rw [c2, c3] at hp
    exact hp
  · rw [c2, c3, c4] at hp
    exact hp
  · obtain ⟨h, h1, rfl⟩ := rgH h48 c2
    obtain ⟨o, o1, o2, rfl⟩ := rgN (by omega) (by omega) c3
    obtain ⟨t, t1, t2, rfl⟩ := rgN (by omega) (by omega) c4
    obtain ⟨b, b1, b2, rfl⟩ := rgN (by omega) (by omega) c5
    rw [c2, c3, c4, c5, cN_nI (by omega), cN_nI (by omega), cN_nI (by omega), cN_nI (by omega)] at hp
    have e0 : (nI t = 0) = (t = 0) := by rw [show (0 : Int32) = nI 0 from rfl, eqn (by omega) (by omega)]
    have e1 : (nI b = 0) = (b = 0) := by rw [show (0 : Int32) = nI 0 from rfl, eqn (by omega) (by omega)]
    have go : letB (G.1 w) h t = true → ¬ (t = 0 ∧ b = 1) → tk_X10_risk_70 st post Y (A 19) (nI w) (nI h) (nI o) (nI t) (nI b) := by
      intro c6 z
      have : (decide (t = 0) && decide (b = 1)) = false := by
        by_cases ct : t = 0
        · rw [decide_eq_false (show ¬ b = 1 by omega), Bool.and_false]
        · rw [decide_eq_false ct, Bool.false_and]
      rw [c6, this] at hp
      unfold tk_X10_risk_70 tk_X10_risk_75
      exact ⟨fun q => absurd q (by decide), fun _ => m_riskOf a1 a2 hM.2.1 hM.2.2.1 (by omega) h1 o2 t2 b2 hp⟩
    have no : post (-5) → tk_X10_risk_74 st post Y (A 19) (nI w) (nI h) (nI o) (nI t) (nI b) := by
      intro hq
      unfold tk_X10_risk_74 tk_X10_risk_75
      exact ⟨fun _ => hq, fun q => absurd rfl q⟩
    rw [e0, e1]
    refine m_canBe a1 a2 (by omega) (by omega) t2 (bI_el' (fun c6 => no ?_) (fun c6 => ⟨fun ct => go c6 (fun z => ct z.1), fun ct => ⟨fun cb => no ?_, fun cb => go c6 (fun z => by omega)⟩⟩))
    · rw [c6] at hp
      exact hp
    · rw [show (decide (t = 0) && decide (b = 1)) = true by rw [decide_eq_true ct, decide_eq_true (show b = 1 by omega)]; rfl, Bool.not_true, Bool.and_false] at hp
      exact hp
  · rw [c2, c3, c4, c5] at hp
    exact hp
end P4
