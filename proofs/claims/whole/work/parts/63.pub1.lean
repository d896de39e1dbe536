-- THE CALLS, one by one: what both answer, and what state is left
def inB (lo hi : Nat) (v : Int32) : Bool := decide (nI lo ≤ v ∧ v ≤ nI hi)
def cN (v : Int32) : Nat := v.toNatClampNeg
theorem cN_nI {w : Nat} (h : w < 2147483648) : cN (nI w) = w := nI_clamp h
theorem rgZ {v : Int32} {lo z : Int} (h0 : 0 ≤ lo) (h1 : lo < 1000000000) (h2 : -1000 ≤ z) (h3 : z < 1000000000) (h : iI lo ≤ v ∧ v ≤ iI z) : ∃ w : Nat, lo ≤ (w : Int) ∧ (w : Int) ≤ z ∧ v = nI w := by
  obtain ⟨x, x1, x2, rfl⟩ := i_rng v
  rw [i_le (by omega) (by omega) (by omega) (by omega), i_le (by omega) (by omega) (by omega) (by omega)] at h
  refine ⟨x.toNat, by omega, by omega, ?_⟩
  rw [i_nI]
  congr 1
  omega
theorem rgN {v : Int32} {lo hi : Nat} (h1 : lo < 1000000000) (h2 : hi < 1000000000) (h : inB lo hi v = true) : ∃ w : Nat, lo ≤ w ∧ w ≤ hi ∧ v = nI w := by
  have h := of_decide_eq_true h
  rw [i_nI, i_nI] at h
  obtain ⟨w, q1, q2, q3⟩ := rgZ (by omega) (by omega) (by omega) (by omega) h
  exact ⟨w, by omega, by omega, q3⟩
section PU
variable {st : TS} {A : Nat → Nat} {Y : TY} {G : GD}
theorem q_within {post : Int32 → Prop} {v : Int32} (lo hi : Nat) (hp : post (bI (inB lo hi v))) : tp_X9_within st post Y v (nI lo) (nI hi) := p_within hp
theorem q_in {post : Int32 → Prop} {v : Int32} (lo hi : Nat) (hp : post (bI (inB lo hi v))) : tp_X10_in st post Y v.toInt64 (nI lo).toInt64 (nI hi).toInt64 := p_in hp
theorem q_isWay {post : Int32 → Prop} {v : Int32} (hp : post (bI (inB 0 1 v))) : tp_X10_isWay st post Y v := p_isWay hp
theorem q_isEnd {post : Int32 → Prop} {v : Int32} (hp : post (bI (inB 0 1 v))) : tp_X10_isEnd st post Y v := p_isEnd hp
theorem q_isOwed {post : Int32 → Prop} {v : Int32} (hp : post (bI (inB 0 20 v))) : tp_X10_isOwed st post Y v := p_isOwed hp
theorem q_isBattery {post : Int32 → Prop} {v : Int32} (hp : post (bI (inB 0 24 v))) : tp_X10_isBattery st post Y v := p_isBattery hp
theorem q_cOwed {post : Int32 → Prop} {v : Int32} (hp : post (bI (inB 0 20 v))) : tp_X9_isOwed st post Y v := p_cOwed hp
theorem q_cBattery {post : Int32 → Prop} {v : Int32} (hp : post (bI (inB 0 24 v))) : tp_X9_isBattery st post Y v := p_cBattery hp
theorem q_cThing {post : Int32 → Prop} {v : Int32} (hp : post (bI (inB 0 4 v))) : tp_X9_isThing st post Y v := p_cThing hp
theorem k_planOf {post : Option Nat → Prop} {v : Int32} (hS : SA st A) (h0 : inB 0 1 v = false → post none) (h1 : ∀ w, w < 2 → v = nI w → inB 0 1 v = true → post (some (A (13 + w)))) : tp_X9_planOf st post Y (A 0) v := by
  unfold tp_X9_planOf
  refine q_within 0 1 (bI_el' h0 (fun c => ?_))
  obtain ⟨w, w1, w2, rfl⟩ := rgN (by omega) (by omega) c
  rw [nI_clamp (by omega)]
  exact ⟨vp_in_nI (by omega) (by omega), _, (hS.2.2.2.2.2.2.2.1 w (by omega)).2.1, h1 w (by omega) rfl c⟩
theorem k_wayOf {post : Option Nat → Prop} {v : Int32} (hS : SA st A) (h0 : inB 0 1 v = false → post none) (h1 : ∀ w, w < 2 → v = nI w → inB 0 1 v = true → post (some (A (4 + w)))) : tp_X9_wayOf st post Y (A 0) v := by
  unfold tp_X9_wayOf
  refine q_within 0 1 (bI_el' h0 (fun c => ?_))
  obtain ⟨w, w1, w2, rfl⟩ := rgN (by omega) (by omega) c
  rw [nI_clamp (by omega), hS.2.1]
  exact ⟨vp_in_nI (by omega) (by omega), _, (hS.2.2.2.2.2.2.2.1 w (by omega)).1, h1 w (by omega) rfl c⟩
theorem Cl.chg {Y1 Y2 : TY} {w : Nat} {W' : WD} (hS : SA st A) (hC : Cl A Y G) (hw : w < 2) (ox : OX (· = A (4 + w)) Y Y1) (hW : WayP Y1 (A (4 + w)) W') (F : PF st (A (13 + w)) Y1 Y2) (hP : tP Y2 (A (13 + w)) = tP Y1 (A (13 + w))) (h49 : ∀ i b, i < 125 → tP Y1 (A (13 + w)) i = some b → tI Y2 b 0 = nI 49) : Cl A Y2 (va_up G.1 w W', G.2) ∧ CS A 0 Y Y2 := by
  have oxn : OX (nm A (fun i => i = 4 + w)) Y Y1 := ox.mono (fun b e => ⟨4 + w, by omega, rfl, e⟩)
  have hb1 : Cb A Y1 (va_up G.1 w W', G.2) := by
    refine hC.1.up hS oxn (fun u hu e => ?_) (fun u hu e => ?_) (fun e => by omega) (fun _ => rfl) (hC.1.2.2.2.2.ox hS oxn (fun i _ q => by omega) rfl)
    · have : u = w := by omega
      subst this
      show WayP Y1 (A (4 + u)) (va_up G.1 u W' u)
      rw [va_up_self]
      exact hW
    · exact va_up_ne _ _ (by omega)
  obtain ⟨f1, f2, f3, f4⟩ := hb1.fg hS hw F hP h49
  refine ⟨⟨f1, fun u hu => ?_⟩, by have := (oxn.cs hS (by omega)).trans f2; exact this⟩
  by_cases c : u = w
  · subst c
    exact f3
  · refine f4 u hu c ?_
    have e : (va_up G.1 w W', G.2).1 u = G.1 u := va_up_ne _ _ c
    rw [e]
    refine (hC.2 u hu).keep (ox.2.2 _) (fun i b hb => ?_)
    obtain ⟨o1, o2, o3⟩ := oxn.1 b (hC.1.np ((hC.1.2.2.2.1.1 u hu).1 i b hb))
    exact ⟨o1, o2⟩
theorem k_forgetPlans {post : TY → Prop} (hS : SA st A) (hB : Cb A Y G) (hp : ∀ Y', Cl A Y' G → CS A 0 Y Y' → post Y') : tp_X9_forgetPlans st post Y (A 0) := by
  unfold tp_X9_forgetPlans
  refine ⟨3, ?_⟩
  rw [tk_X9_forgetPlans_2]
  refine ⟨fun q => absurd q (by decide), fun _ => ⟨(show vp_in (nI 0) 2 from vp_in_nI (by decide) (by decide)), _, (hS.2.2.2.2.2.2.2.1 0 (by omega)).2.1, ?_⟩⟩
  refine c_forget (fun Y1 F1 P1 I1 _ _ x ex => ?_)
  obtain ⟨f1, f2, f3, f4⟩ := hB.fg hS (w := 0) (by omega) F1 P1 I1
  rw [ex, tk_X9_forgetPlans_2]
  refine ⟨fun q => absurd q (by decide), fun _ => ⟨(show vp_in (nI 1) 2 from vp_in_nI (by decide) (by decide)), _, (hS.2.2.2.2.2.2.2.1 1 (by omega)).2.1, ?_⟩⟩
  refine c_forget (fun Y2 F2 P2 I2 _ _ x2 ex2 => ?_)
  obtain ⟨g1, g2, g3, g4⟩ := f1.fg hS (w := 1) (by omega) F2 P2 I2
  rw [ex2, tk_X9_forgetPlans_2]
  refine ⟨fun _ => hp Y2 ⟨g1, fun u hu => ?_⟩ (by have := f2.trans g2; exact this), fun q => absurd (by decide) q⟩
  have : u = 0 ∨ u = 1 := by omega
  rcases this with rfl | rfl
  · exact g4 0 hu (by omega) f3
  · exact g3
-- leg
def sLeg (G : GD) (v1 v2 v3 v4 : Int32) : Int32 × GD :=
  cond (inB 0 1 v1) (cond (inB 1 24 v2 && inB 0 500 v3 && inB 0 1 v4) (cond (decide ((G.1 (cN v1)).1 < 8 ∧ hrs (G.1 (cN v1)) + cN v2 ≤ 48)) (nI (hrs (G.1 (cN v1)) + cN v2), (va_up G.1 (cN v1) (addL (G.1 (cN v1)) (cN v2) (cN v3) (cN v4)), G.2)) (-4, G)) (-2, G)) (-1, G)
theorem k_leg {post : Int32 → TY → Prop} {v1 v2 v3 v4 : Int32} (hS : SA st A) (hC : Cl A Y G) (hp : ∀ Y', Cl A Y' (sLeg G v1 v2 v3 v4).2 → CS A 0 Y Y' → post (sLeg G v1 v2 v3 v4).1 Y') : tp_X9_leg st post Y (A 0) v1 v2 v3 v4 := by
  have st' := CS.refl A Y
  unfold tp_X9_leg
  refine k_planOf hS (fun c => ⟨fun _ => ?_, fun y hy => by cases hy⟩) (fun w hw e c => ⟨fun q => (by cases q), fun y hy => ?_⟩)
  · rw [show sLeg G v1 v2 v3 v4 = (-1, G) by unfold sLeg; rw [c]; rfl] at hp
    exact hp Y hC st'
  cases hy
  have hwW := hC.1.2.1 w hw
  rw [(hS.2.2.2.2.2.2.2.1 w hw).2.2.1]
  refine q_within 1 24 (bI_el' (fun c2 => ?_) (fun c2 => q_within 0 500 (bI_el' (fun c3 => ?_) (fun c3 => q_within 0 1 (bI_el (fun c4 => ?_) (fun c4 => ?_))))))
  · rw [show sLeg G v1 v2 v3 v4 = (-2, G) by unfold sLeg; rw [c, c2]; rfl] at hp
    exact hp Y hC st'
  · rw [show sLeg G v1 v2 v3 v4 = (-2, G) by unfold sLeg; rw [c, c2, c3]; rfl] at hp
    exact hp Y hC st'
  · obtain ⟨x, x1, x2, rfl⟩ := rgN (by omega) (by omega) c2
    obtain ⟨s, s1, s2, rfl⟩ := rgN (by omega) (by omega) c3
    obtain ⟨q, q1, q2, rfl⟩ := rgN (by omega) (by omega) c4
    subst e
    unfold sLeg at hp
    rw [c, c2, c3, c4, cN_nI (by omega), cN_nI (by omega), cN_nI (by omega), cN_nI (by omega)] at hp
    refine c_hasRoom hwW x2 (bI_el (fun c5 => ?_) (fun c5 => ?_))
    · rw [c5] at hp
      obtain ⟨r1, r2⟩ := of_decide_eq_true c5
      refine c_lengthen hwW r1 x1 x2 r2 s2 q2 (fun Y1 ox1 W1 => c_forget (fun Y2 F P I49 _ _ => ?_))
      obtain ⟨d1, d2⟩ := hC.chg hS hw ox1 W1 F P I49
      have hr := (d1.1.2.1 w hw).2.2.1
      have e : (va_up G.1 w (addL (G.1 w) x s q), G.2).1 w = addL (G.1 w) x s q := va_up_self _ _ _
      rw [e, addL_hrs] at hr
      rw [hr]
      exact hp Y2 d1 d2
    · rw [c5] at hp
      exact hp Y hC st'
  · rw [show sLeg G v1 v2 v3 v4 = (-2, G) by unfold sLeg; rw [c, c2, c3, c4]; rfl] at hp
    exact hp Y hC st'
theorem Mo.lay {m w : Nat} {W' : WD} {Y1 Y2 : TY} (hM : Mo m Y G) (hw : w < 2) (mx : MX m (fun t => t ≤ 3) Y Y1) (hu : ∀ u, u < 2 → u ≠ w → MLP Y1 m u (G.1 u)) (hwf : wfW W') (hx : LXh Y1 m w Y2) (hW : MWP Y2 m w W') : Mo m Y2 (va_up G.1 w W', G.2) := by
  obtain ⟨h1, h2, h3, h4, h5⟩ := hM
  have mx2 := hx.1
  have e : ∀ t, 3 < t → ¬ scL t → tI Y2 m t = tI Y m t ∧ tA Y2 m t = tA Y m t := fun t q1 q2 => by
    obtain ⟨a1, a2⟩ := mx2.2.1 t q2
    obtain ⟨b1, b2⟩ := mx.2.1 t (by omega)
    exact ⟨a1.trans b1, a2.trans b2⟩
  refine ⟨fun u hu2 => ?_, h2, ?_, ?_, fun n hn => ?_⟩
  · show wfW (va_up G.1 w W' u) ∧ MWP Y2 m u (va_up G.1 w W' u) ∧ (tA Y2 m 20 u = 0 ∨ (tA Y2 m 20 u = 1 ∧ Laid Y2 m u (va_up G.1 w W' u) G.2.1))
    by_cases c : u = w
    · subst c
      rw [va_up_self]
      exact ⟨hwf, hW, Or.inl hx.2.2.2⟩
    · rw [va_up_ne _ _ c]
      obtain ⟨a1, a2, a3⟩ := h1 u hu2
      have hl := hu u hu2 c
      have m1 : MWP Y1 m u (G.1 u) := ⟨hl.1, by rw [(mx.2.1 4 (by omega)).2]; exact a2.2.1, hl.2, fun i hi => by rw [(mx.2.1 5 (by omega)).2, (mx.2.1 6 (by omega)).2]; exact a2.2.2.2 i hi⟩
      refine ⟨a1, hx.other (by omega) (by omega) c a1.2.1 m1, ?_⟩
      rw [(hx.2.1 u c).2, (mx.2.1 20 (by omega)).2]
      rcases a3 with a3 | ⟨a3, a4⟩
      · exact Or.inl a3
      · exact Or.inr ⟨a3, a4.mv (e 19 (by omega) (by unfold scL; omega)).2⟩
  · show MNP Y2 m G.2.1
    unfold MNP at h3 ⊢
    rw [(e 7 (by omega) (by unfold scL; omega)).2, (e 8 (by omega) (by unfold scL; omega)).2]
    exact h3
  · show MPP Y2 m G.2.2.2.2.2.1 G.2.2.2.2.2.2
    unfold MPP at h4 ⊢
    rw [(e 10 (by omega) (by unfold scL; omega)).1, (e 9 (by omega) (by unfold scL; omega)).2]
    exact h4
  · obtain ⟨b1, b2⟩ := h5 n hn
    exact ⟨by rw [(e 24 (by omega) (by unfold scL; omega)).2]; exact b1, fun hk => ⟨(b2 hk).1, (b2 hk).2.1, (b2 hk).2.2.mv (e 23 (by omega) (by unfold scL; omega)).2⟩⟩
theorem j_leg {post : Int32 → TY → Prop} {v1 v2 v3 v4 : Int32} (hM : Mo (A 19) Y G) (hp : ∀ Y', Mo (A 19) Y' (sLeg G v1 v2 v3 v4).2 → MS A Y Y' → post (sLeg G v1 v2 v3 v4).1 Y') : tp_X10_leg st post Y (A 19) v1 v2 v3 v4 := by
  have st' := MS.refl A Y
  unfold tp_X10_leg
  refine q_isWay (bI_el (fun c => ?_) (fun c => ?_))
  rotate_left
  · rw [show sLeg G v1 v2 v3 v4 = (-1, G) by unfold sLeg; rw [c]; rfl] at hp
    exact hp Y hM st'
  refine q_in 1 24 (bI_el' (fun c2 => ?_) (fun c2 => q_in 0 500 (bI_el' (fun c3 => ?_) (fun c3 => q_isEnd (bI_el (fun c4 => ?_) (fun c4 => ?_))))))
  · rw [show sLeg G v1 v2 v3 v4 = (-2, G) by unfold sLeg; rw [c, c2]; rfl] at hp
    exact hp Y hM st'
  · rw [show sLeg G v1 v2 v3 v4 = (-2, G) by unfold sLeg; rw [c, c2, c3]; rfl] at hp
    exact hp Y hM st'
  · obtain ⟨w, w1, w2, rfl⟩ := rgN (by omega) (by omega) c
    obtain ⟨x, x1, x2, rfl⟩ := rgN (by omega) (by omega) c2
    obtain ⟨s, s1, s2, rfl⟩ := rgN (by omega) (by omega) c3
    obtain ⟨q, q1, q2, rfl⟩ := rgN (by omega) (by omega) c4
    obtain ⟨a1, a2, a3⟩ := hM.1 w (by omega)
    have h8 := a1.1
    have h48 := a1.2.1
    unfold sLeg at hp
    rw [c, c2, c3, c4, cN_nI (by omega), cN_nI (by omega), cN_nI (by omega), cN_nI (by omega)] at hp
    have hin : vp_in (nI w) 2 := vp_in_nI (by omega) (by omega)
    rw [nI_clamp (by omega), a2.1, a2.2.1, nI_add, show (8 : Int32) = nI 8 from rfl, show (48 : Int32) = nI 48 from rfl, eqn (by omega) (by omega), nI_leI (by omega) (by omega)]
    refine ⟨hin, fun c5 => ?_, fun c5 => ⟨hin, fun c6 => ⟨hin, fun x11 e11 => ?_⟩, fun c6 => ?_⟩⟩
    · rw [show decide ((G.1 w).1 < 8 ∧ hrs (G.1 w) + x ≤ 48) = false from decide_eq_false (by omega)] at hp
      exact hp Y hM st'
    · rw [show decide ((G.1 w).1 < 8 ∧ hrs (G.1 w) + x ≤ 48) = true from decide_eq_true (by omega)] at hp
      rw [ix 8 (by omega) (by omega) (by omega)] at e11
      have hv : vp_in x11 16 := by rw [e11]; exact vp_in_nI (by omega) (by omega)
      refine ⟨hv, fun Y12 e12 => ⟨hv, fun Y13 e13 => ⟨hv, fun Y14 e14 => ⟨hin, hin, fun Y15 e15 => ?_⟩⟩⟩⟩
      have ecl : x11.toNatClampNeg = 8 * w + (G.1 w).1 := by rw [e11]; exact nI_clamp (by omega)
      rw [ecl] at e12 e13 e14
      have f0 : tA Y15 (A 19) 0 = upd (tA Y (A 19) 0) (8 * w + (G.1 w).1) (nI x) := by rw [e15, tA_other _ _ (by decide), e14, tA_other _ _ (by decide), e13, tA_other _ _ (by decide), e12, tA_same]
      have f1 : tA Y15 (A 19) 1 = upd (tA Y (A 19) 1) (8 * w + (G.1 w).1) (nI s) := by rw [e15, tA_other _ _ (by decide), e14, tA_other _ _ (by decide), e13, tA_same, e12, tA_other _ _ (by decide)]
      have f2 : tA Y15 (A 19) 2 = upd (tA Y (A 19) 2) (8 * w + (G.1 w).1) (nI q) := by rw [e15, tA_other _ _ (by decide), e14, tA_same, e13, tA_other _ _ (by decide), e12, tA_other _ _ (by decide)]
      have g3 : tA Y14 (A 19) 3 = tA Y (A 19) 3 := by rw [e14, tA_other _ _ (by decide), e13, tA_other _ _ (by decide), e12, tA_other _ _ (by decide)]
      have f3 : tA Y15 (A 19) 3 = upd (tA Y (A 19) 3) w (nI ((G.1 w).1 + 1)) := by rw [e15, tA_same, g3, a2.1, show nI (G.1 w).1 + (1 : Int32) = nI ((G.1 w).1 + 1) from nI_1 _]
      have mx : MX (A 19) (fun t => t ≤ 3) Y Y15 := by
        rw [e15, e14, e13, e12]
        exact (MX.sF (S := fun t => t ≤ 3) (by decide)).trans ((MX.sF (S := fun t => t ≤ 3) (by decide)).trans ((MX.sF (S := fun t => t ≤ 3) (by decide)).trans (MX.sF (S := fun t => t ≤ 3) (by decide))))
      have hl : MLP Y15 (A 19) w (addL (G.1 w) x s q) := by
        refine ⟨by rw [f3, pk_us]; rfl, fun k hk => ?_⟩
        have hk : k < (G.1 w).1 + 1 := hk
        show _ = nI (va_up (G.1 w).2.1 (G.1 w).1 x k) ∧ _ = nI (va_up (G.1 w).2.2.1 (G.1 w).1 s k) ∧ _ = nI (va_up (G.1 w).2.2.2 (G.1 w).1 q k)
        rw [f0, f1, f2]
        by_cases c : k = (G.1 w).1
        · subst c
          rw [pk_us, pk_us, pk_us, va_up_self, va_up_self, va_up_self]
          exact ⟨rfl, rfl, rfl⟩
        · rw [pk_un (by omega), pk_un (by omega), pk_un (by omega), va_up_ne _ _ c, va_up_ne _ _ c, va_up_ne _ _ c]
          exact a2.2.2.1 k (by omega)
      have wf' := addL_wf a1 (by omega) x1 x2 c6 s2 q2
      refine m_layHours wf' hl (by omega) (fun Y16 lx mw => ⟨hin, ?_⟩)
      have res := hM.lay (by omega) mx (fun u hu c => ?_) wf' lx mw
      · rw [mw.2.1, addL_hrs]
        exact hp Y16 res (mx.ms.trans lx.1.ms)
      · obtain ⟨b1, b2, b3⟩ := hM.1 u hu
        refine ⟨by rw [f3, pk_un c]; exact b2.1, fun k hk => ?_⟩
        have := b1.1
        rw [f0, f1, f2, pk_un (by omega), pk_un (by omega), pk_un (by omega)]
        exact b2.2.2.1 k hk
    · rw [show decide ((G.1 w).1 < 8 ∧ hrs (G.1 w) + x ≤ 48) = false from decide_eq_false (by omega)] at hp
      exact hp Y hM st'
  · rw [show sLeg G v1 v2 v3 v4 = (-2, G) by unfold sLeg; rw [c, c2, c3, c4]; rfl] at hp
    exact hp Y hM st'
-- cut
def sCut (G : GD) (v1 : Int32) : Int32 × GD := cond (inB 0 1 v1) (cond (decide ((G.1 (cN v1)).1 = 0)) (-5, G) (nI ((G.1 (cN v1)).1 - 1), (va_up G.1 (cN v1) (cutL (G.1 (cN v1))), G.2))) (-1, G)
theorem k_cut {post : Int32 → TY → Prop} {v1 : Int32} (hS : SA st A) (hC : Cl A Y G) (hp : ∀ Y', Cl A Y' (sCut G v1).2 → CS A 0 Y Y' → post (sCut G v1).1 Y') : tp_X9_cut st post Y (A 0) v1 := by
  have st' := CS.refl A Y
  unfold tp_X9_cut
  refine k_planOf hS (fun c => ⟨fun _ => ?_, fun y hy => by cases hy⟩) (fun w hw e c => ⟨fun q => (by cases q), fun y hy => ?_⟩)
  · rw [show sCut G v1 = (-1, G) by unfold sCut; rw [c]; rfl] at hp
    exact hp Y hC st'
  cases hy
  subst e
  have hwW := hC.1.2.1 w hw
  have h8 := hwW.1.1
  have e0 : (nI (G.1 w).1 = 0) = ((G.1 w).1 = 0) := by rw [show (0 : Int32) = nI 0 from rfl, eqn (by omega) (by omega)]
  unfold sCut at hp
  rw [c, cN_nI (by omega)] at hp
  rw [(hS.2.2.2.2.2.2.2.1 w hw).2.2.1, hwW.2.1, e0]
  refine ⟨fun c2 => ?_, fun c2 => ?_⟩
  · rw [decide_eq_false c2] at hp
    refine c_shorten hwW (by omega) (fun Y1 ox1 W1 => c_forget (fun Y2 F P I49 _ _ => ?_))
    obtain ⟨d1, d2⟩ := hC.chg hS hw ox1 W1 F P I49
    have hr := (d1.1.2.1 w hw).2.1
    have e : (va_up G.1 w (cutL (G.1 w)), G.2).1 w = cutL (G.1 w) := va_up_self _ _ _
    rw [e] at hr
    rw [hr]
    exact hp Y2 d1 d2
  · rw [decide_eq_true c2] at hp
    exact hp Y hC st'
theorem j_cut {post : Int32 → TY → Prop} {v1 : Int32} (hM : Mo (A 19) Y G) (hp : ∀ Y', Mo (A 19) Y' (sCut G v1).2 → MS A Y Y' → post (sCut G v1).1 Y') : tp_X10_cut st post Y (A 19) v1 := by
  have st' := MS.refl A Y
  unfold tp_X10_cut
  refine q_isWay (bI_el (fun c => ?_) (fun c => ?_))
  rotate_left
  · rw [show sCut G v1 = (-1, G) by unfold sCut; rw [c]; rfl] at hp
    exact hp Y hM st'
  obtain ⟨w, w1, w2, rfl⟩ := rgN (by omega) (by omega) c
  obtain ⟨a1, a2, a3⟩ := hM.1 w (by omega)
  have h8 := a1.1
  have e0 : (nI (G.1 w).1 = 0) = ((G.1 w).1 = 0) := by rw [show (0 : Int32) = nI 0 from rfl, eqn (by omega) (by omega)]
  have hin : vp_in (nI w) 2 := vp_in_nI (by omega) (by omega)
  unfold sCut at hp
  rw [c, cN_nI (by omega)] at hp
  rw [nI_clamp (by omega), a2.1, e0]
  refine ⟨hin, fun c2 => ⟨hin, hin, fun Y4 e4 => ?_⟩, fun c2 => ?_⟩
  · rw [decide_eq_false c2] at hp
    rw [show nI (G.1 w).1 - (1 : Int32) = nI ((G.1 w).1 - 1) from pk_sub (b := 1) (by omega)] at e4
    have f3 : tA Y4 (A 19) 3 = upd (tA Y (A 19) 3) w (nI ((G.1 w).1 - 1)) := by rw [e4, tA_same]
    have fo : ∀ t, t ≠ 3 → tA Y4 (A 19) t = tA Y (A 19) t := fun t ht => by rw [e4, tA_other _ _ ht]
    have mx : MX (A 19) (fun t => t ≤ 3) Y Y4 := by
      rw [e4]
      exact MX.sF (S := fun t => t ≤ 3) (by decide)
    have wf' := cutL_wf a1 (show 1 ≤ (G.1 w).1 by omega)
    have hl : MLP Y4 (A 19) w (cutL (G.1 w)) := by
      refine ⟨by rw [f3, pk_us]; rfl, fun k hk => ?_⟩
      have hk : k < (G.1 w).1 - 1 := hk
      rw [fo 0 (by decide), fo 1 (by decide), fo 2 (by decide)]
      exact a2.2.2.1 k (by omega)
    refine m_layHours wf' hl (by omega) (fun Y16 lx mw => ⟨hin, ?_⟩)
    have res := hM.lay (by omega) mx (fun u hu c => ?_) wf' lx mw
    · rw [mw.1]
      exact hp Y16 res (mx.ms.trans lx.1.ms)
    · obtain ⟨b1, b2, b3⟩ := hM.1 u hu
      refine ⟨by rw [f3, pk_un c]; exact b2.1, fun k hk => ?_⟩
      rw [fo 0 (by decide), fo 1 (by decide), fo 2 (by decide)]
      exact b2.2.2.1 k hk
  · rw [decide_eq_true c2] at hp
    exact hp Y hM st'
end PU
