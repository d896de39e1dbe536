-- THE BOAT: hour, owed, battery, the hours that passed
abbrev QD : Type := Nat × Nat × Nat × TD
def boD (st : TS) (b x : Nat) : Prop := x = b ∨ x = st.1 b 1
def BoP (st : TS) (Y : TY) (b a : Nat) (W : WD) (N : ND) (Q : QD) : Prop := tK Y b = 0 ∧ tK Y (st.1 b 0) = 2 ∧ tK Y (st.1 b 1) = 7 ∧ tK Y a = 8 ∧ tW Y b = some a ∧ WayP Y a W ∧ NapP Y (st.1 b 0) N ∧ TrP Y (st.1 b 1) Q.2.2.2 ∧ tI Y b 3 = nI Q.1 ∧ tI Y b 4 = nI Q.2.1 ∧ tI Y b 5 = nI Q.2.2.1
def wfQ (W : WD) (Q : QD) : Prop := Q.1 ≤ hrs W ∧ Q.2.1 ≤ 20 ∧ Q.2.2.1 ≤ 24
def dcQ (W : WD) (Q : QD) (t e : Nat) : Bool := letB W Q.1 t && decide (bat (2 * t + e) ≤ Q.2.2.1)
def ddT (W : WD) (N : ND) (Q : QD) (t e : Nat) : TD := if t = 3 then psT (psT Q.2.2.2 (shp W Q.1) (blB N t e Q.2.1)) (shp W (Q.1 + 1)) (blB N t e Q.2.1) else psT Q.2.2.2 (shp W Q.1) (blB N t e Q.2.1)
def ddQ (W : WD) (N : ND) (Q : QD) (t e : Nat) : QD := (Q.1 + hof t, owB W N Q.1 Q.2.1 t, Q.2.2.1 - bat (2 * t + e), ddT W N Q t e)
theorem ddT_1 (W : WD) (N : ND) (Q : QD) (t e : Nat) : (ddT W N Q t e).1 = Q.2.2.2.1 + (if t = 3 then 2 else 1) := by
  unfold ddT
  split <;> rfl
theorem dcQ_h {W : WD} {Q : QD} {t e : Nat} (h : dcQ W Q t e = true) : letB W Q.1 t = true ∧ bat (2 * t + e) ≤ Q.2.2.1 := by
  simp only [dcQ, Bool.and_eq_true, decide_eq_true_eq] at h
  exact h
theorem ddQ_wf {W : WD} {N : ND} {Q : QD} {t e : Nat} (h : wfQ W Q) (hd : dcQ W Q t e = true) : wfQ W (ddQ W N Q t e) := by
  obtain ⟨h1, h2⟩ := dcQ_h hd
  obtain ⟨g1, g2⟩ := let_h h1
  refine ⟨?_, owB_le h.2.1, ?_⟩
  · show Q.1 + hof t ≤ hrs W
    unfold hof
    split
    · omega
    · split
      · rename_i c3
        have := g2 c3
        omega
      · omega
  · have := h.2.2
    show Q.2.2.1 - bat (2 * t + e) ≤ 24
    omega
theorem BoP.ne {st : TS} {Y : TY} {b a : Nat} {W : WD} {N : ND} {Q : QD} (h : BoP st Y b a W N Q) : a ≠ b ∧ a ≠ st.1 b 1 ∧ st.1 b 0 ≠ b ∧ st.1 b 0 ≠ st.1 b 1 ∧ b ≠ st.1 b 1 := by
  obtain ⟨k1, k2, k3, k4, -⟩ := h
  refine ⟨fun e => ?_, fun e => ?_, fun e => ?_, fun e => ?_, fun e => ?_⟩
  · rw [e, k1] at k4; cases k4
  · rw [e, k3] at k4; cases k4
  · rw [e, k1] at k2; cases k2
  · rw [e, k3] at k2; cases k2
  · rw [← e, k1] at k3; cases k3
theorem BoP.ints {st : TS} {Y Y' : TY} {b a : Nat} {W : WD} {N : ND} {Q : QD} {h' o' c' : Nat} (h : BoP st Y b a W N Q) (ox : OX (· = b) Y Y') (hw : tW Y' b = tW Y b) (i3 : tI Y' b 3 = nI h') (i4 : tI Y' b 4 = nI o') (i5 : tI Y' b 5 = nI c') : BoP st Y' b a W N (h', o', c', Q.2.2.2) := by
  obtain ⟨n1, n2, n3, n4, n5⟩ := h.ne
  obtain ⟨k1, k2, k3, k4, w1, w2, w3, w4, -⟩ := h
  refine ⟨by rw [ox.2.1]; exact k1, by rw [ox.2.1]; exact k2, by rw [ox.2.1]; exact k3, by rw [ox.2.1]; exact k4, hw.trans w1, ox.way n1 w2, ox.nap n3 w3, w4.mv (ox.1 _ (Ne.symm n5)).1 (ox.1 _ (Ne.symm n5)).2.1, i3, i4, i5⟩
theorem BoP.trk {st : TS} {Y Y' : TY} {b a : Nat} {W : WD} {N : ND} {Q : QD} {T : TD} (h : BoP st Y b a W N Q) (ox : OX (· = st.1 b 1) Y Y') (hT : TrP Y' (st.1 b 1) T) : BoP st Y' b a W N (Q.1, Q.2.1, Q.2.2.1, T) := by
  obtain ⟨n1, n2, n3, n4, n5⟩ := h.ne
  obtain ⟨k1, k2, k3, k4, w1, w2, w3, w4, i3, i4, i5⟩ := h
  obtain ⟨o1, o2, o3⟩ := ox.1 b n5
  refine ⟨by rw [ox.2.1]; exact k1, by rw [ox.2.1]; exact k2, by rw [ox.2.1]; exact k3, by rw [ox.2.1]; exact k4, o3.trans w1, ox.way n2 w2, ox.nap n4 w3, hT, by rw [o1]; exact i3, by rw [o1]; exact i4, by rw [o1]; exact i5⟩
section BT
variable {st : TS} {Y : TY} {a b : Nat} {W : WD} {N : ND} {Q : QD}
theorem c_setOut {post : TY → Prop} (k1 : tK Y b = 0) (k2 : tK Y (st.1 b 0) = 2) (k3 : tK Y (st.1 b 1) = 7) (k4 : tK Y a = 8) (hw : WayP Y a W) (hn : NapP Y (st.1 b 0) N) {o c : Nat} (hp : ∀ Y', OX (boD st b) Y Y' → BoP st Y' b a W N (0, o, c, T0) → post Y') : tp_X0_setOut st post Y b a (nI o) (nI c) := by
  unfold tp_X0_setOut
  intro Y1 e1 Y2 e2 Y3 e3 Y4 e4 Y6 e6
  have n1 : a ≠ b := fun e => by rw [e, k1] at k4; cases k4
  have n2 : a ≠ st.1 b 1 := fun e => by rw [e, k3] at k4; cases k4
  have n3 : st.1 b 0 ≠ b := fun e => by rw [e, k1] at k2; cases k2
  have n4 : st.1 b 0 ≠ st.1 b 1 := fun e => by rw [e, k3] at k2; cases k2
  have n5 : b ≠ st.1 b 1 := fun e => by rw [← e, k1] at k3; cases k3
  have ox : OX (boD st b) Y Y6 := by
    rw [e6, e4, e3, e2, e1]
    exact (OX.sW (D := boD st b) (Or.inl rfl)).trans ((OX.sI (D := boD st b) (Or.inl rfl)).trans ((OX.sI (D := boD st b) (Or.inl rfl)).trans ((OX.sI (D := boD st b) (Or.inl rfl)).trans (OX.sI (D := boD st b) (Or.inr rfl)))))
  have nd : ∀ {x}, x ≠ b → x ≠ st.1 b 1 → ¬ boD st b x := fun h1 h2 q => q.elim h1 h2
  refine hp Y6 ox ⟨by rw [ox.2.1]; exact k1, by rw [ox.2.1]; exact k2, by rw [ox.2.1]; exact k3, by rw [ox.2.1]; exact k4, ?_, ox.way (nd n1 n2) hw, ox.nap (nd n3 n4) hn, ⟨Nat.zero_le _, fun k hk => absurd hk (Nat.not_lt_zero _), ?_, fun k hk => absurd hk (Nat.not_lt_zero _)⟩, ?_, ?_, ?_⟩
  · rw [e6, e4, e3, e2, e1]
    show tW (sW Y b (some a)) b = some a
    rw [tW_sW, if_pos rfl]
  · rw [e6, tI_sI, if_pos ⟨rfl, rfl⟩]
    rfl
  · rw [e6, tI_sI, if_neg (fun q => n5 q.1), e4, tI_sI, if_neg (fun q => absurd q.2 (by decide)), e3, tI_sI, if_neg (fun q => absurd q.2 (by decide)), e2, tI_sI, if_pos ⟨rfl, rfl⟩]
    rfl
  · rw [e6, tI_sI, if_neg (fun q => n5 q.1), e4, tI_sI, if_neg (fun q => absurd q.2 (by decide)), e3, tI_sI, if_pos ⟨rfl, rfl⟩]
  · rw [e6, tI_sI, if_neg (fun q => n5 q.1), e4, tI_sI, if_pos ⟨rfl, rfl⟩]
theorem c_doDeed97 {post : Int32 → TY → Prop} (hB : BoP st Y b a W N Q) (hq : wfQ W Q) {t e : Nat} (ht : t ≤ 4) (he : e ≤ 1) (hb : bat (2 * t + e) ≤ Q.2.2.1) (hp : ∀ Y', OX (· = b) Y Y' → BoP st Y' b a W N (Q.1 + hof t, owB W N Q.1 Q.2.1 t, Q.2.2.1 - bat (2 * t + e), Q.2.2.2) → post 1 Y') : tk_X0_doDeed_97 st post b (nI (2 * t + e)) Y (nI t) := by
  obtain ⟨k1, k2, k3, k4, w1, w2, w3, w4, i3, i4, i5⟩ := id hB
  have h48 := w2.1.2.1
  obtain ⟨q1, q2, q3⟩ := hq
  unfold tk_X0_doDeed_97
  refine ⟨fun q => (by rw [w1] at q; cases q), fun y hy => ?_⟩
  rw [w1] at hy
  cases hy
  rw [i3, i4]
  refine c_owedBehind w2 w3 (by omega) q2 ht (fun Y26 e26 => c_batteryOf (by omega) (fun Y28 e28 => c_hoursOf (by omega) (fun Y30 e30 => ?_)))
  have j5 : tI Y26 b 5 = nI Q.2.2.1 := by rw [e26, tI_sI, if_neg (fun q => absurd q.2 (by decide))]; exact i5
  rw [j5, pk_sub hb] at e28
  have j3 : tI Y28 b 3 = nI Q.1 := by rw [e28, tI_sI, if_neg (fun q => absurd q.2 (by decide)), e26, tI_sI, if_neg (fun q => absurd q.2 (by decide))]; exact i3
  rw [j3, nI_add] at e30
  have ox : OX (· = b) Y Y30 := by
    rw [e30, e28, e26]
    exact (OX.sI (D := (· = b)) rfl).trans ((OX.sI (D := (· = b)) rfl).trans (OX.sI (D := (· = b)) rfl))
  refine hp Y30 ox (hB.ints ox (by rw [e30, e28, e26]; rfl) ?_ ?_ ?_)
  · rw [e30, tI_sI, if_pos ⟨rfl, rfl⟩]
  · rw [e30, tI_sI, if_neg (fun q => absurd q.2 (by decide)), e28, tI_sI, if_neg (fun q => absurd q.2 (by decide)), e26, tI_sI, if_pos ⟨rfl, rfl⟩]
  · rw [e30, tI_sI, if_neg (fun q => absurd q.2 (by decide)), e28, tI_sI, if_pos ⟨rfl, rfl⟩]
theorem c_doDeed {post : Int32 → TY → Prop} (hB : BoP st Y b a W N Q) (hq : wfQ W Q) {t e : Nat} (ht : t ≤ 4) (he : e ≤ 1) (h60 : Q.2.2.2.1 + (if t = 3 then 2 else 1) ≤ 60) (h1 : dcQ W Q t e = true → ∀ Y', OX (boD st b) Y Y' → BoP st Y' b a W N (ddQ W N Q t e) → post 1 Y') (h0 : dcQ W Q t e = false → post 0 Y) : tp_X0_doDeed st post Y b (nI (2 * t + e)) := by
  obtain ⟨k1, k2, k3, k4, w1, w2, w3, w4, i3, i4, i5⟩ := id hB
  have h48 := w2.1.2.1
  obtain ⟨q1, q2, q3⟩ := id hq
  have hb2 := bat_le (2 * t + e)
  have hbl : blB N t e Q.2.1 ≤ 1000 := blB_le q2
  unfold tp_X0_doDeed
  intro x ex
  rw [show (2 : Int32) = nI 2 from rfl, pk_div (by omega) (by omega) (by omega), show (2 * t + e) / 2 = t by omega] at ex
  rw [ex, show (3 : Int32) = nI 3 from rfl, eqn (by omega) (by omega)]
  refine ⟨fun q => (by rw [w1] at q; cases q), fun y hy => ⟨fun q => (by rw [w1] at q; cases q), fun y4 hy4 => ?_⟩⟩
  rw [w1] at hy4
  cases hy4
  rw [i3]
  refine p_lets w2 (by omega) ht (bI_el' (fun c1 => h0 (by simp [dcQ, c1])) (fun c1 => c_batteryOf (by omega) ?_))
  obtain ⟨g1, g2⟩ := let_h c1
  rw [i5, nI_leI (by omega) (by omega)]
  refine ⟨fun c2 => ?_, fun c2 => h0 (by simp [dcQ, c2])⟩
  have hdc : dcQ W Q t e = true := by simp [dcQ, c1, c2]
  have h1 := h1 hdc
  rw [i4]
  refine c_blindOf w3 q2 ht he ⟨fun q => (by rw [w1] at q; cases q), fun y13 hy13 => ?_⟩
  rw [w1] at hy13
  cases hy13
  refine p_shipsAt w2 (by omega) ?_
  rw [if_pos g1]
  refine c_pass w4 (by split at h60 <;> omega) (shp_le w2.1 _) hbl (fun Y16 ox16 tr16 => ?_)
  have B16 := hB.trk ox16 tr16
  refine ⟨fun c3 => ?_, fun c3 => ?_⟩
  · refine c_doDeed97 B16 ⟨q1, q2, q3⟩ ht he c2 (fun Y' ox' B' => h1 Y' ?_ ?_)
    · exact (ox16.mono (fun x hx => Or.inr hx)).trans (ox'.mono (fun x hx => Or.inl hx))
    · unfold ddQ ddT
      rw [if_neg c3]
      exact B'
  · obtain ⟨l1, l2, l3, l4, x1, x2, x3, x4, y3, y4, y5⟩ := id B16
    refine ⟨fun q => (by rw [x1] at q; cases q), fun y18 hy18 => ?_⟩
    rw [x1] at hy18
    cases hy18
    rw [y3, show nI Q.1 + (1 : Int32) = nI (Q.1 + 1) from nI_1 Q.1]
    refine p_shipsAt x2 (by omega) ?_
    rw [if_pos (g2 c3)]
    rw [if_pos c3] at h60
    refine c_pass x4 (show Q.2.2.2.1 + 1 < 60 by omega) (shp_le w2.1 _) hbl (fun Y21 ox21 tr21 => ?_)
    have B21 := B16.trk ox21 tr21
    refine c_doDeed97 B21 ⟨q1, q2, q3⟩ ht he c2 (fun Y' ox' B' => h1 Y' ?_ ?_)
    · exact (ox16.mono (fun x hx => Or.inr hx)).trans ((ox21.mono (fun x hx => Or.inr hx)).trans (ox'.mono (fun x hx => Or.inl hx)))
    · unfold ddQ ddT
      rw [if_pos c3]
      exact B'
def slF (W : WD) (N : ND) (sg : Nat → Nat) : Nat → Nat → Nat → Nat → QD → Int32 × QD
  | 0, _, _, _, Q => (-6, Q)
  | j + 1, i, th, be, Q => if thN (sg i) = 9 then slF W N sg j (i + 1) th (if sg i = 33 then 1 else 0) Q else if dcQ W Q (thN (sg i)) be = true then slF W N sg j (i + 1) (th + 1) (if sg i = 33 then 1 else 0) (ddQ W N Q (thN (sg i)) be) else (nI th, Q)
theorem ft_step {sg : Nat → Nat} {j i w : Nat} (hi : i ≤ 60) (h : ftF sg (j + 1) i w = -6) : wtN w (sg i) ≠ 3 ∧ ftF sg j (i + 1) (wtN w (sg i)) = -6 := by
  unfold ftF at h
  by_cases c : wtN w (sg i) = 3
  · rw [if_pos c] at h
    simp (disch := omega) only [i_nI, i_lit, i_neg, i_eq] at h
    omega
  · rw [if_neg c] at h
    exact ⟨c, h⟩
theorem ft_two {sg : Nat → Nat} {j i : Nat} (hi : i ≤ 60) (h : ftF sg j i 2 = -6) : 1 ≤ j := by
  cases j with
  | zero =>
    unfold ftF at h
    simp at h
    simp (disch := omega) only [i_nI, i_lit, i_neg, i_eq] at h
    omega
  | succ j => omega
/-- what the fault's machine says of a thing's sign -/
theorem wt_thing {w c : Nat} (h3 : wtN w c ≠ 3) (h9 : thN c ≠ 9) : w ≠ 2 ∧ c ≠ 33 ∧ c ≠ 46 ∧ (thN c = 0 → w ≠ 1) ∧ (thN c = 3 → wtN w c = 2) ∧ (thN c ≠ 3 → wtN w c = 0) := by
  have c33 : c ≠ 33 := fun e => h9 (by subst e; rfl)
  have c46 : c ≠ 46 := fun e => h9 (by subst e; rfl)
  have w2 : w ≠ 2 := fun e => h3 (by simp [wtN, e, c46])
  have w1 : ¬ (thN c = 0 ∧ w = 1) := fun e => h3 (by simp only [wtN, if_neg w2, if_neg c33, if_neg h9, if_pos e])
  refine ⟨w2, c33, c46, fun q1 q2 => w1 ⟨q1, q2⟩, fun q => ?_, fun q => ?_⟩
  · simp only [wtN, if_neg w2, if_neg c33, if_neg h9, if_neg w1, if_pos q]
  · simp only [wtN, if_neg w2, if_neg c33, if_neg h9, if_neg w1, if_neg q]
theorem c_sailBy {post : Int32 → TY → Prop} {p n : Nat} {sg : Nat → Nat} (hB : BoP st Y b a W N Q) (hq : wfQ W Q) (hT : Q.2.2.2.1 = 0) (hP : PadP Y p n sg) (hk : tK Y p = 3) (hf : ftF sg n 0 0 = -6) (hp : ∀ Y', OX (boD st b) Y Y' → BoP st Y' b a W N (slF W N sg n 0 0 0 Q).2 → post (slF W N sg n 0 0 0 Q).1 Y') : tp_X0_sailBy st post Y b p := by
  obtain ⟨h60, hs, hc, hg⟩ := hP
  have np : ¬ boD st b p := by
    rintro (e | e)
    · rw [e, hB.1] at hk
      cases hk
    · rw [e, hB.2.2.1] at hk
      cases hk
  have hpz := hp
  clear hp
  have key : ∀ j i th be w Q Yc, i + j = n → th ≤ i → be ≤ 1 → ftF sg j i w = -6 → Q.2.2.2.1 ≤ i + (if w = 2 then 1 else 0) → wfQ W Q → OX (boD st b) Y Yc → BoP st Yc b a W N Q → (∀ Y', OX (boD st b) Y Y' → BoP st Y' b a W N (slF W N sg j i th be Q).2 → post (slF W N sg j i th be Q).1 Y') → tk_X0_sailBy_7 st post b p (j + 1) Yc (nI th) (nI be) (nI i) := by
    intro j
    induction j with
    | zero =>
      intro i th be w Q Yc hi hth hbe hft hT hq ox hB hp
      have : i = n := by omega
      subst this
      rw [tk_X0_sailBy_7, (ox.1 p np).1, hc]
      exact ⟨fun _ => hp Yc ox hB, fun q => absurd (Int32.le_refl _) q⟩
    | succ j ih =>
      intro i th be w Q Yc hi hth hbe hft hT hq ox hB hp
      obtain ⟨f3, f1⟩ := ft_step (by omega) hft
      obtain ⟨s1, s2⟩ := hs i (by omega)
      have hin : vp_in (nI i) 60 := vp_in_nI (by omega) (by omega)
      rw [tk_X0_sailBy_7, (ox.1 p np).1, hc, nI_leI (by omega) (by omega), nI_clamp (by omega), (ox.1 p np).2.1, hg i (by omega)]
      have k53 : ∀ Y5 th' Q', th' ≤ i + 1 → Q'.2.2.2.1 ≤ i + 1 + (if wtN w (sg i) = 2 then 1 else 0) → wfQ W Q' → OX (boD st b) Y Y5 → BoP st Y5 b a W N Q' → (∀ Y', OX (boD st b) Y Y' → BoP st Y' b a W N (slF W N sg j (i + 1) th' (if sg i = 33 then 1 else 0) Q').2 → post (slF W N sg j (i + 1) th' (if sg i = 33 then 1 else 0) Q').1 Y') → tk_X0_sailBy_53 st post b p (tk_X0_sailBy_7 st post b p (j + 1)) Y5 (nI th') (nI i) := by
        intro Y5 th' Q' z1 z2 z3 z4 z5 z6
        unfold tk_X0_sailBy_53 tk_X0_sailBy_70
        rw [nI_clamp (by omega), (z4.1 p np).2.1, hg i (by omega), show (33 : Int32) = nI 33 from rfl, eqn (by omega) (by omega)]
        refine ⟨hin, fun q x ex => ?_, fun q x ex => ?_⟩
        · rw [ex, show nI i + (1 : Int32) = nI (i + 1) from nI_1 i]
          rw [if_neg q] at z6
          exact ih (i + 1) th' 0 _ Q' Y5 (by omega) z1 (by omega) f1 z2 z3 z4 z5 z6
        · rw [ex, show nI i + (1 : Int32) = nI (i + 1) from nI_1 i]
          rw [if_pos q] at z6
          exact ih (i + 1) th' 1 _ Q' Y5 (by omega) z1 (by omega) f1 z2 z3 z4 z5 z6
      refine ⟨fun q => by omega, fun _ => ⟨hin, c_thingOf (by omega) ?_⟩⟩
      by_cases h9 : thN (sg i) = 9
      · rw [show thI (sg i) = -6 by simp [thI, h9]]
        refine ⟨fun _ => k53 Yc th Q (by omega) (by split at hT <;> omega) hq ox hB ?_, fun q => absurd rfl q⟩
        unfold slF at hp
        rw [if_pos h9] at hp
        exact hp
      · have h4 : thN (sg i) ≤ 4 := (thN_c _).resolve_left h9
        obtain ⟨y1, y2, y3, y4, y5, y6⟩ := wt_thing f3 h9
        rw [if_neg y1] at hT
        have hne : ¬ nI (thN (sg i)) = (-6 : Int32) := by
          intro q
          simp (disch := omega) only [i_nI, i_lit, i_neg, i_eq] at q
          omega
        rw [show thI (sg i) = nI (thN (sg i)) by simp [thI, h9]]
        refine ⟨fun q => absurd q hne, fun _ => ?_⟩
        rw [show (2 : Int32) = nI 2 from rfl, pk_mul, nI_add]
        unfold slF at hp
        rw [if_neg h9] at hp
        refine c_doDeed hB hq h4 hbe ?_ (fun hd Y5 ox5 B5 => ⟨fun _ x ex => ?_, fun q => absurd q (by decide)⟩) (fun hd => ⟨fun q => absurd rfl q, fun _ => ?_⟩)
        · by_cases e3 : thN (sg i) = 3
          · rw [if_pos e3]
            have z := y5 e3
            rw [z] at f1
            have := ft_two (by omega) f1
            omega
          · rw [if_neg e3]
            omega
        · rw [ex, show nI th + (1 : Int32) = nI (th + 1) from nI_1 th]
          rw [if_pos hd] at hp
          refine k53 Y5 (th + 1) _ (by omega) ?_ (ddQ_wf hq hd) (ox.trans ox5) B5 hp
          show (ddT W N Q (thN (sg i)) be).1 ≤ _
          rw [ddT_1]
          by_cases e3 : thN (sg i) = 3
          · rw [if_pos e3, if_pos (y5 e3)]
            omega
          · rw [if_neg e3, if_neg (by rw [y6 e3]; decide)]
            omega
        · rw [hd] at hp
          exact hp Yc ox hB
  exact ⟨n + 1, key n 0 0 0 0 Q Y (by omega) (by omega) (by omega) hf (by omega) hq (OX.refl _ _) hB hpz⟩
end BT
