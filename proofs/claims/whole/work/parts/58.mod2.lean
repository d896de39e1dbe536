section MD
variable {st : TS} {Y : TY} {m w : Nat} {W : WD} {N : ND} {Q : QD}
theorem m_do111 {post : Int32 → TY → Prop} (hw : wfW W) (hw1 : w ≤ 1) {v3 : Int32} {T : TD} {h o b t e0 bl : Nat} (ht : t ≤ 4) (hm : MWP Y m w W) (hT : MTP Y m T) (hl : T.1 < 129) (i17 : tI Y m 17 = nI h) (i16 : tI Y m 16 = nI o) (i18 : tI Y m 18 = nI b) (hh : h < hrs W) (h3 : t = 3 → h + 1 < hrs W) (hbl : bl ≤ 1000) (he : e0 = if t = 4 then 0 else 1) (hp : ∀ Y', MX m scD Y Y' → MQP Y' m (h + hof t, o, b, if t = 3 then psT T (shp W (h + 1)) bl else T) → post 1 Y') : tk_X10_doThing_111 st post m (nI w) (nI t) v3 Y (nI bl) (nI e0) (nI h) := by
  have h48 := hw.2.1
  unfold tk_X10_doThing_111
  intro Y12 e12
  rw [nI_add] at e12
  have mx12 : MX m scD Y Y12 := by
    rw [e12]
    exact MX.sI (S := scD) (Or.inr ⟨by decide, by decide⟩)
  have j17 : tI Y12 m 17 = nI (h + e0) := by rw [e12, tI_sI, if_pos ⟨rfl, rfl⟩]
  have j16 : tI Y12 m 16 = nI o := by rw [e12, tI_sI, if_neg (fun q => absurd q.2 (by decide))]; exact i16
  have j18 : tI Y12 m 18 = nI b := by rw [e12, tI_sI, if_neg (fun q => absurd q.2 (by decide))]; exact i18
  have mt12 : MTP Y12 m T := by
    unfold MTP at hT ⊢
    rw [e12, tI_sI, if_neg (fun q => absurd q.2 (by decide))]
    exact hT
  rw [show (3 : Int32) = nI 3 from rfl, eqn (by omega) (by omega), j17]
  refine ⟨fun c => ?_, fun c => ?_⟩
  · refine hp Y12 mx12 ⟨by show MTP Y12 m (if t = 3 then _ else T); rw [if_neg c]; exact mt12, ?_, j16, j18⟩
    show tI Y12 m 17 = nI (h + hof t)
    rw [j17, he]
    unfold hof
    rw [if_neg c]
  · have e1 : e0 = 1 := by rw [he, if_neg (by omega)]
    rw [e1] at j17 ⊢
    refine m_passHour hw (mx12.mw (fun t ht q => by unfold scD at q; omega) hm) hw1 mt12 (by omega) (h3 c) hbl (fun Y14 mx14 mt14 Y15 e15 => ?_)
    have k17 : tI Y14 m 17 = nI (h + 1) := by rw [(mx14.2.1 17 (by unfold scT; omega)).1]; exact j17
    have k16 : tI Y14 m 16 = nI o := by rw [(mx14.2.1 16 (by unfold scT; omega)).1]; exact j16
    have k18 : tI Y14 m 18 = nI b := by rw [(mx14.2.1 18 (by unfold scT; omega)).1]; exact j18
    rw [k17, show nI (h + 1) + (1 : Int32) = nI (h + 2) from nI_1 (h + 1)] at e15
    have mx15 : MX m scD Y14 Y15 := by
      rw [e15]
      exact MX.sI (S := scD) (Or.inr ⟨by decide, by decide⟩)
    refine hp Y15 (mx12.trans ((mx14.mono (fun t q => Or.inl q)).trans mx15)) ⟨?_, ?_, ?_, ?_⟩
    · show MTP Y15 m (if t = 3 then psT T (shp W (h + 1)) bl else T)
      rw [if_pos c]
      unfold MTP at mt14 ⊢
      rw [e15, tI_sI, if_neg (fun q => absurd q.2 (by decide))]
      exact mt14
    · show tI Y15 m 17 = nI (h + hof t)
      rw [e15, tI_sI, if_pos ⟨rfl, rfl⟩, c]
      rfl
    · rw [e15, tI_sI, if_neg (fun q => absurd q.2 (by decide))]; exact k16
    · rw [e15, tI_sI, if_neg (fun q => absurd q.2 (by decide))]; exact k18
theorem m_doThing {post : Int32 → TY → Prop} (hw : wfW W) (hm : MWP Y m w W) (hN : wfN N) (hn : MNP Y m N) (hw1 : w ≤ 1) (hQ : MQP Y m Q) (hq : wfQ W Q) {t e : Nat} (ht : t ≤ 4) (he : e ≤ 1) (hl : Q.2.2.2.1 < 128) (h1 : dcQ W Q t e = true → ∀ Y', MX m scD Y Y' → MQP Y' m (ddQ W N Q t e) → post 1 Y') (h0 : dcQ W Q t e = false → post 0 Y) : tp_X10_doThing st post Y m (nI w) (nI t) (nI e) := by
  have h48 := hw.2.1
  obtain ⟨mt, i17, i16, i18⟩ := hQ
  obtain ⟨q1, q2, q3⟩ := hq
  have hbl : blB N t e Q.2.1 ≤ 1000 := blB_le q2
  have hb2 := bat_le (2 * t + e)
  have eb : bat (2 * t + e) = if e = 0 then 0 else if t = 3 then 2 else 1 := by unfold bat; rw [show (2 * t + e) / 2 = t by omega, show (2 * t + e) % 2 = e by omega]
  have k18 : tk_X10_doThing_18 st post m (nI w) (nI t) (nI e) Y (nI (bat (2 * t + e))) := by
    unfold tk_X10_doThing_18
    rw [i17, i18, i16, nI_leI (by omega) (by omega)]
    refine m_canBe hw hm hw1 (by omega) ht (bI_el' (fun c1 => h0 (by simp [dcQ, c1])) (fun c1 => ⟨fun c2 => ?_, fun c2 => h0 (by simp [dcQ, c2])⟩))
    obtain ⟨g1, g2⟩ := let_h c1
    have hdc : dcQ W Q t e = true := by simp [dcQ, c1, c2]
    have h1 := h1 hdc
    refine m_blindOf hN hn q2 ht he (m_passHour hw hm hw1 mt (by omega) g1 hbl (fun Y7 mx7 mt7 => ?_))
    have hm7 := mx7.mw (fun t ht q => by unfold scT at q; omega) hm
    have hn7 := mx7.mn (fun t ht ht2 q => by unfold scT at q; omega) hn
    have j17 : tI Y7 m 17 = nI Q.1 := by rw [(mx7.2.1 17 (by unfold scT; omega)).1]; exact i17
    have j16 : tI Y7 m 16 = nI Q.2.1 := by rw [(mx7.2.1 16 (by unfold scT; omega)).1]; exact i16
    have j18 : tI Y7 m 18 = nI Q.2.2.1 := by rw [(mx7.2.1 18 (by unfold scT; omega)).1]; exact i18
    rw [j17, j16]
    refine m_owedBehind hw hm7 hN hn7 hw1 g1 q2 ht (fun Y9 e9 Y10 e10 => ?_)
    have k18 : tI Y9 m 18 = nI Q.2.2.1 := by rw [e9, tI_sI, if_neg (fun q => absurd q.2 (by decide))]; exact j18
    rw [k18, pk_sub c2] at e10
    have mx10 : MX m scD Y Y10 := by
      refine (mx7.mono (fun t q => Or.inl q)).trans ?_
      rw [e10, e9]
      exact (MX.sI (S := scD) (Or.inr ⟨by decide, by decide⟩)).trans (MX.sI (S := scD) (Or.inr ⟨by decide, by decide⟩))
    have l18 : tI Y10 m 18 = nI (Q.2.2.1 - bat (2 * t + e)) := by rw [e10, tI_sI, if_pos ⟨rfl, rfl⟩]
    have l17 : tI Y10 m 17 = nI Q.1 := by rw [e10, tI_sI, if_neg (fun q => absurd q.2 (by decide)), e9, tI_sI, if_neg (fun q => absurd q.2 (by decide))]; exact j17
    have l16 : tI Y10 m 16 = nI (owB W N Q.1 Q.2.1 t) := by rw [e10, tI_sI, if_neg (fun q => absurd q.2 (by decide)), e9, tI_sI, if_pos ⟨rfl, rfl⟩]
    have mt10 : MTP Y10 m (psT Q.2.2.2 (shp W Q.1) (blB N t e Q.2.1)) := by
      unfold MTP at mt7 ⊢
      rw [e10, tI_sI, if_neg (fun q => absurd q.2 (by decide)), e9, tI_sI, if_neg (fun q => absurd q.2 (by decide))]
      exact mt7
    have hm10 := mx10.mw (fun t ht q => by unfold scD at q; omega) hm
    rw [l17, show (4 : Int32) = nI 4 from rfl, eqn (by omega) (by omega)]
    have key : ∀ e0, (e0 = if t = 4 then 0 else 1) → tk_X10_doThing_111 st post m (nI w) (nI t) (nI e) Y10 (nI (blB N t e Q.2.1)) (nI e0) (nI Q.1) := fun e0 he0 =>
      m_do111 hw hw1 ht hm10 mt10 (show Q.2.2.2.1 + 1 < 129 by omega) l17 l16 l18 g1 g2 hbl he0 (fun Y' mx' mq' => h1 Y' (mx10.trans mx') mq')
    exact ⟨fun c4 => key 1 (by rw [if_neg c4]), fun c4 => key 0 (by rw [if_pos c4])⟩
  unfold tp_X10_doThing
  have e0 : (nI e = 0) = (e = 0) := by rw [show (0 : Int32) = nI 0 from rfl, eqn (by omega) (by omega)]
  rw [e0, show (3 : Int32) = nI 3 from rfl, eqn (by omega) (by omega)]
  refine ⟨fun c => ⟨fun c3 => ?_, fun c3 => ?_⟩, fun c => ?_⟩
  · rw [eb, if_neg c, if_neg c3] at k18
    exact k18
  · rw [eb, if_neg c, if_pos c3] at k18
    exact k18
  · rw [eb, if_pos c] at k18
    exact k18
theorem wt_no {w c : Nat} (h3 : wtN w c ≠ 3) (h9 : thN c = 9) : (c = 33 ∧ w = 0 ∧ wtN w c = 1) ∨ (c = 46 ∧ w = 2 ∧ wtN w c = 0) := by
  by_cases w2 : w = 2
  · by_cases c46 : c = 46
    · exact Or.inr ⟨c46, w2, by simp [wtN, w2, c46]⟩
    · exact absurd (by simp [wtN, w2, c46]) h3
  · by_cases c33 : c = 33
    · by_cases w0 : w = 0
      · exact Or.inl ⟨c33, w0, by simp [wtN, w0, c33]⟩
      · exact absurd (by simp [wtN, w2, w0, c33]) h3
    · exact absurd (by simp [wtN, w2, c33, h9]) h3
theorem thN_eq {c : Nat} (h9 : thN c ≠ 9) : (c = 119 ∧ thN c = 0) ∨ (c = 108 ∧ thN c = 4) ∨ (c ≠ 119 ∧ c ≠ 108 ∧ 48 ≤ c ∧ thN c = c - 48) := by
  unfold thN at h9 ⊢
  by_cases a1 : c = 49
  · subst a1
    simp
  · by_cases a2 : c = 50
    · subst a2
      simp
    · by_cases a3 : c = 51
      · subst a3
        simp
      · by_cases a4 : c = 108
        · subst a4
          simp
        · by_cases a5 : c = 119
          · subst a5
            simp
          · simp [a1, a2, a3, a4, a5] at h9
theorem m_judgeAll {post : TY → Prop} (hw : wfW W) (hm : MWP Y m w W) (hN : wfN N) (hn : MNP Y m N) (hw1 : w ≤ 1) {n : Nat} {sg : Nat → Nat} (hP : MPP Y m n sg) (hf : ftF sg n 0 0 = -6) {o b : Nat} (ho : o ≤ 20) (hb : b ≤ 24) (hp : ∀ Y', MX m scJ Y Y' → MQP Y' m (slF W N sg n 0 0 0 (0, o, b, T0)).2 → tI Y' m 15 = (slF W N sg n 0 0 0 (0, o, b, T0)).1 → post Y') : tp_X10_judgeAll st post Y m (nI w) (nI o) (nI b) := by
  have h48 := hw.2.1
  have hpz := hp
  clear hp
  obtain ⟨h60, hs, hc, hg⟩ := id hP
  have key : ∀ j i th be u Q Yc, i + j = n → th ≤ i → be ≤ 1 → ftF sg j i u = -6 → (u = 2 → be = 0) → Q.2.2.2.1 ≤ 2 * i → wfQ W Q → MX m scJ Y Yc → MQP Yc m Q → tI Yc m 15 = -6 → (∀ Y', MX m scJ Y Y' → MQP Y' m (slF W N sg j i th be Q).2 → tI Y' m 15 = (slF W N sg j i th be Q).1 → post Y') → tk_X10_judgeAll_35 st post m (nI w) (nI o) (nI b) (j + 1) Yc (nI th) (nI be) (nI i) := by
    intro j
    induction j with
    | zero =>
      intro i th be u Q Yc hi hth hbe hft hub hT hq mx mq j15 hp
      have hPc := mx.mp (fun t h1 h2 q => by unfold scJ at q; omega) hP
      have : i = n := by omega
      rw [tk_X10_judgeAll_35, hPc.2.2.1, this]
      exact ⟨fun _ => hp Yc mx mq j15, fun q => absurd (Int32.le_refl _) q⟩
    | succ j ih =>
      intro i th be u Q Yc hi hth hbe hft hub hT hq mx mq j15 hp
      have hPc := mx.mp (fun t h1 h2 q => by unfold scJ at q; omega) hP
      have hmc := mx.mw (fun t h1 q => by unfold scJ at q; omega) hm
      have hnc := mx.mn (fun t h1 h2 q => by unfold scJ at q; omega) hn
      obtain ⟨f3, f1⟩ := ft_step (by omega) hft
      have hsi := hs i (by omega)
      rw [tk_X10_judgeAll_35, hPc.2.2.1, j15, nI_leI (by omega) (by omega), nI_clamp (by omega), hPc.2.2.2 i (by omega)]
      refine ⟨fun q => by omega, fun _ => ⟨fun q => absurd q (by decide), fun _ => ⟨vp_in_nI (by omega) (by omega), fun x9 e9 => ?_⟩⟩⟩
      rw [e9]
      clear e9 x9
      unfold slF at hp
      generalize hcc : sg i = c at hp hsi f3 f1
      have ec : ∀ z : Nat, z < 200 → (nI c = nI z) = (c = z) := fun z hz => eqn (by omega) (by omega)
      rw [show (33 : Int32) = nI 33 from rfl, show (46 : Int32) = nI 46 from rfl, show (119 : Int32) = nI 119 from rfl, show (108 : Int32) = nI 108 from rfl, ec 33 (by omega), ec 46 (by omega), ec 119 (by omega), ec 108 (by omega)]
      by_cases h9 : thN c = 9
      · rw [if_pos h9] at hp
        rcases wt_no f3 h9 with ⟨z1, z2, z3⟩ | ⟨z1, z2, z3⟩
        · refine ⟨fun q => absurd z1 q, fun _ => ?_⟩
          unfold tk_X10_judgeAll_133
          intro x ex
          rw [ex, show nI i + (1 : Int32) = nI (i + 1) from nI_1 i]
          rw [if_pos z1] at hp
          rw [z3] at f1
          exact ih (i + 1) th 1 1 Q Yc (by omega) (by omega) (by omega) f1 (fun q => by omega) (by omega) hq mx mq j15 hp
        · refine ⟨fun _ => ⟨fun _ => ?_, fun q => absurd z1 q⟩, fun q => by omega⟩
          unfold tk_X10_judgeAll_133
          intro x ex
          rw [ex, show nI i + (1 : Int32) = nI (i + 1) from nI_1 i]
          rw [if_neg (by omega)] at hp
          have be0 := hub z2
          rw [z3] at f1
          rw [be0]
          exact ih (i + 1) th 0 0 Q Yc (by omega) (by omega) (by omega) f1 (fun q => rfl) (by omega) hq mx mq j15 hp
      · have h4 : thN c ≤ 4 := (thN_c _).resolve_left h9
        obtain ⟨y1, y2, y3, y4, y5, y6⟩ := wt_thing f3 h9
        rw [if_neg h9, if_neg y2] at hp
        have k107 : tk_X10_judgeAll_107 st post m (nI w) (nI o) (nI b) (tk_X10_judgeAll_35 st post m (nI w) (nI o) (nI b) (j + 1)) Yc (nI th) (nI be) (nI i) (nI (thN c)) := by
          unfold tk_X10_judgeAll_107 tk_X10_judgeAll_127 tk_X10_judgeAll_133
          refine m_doThing hw hmc hN hnc hw1 mq hq h4 hbe (by omega) (fun hd Y' mx' mq' => ⟨fun _ x19 e19 x14 e14 => ?_, fun q => absurd q (by decide)⟩) (fun hd => ⟨fun q => absurd rfl q, fun _ Y18 e18 x19 e19 x14 e14 => ?_⟩)
          · rw [e19, e14, show nI i + (1 : Int32) = nI (i + 1) from nI_1 i, show nI th + (1 : Int32) = nI (th + 1) from nI_1 th]
            rw [if_pos hd] at hp
            refine ih (i + 1) (th + 1) 0 _ _ Y' (by omega) (by omega) (by omega) f1 (fun _ => rfl) ?_ (ddQ_wf hq hd) (mx.trans (mx'.mono (fun t q => by unfold scD at q; unfold scJ; omega))) mq' (by rw [(mx'.2.1 15 (by unfold scD; omega)).1]; exact j15) hp
            show (ddT W N Q (thN c) be).1 ≤ _
            rw [ddT_1]
            split <;> omega
          · rw [hd] at hp
            have mx18 : MX m scJ Y Y18 := mx.trans (by rw [e18]; exact MX.sI (S := scJ) ⟨by decide, by decide⟩)
            have hP18 := mx18.mp (fun t h1 h2 q => by unfold scJ at q; omega) hP
            have j18 : tI Y18 m 15 = nI th := by rw [e18, tI_sI, if_pos ⟨rfl, rfl⟩]
            have mq18 : MQP Y18 m Q := by
              unfold MQP MTP at mq ⊢
              rw [e18, tI_sI, if_neg (fun q => absurd q.2 (by decide)), tI_sI, if_neg (fun q => absurd q.2 (by decide)), tI_sI, if_neg (fun q => absurd q.2 (by decide)), tI_sI, if_neg (fun q => absurd q.2 (by decide))]
              exact mq
            have fin := hp Y18 mx18 mq18 j18
            rw [tk_X10_judgeAll_35, j18]
            refine ⟨fun _ => fin, fun _ => ⟨fun _ => fin, fun q => absurd ?_ q⟩⟩
            rw [show (0 : Int32) = nI 0 from rfl, nI_leI (by omega) (by omega)]
            exact Nat.zero_le _
        refine ⟨fun _ => ⟨fun q => absurd q y3, fun _ => ?_⟩, fun q => absurd q y2⟩
        rcases thN_eq h9 with ⟨z1, z2⟩ | ⟨z1, z2⟩ | ⟨z1, z2, z3, z4⟩
        · rw [z2] at k107
          exact ⟨fun q => absurd z1 q, fun _ => k107⟩
        · rw [z2] at k107
          exact ⟨fun _ => ⟨fun q => absurd z1 q, fun _ => k107⟩, fun q => by omega⟩
        · rw [z4] at k107
          refine ⟨fun _ => ⟨fun _ => ?_, fun q => absurd q z2⟩, fun q => absurd q z1⟩
          rw [show nI c - (48 : Int32) = nI (c - 48) from pk_sub (b := 48) z3]
          exact k107
  unfold tp_X10_judgeAll
  intro Y1 e1 Y2 e2 Y3 e3 Y4 e4 Y5 e5
  have mx5 : MX m scJ Y Y5 := by
    rw [e5, e4, e3, e2, e1]
    exact (MX.sI (S := scJ) ⟨by decide, by decide⟩).trans ((MX.sI (S := scJ) ⟨by decide, by decide⟩).trans ((MX.sI (S := scJ) ⟨by decide, by decide⟩).trans ((MX.sI (S := scJ) ⟨by decide, by decide⟩).trans (MX.sI (S := scJ) ⟨by decide, by decide⟩))))
  have ne : ∀ {x y : Nat}, x ≠ y → ¬ (m = m ∧ x = y) := fun h q => h q.2
  refine ⟨n + 1, key n 0 0 0 0 (0, o, b, T0) Y5 (by omega) (by omega) (by omega) hf (fun _ => rfl) (Nat.le_refl _) ⟨Nat.zero_le _, ho, hb⟩ mx5 ⟨⟨fun k hk => absurd hk (Nat.not_lt_zero _), ?_, fun k hk => absurd hk (Nat.not_lt_zero _)⟩, ?_, ?_, ?_⟩ ?_ hpz⟩
  · rw [e5, tI_sI, if_neg (ne (by decide)), e4, tI_sI, if_neg (ne (by decide)), e3, tI_sI, if_neg (ne (by decide)), e2, tI_sI, if_neg (ne (by decide)), e1, tI_sI, if_pos ⟨rfl, rfl⟩]
    rfl
  · rw [e5, tI_sI, if_neg (ne (by decide)), e4, tI_sI, if_pos ⟨rfl, rfl⟩]
    rfl
  · rw [e5, tI_sI, if_neg (ne (by decide)), e4, tI_sI, if_neg (ne (by decide)), e3, tI_sI, if_pos ⟨rfl, rfl⟩]
  · rw [e5, tI_sI, if_pos ⟨rfl, rfl⟩]
  · rw [e5, tI_sI, if_neg (ne (by decide)), e4, tI_sI, if_neg (ne (by decide)), e3, tI_sI, if_neg (ne (by decide)), e2, tI_sI, if_pos ⟨rfl, rfl⟩]
end MD
