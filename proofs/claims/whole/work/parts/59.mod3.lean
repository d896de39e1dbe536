section MT
variable {st : TS} {Y : TY} {m w : Nat} {W : WD} {N : ND} {Q : QD}
theorem m_thumbDoes {post : Int32 → Prop} (hw : wfW W) (hm : MWP Y m w W) (hw1 : w ≤ 1) {r h o : Nat} (hr : r ≤ 3) (hh : h < hrs W) (ho : o ≤ 20) (hp : post (nI (tuN W r h o))) : tp_X10_thumbDoes st post Y m (nI w) (nI r) (nI h) (nI o) := by
  have h48 := hw.2.1
  have hs := shp_le hw h
  have k100 : ∀ s : Bool, r ≠ 0 → saB W r h o = s → tk_X10_thumbDoes_100 st post Y m (nI w) (nI r) (nI h) (nI o) (bI s) := by
    intro s r0 es
    unfold tk_X10_thumbDoes_100
    unfold tuN at hp
    rw [if_neg r0, es] at hp
    refine bI_el (fun c => m_canBe (t := 3) hw hm hw1 (by omega) (by omega) (bI_el' (fun c3 => m_canBe (t := 2) hw hm hw1 (by omega) (by omega) (bI_el' (fun c2 => ?_) (fun c2 => ?_))) (fun c3 => ?_))) (fun c => ?_)
    · rw [if_pos c, if_neg (by rw [c3]; decide), if_neg (by rw [c2]; decide)] at hp
      exact hp
    · rw [if_pos c, if_neg (by rw [c3]; decide), if_pos c2] at hp
      exact hp
    · rw [if_pos c, if_pos c3] at hp
      exact hp
    · rw [if_neg (by rw [c]; decide)] at hp
      exact hp
  have k0 : r ≠ 0 → saB W r h o = false → tk_X10_thumbDoes_100 st post Y m (nI w) (nI r) (nI h) (nI o) 0 := k100 false
  have k1 : r ≠ 0 → saB W r h o = true → tk_X10_thumbDoes_100 st post Y m (nI w) (nI r) (nI h) (nI o) 1 := k100 true
  unfold tp_X10_thumbDoes tk_X10_thumbDoes_99 tk_X10_thumbDoes_78
  have e0 : (nI r = 0) = (r = 0) := by rw [show (0 : Int32) = nI 0 from rfl, eqn (by omega) (by omega)]
  have e1 : (nI r = (1 : Int32)) = (r = 1) := by rw [show (1 : Int32) = nI 1 from rfl, eqn (by omega) (by omega)]
  have e2 : (nI r = (2 : Int32)) = (r = 2) := by rw [show (2 : Int32) = nI 2 from rfl, eqn (by omega) (by omega)]
  have e3 : (nI h - nI h / (2 : Int32) * (2 : Int32) = (1 : Int32)) = (h % 2 = 1) := by rw [show (2 : Int32) = nI 2 from rfl, pk_rem (by omega) (by omega) (by omega), show (1 : Int32) = nI 1 from rfl, eqn (by omega) (by omega)]
  have l1 : (nI o < (1 : Int32)) = (o < 1) := by rw [show (1 : Int32) = nI 1 from rfl]; exact propext (nI_ltI (by omega) (by omega))
  have l4 : (nI o < (4 : Int32)) = (o < 4) := by rw [show (4 : Int32) = nI 4 from rfl]; exact propext (nI_ltI (by omega) (by omega))
  have l8 : (nI o < (8 : Int32)) = (o < 8) := by rw [show (8 : Int32) = nI 8 from rfl]; exact propext (nI_ltI (by omega) (by omega))
  have l50 : ((50 : Int32) ≤ nI (shp W h)) = (50 ≤ shp W h) := by rw [show (50 : Int32) = nI 50 from rfl]; exact propext (nI_leI (by omega) (by omega))
  have e48 : (48 : Int32) * nI w + nI h = nI (48 * w + h) := by rw [show (48 : Int32) = nI 48 from rfl, ix 48 (by omega) hw1 (by omega)]
  rw [e0, e1, e2, e3, l1, l4, l8, e48, nI_clamp (by omega), (hm.2.2.2 h hh).1, l50]
  have s1 : r = 1 → saB W r h o = decide (8 ≤ o) := fun q => by simp only [saB, if_pos q]
  have s2 : r = 2 → saB W r h o = (decide (4 ≤ o) && decide (shp W h < 50)) := fun q => by subst q; rfl
  have s3 : ¬ r = 1 → ¬ r = 2 → saB W r h o = (decide (1 ≤ o) && nigB h) := fun q q2 => by simp only [saB, if_neg q, if_neg q2]
  refine ⟨fun r0 => ⟨fun r1 => ⟨fun r2 => ⟨fun c => k0 r0 (by rw [s3 r1 r2, decide_eq_false (by omega)]; rfl), fun c => p_mnight (by omega) (bI_el' (fun z => k0 r0 (by rw [s3 r1 r2, z]; simp)) (fun z => k1 r0 (by rw [s3 r1 r2, z, decide_eq_true (show 1 ≤ o by omega)]; rfl)))⟩, fun r2 => ⟨fun c => k0 r0 (by rw [s2 r2, decide_eq_false (by omega)]; rfl), fun c => ⟨vp_in_nI (by omega) (by omega), fun z => k0 r0 (by rw [s2 r2, decide_eq_true (show 4 ≤ o by omega), decide_eq_false (show ¬ shp W h < 50 by omega)]; rfl), fun z => k1 r0 (by rw [s2 r2, decide_eq_true (show 4 ≤ o by omega), decide_eq_true (show shp W h < 50 by omega)]; rfl)⟩⟩⟩, fun r1 => ⟨fun c => k0 r0 (by rw [s1 r1, decide_eq_false (by omega)]), fun c => k1 r0 (by rw [s1 r1, decide_eq_true (by omega)])⟩⟩, fun r0 => ⟨fun c => ?_, fun c => m_canBe (t := 1) hw hm hw1 (by omega) (by omega) (bI_el' (fun z => ?_) (fun z => ?_))⟩⟩
  · unfold tuN at hp
    rw [if_pos r0, if_neg (fun z => c z.1)] at hp
    exact hp
  · unfold tuN at hp
    rw [if_pos r0, if_neg (fun q => absurd q.2 (by rw [z]; decide))] at hp
    exact hp
  · unfold tuN at hp
    rw [if_pos r0, if_pos ⟨c, z⟩] at hp
    exact hp
theorem m_thumbAll {post : TY → Prop} (hw : wfW W) (hm : MWP Y m w W) (hN : wfN N) (hn : MNP Y m N) (hw1 : w ≤ 1) {r o : Nat} (hr : r ≤ 3) (ho : o ≤ 20) (hp : ∀ Y', MX m scD Y Y' → MQP Y' m (taF W N r 48 (0, o, 0, T0)) → post Y') : tp_X10_thumbAll st post Y m (nI w) (nI r) (nI o) := by
  have h48 := hw.2.1
  have hpz := hp
  clear hp
  have key : ∀ j Q Yc, hrs W - Q.1 ≤ j → Q.2.2.2.1 ≤ Q.1 → wfQ W Q → MX m scD Y Yc → MQP Yc m Q → (∀ Y', MX m scD Y Y' → MQP Y' m (taF W N r j Q) → post Y') → tk_X10_thumbAll_20 st post m (nI w) (nI r) (nI o) (j + 1) Yc := by
    intro j
    induction j with
    | zero =>
      intro Q Yc hj hT hq mx mq hp
      have hmc := mx.mw (fun t h1 q => by unfold scD at q; omega) hm
      rw [tk_X10_thumbAll_20, nI_clamp (by omega), hmc.2.1, mq.2.1]
      have := hq.1
      rw [nI_leI (by omega) (by omega)]
      exact ⟨vp_in_nI (by omega) (by omega), fun _ => hp Yc mx mq, fun q => by omega⟩
    | succ j ih =>
      intro Q Yc hj hT hq mx mq hp
      have hmc := mx.mw (fun t h1 q => by unfold scD at q; omega) hm
      have hnc := mx.mn (fun t h1 h2 q => by unfold scD at q; omega) hn
      have hq1 := hq.1
      rw [tk_X10_thumbAll_20, nI_clamp (by omega), hmc.2.1, mq.2.1, mq.2.2.1, nI_leI (by omega) (by omega)]
      unfold taF at hp
      refine ⟨vp_in_nI (by omega) (by omega), fun q => ?_, fun q => ?_⟩
      · rw [if_pos q] at hp
        exact hp Yc mx mq
      · rw [if_neg q] at hp
        obtain ⟨s1, s2, s3, s4⟩ := tu_step (N := N) (r := r) hq (show Q.1 < hrs W by omega)
        have t3 := (tuN_ok (r := r) (o := Q.2.1) (show Q.1 < hrs W by omega)).1
        refine m_thumbDoes hw hmc hw1 hr (by omega) hq.2.1 ?_
        refine m_doThing (e := 0) hw hmc hN hnc hw1 mq hq (by omega) (by omega) (by omega) (fun _ Y' mx' mq' => ?_) (fun hd => by rw [s1] at hd; cases hd)
        refine ih _ Y' ?_ ?_ s2 (mx.trans mx') mq' hp
        · have : 1 ≤ (if tuN W r Q.1 Q.2.1 = 3 then 2 else 1) := by split <;> omega
          omega
        · omega
  unfold tp_X10_thumbAll
  intro Y1 e1 Y2 e2 Y3 e3 Y4 e4
  have i : ∀ {t}, 16 ≤ t → t ≤ 18 → scD t := fun h1 h2 => Or.inr ⟨h1, h2⟩
  have mx4 : MX m scD Y Y4 := by
    rw [e4, e3, e2, e1]
    exact (MX.sI (S := scD) (Or.inl ⟨by decide, by decide⟩)).trans ((MX.sI (S := scD) (i (by decide) (by decide))).trans ((MX.sI (S := scD) (i (by decide) (by decide))).trans (MX.sI (S := scD) (i (by decide) (by decide)))))
  have ne : ∀ {x y : Nat}, x ≠ y → ¬ (m = m ∧ x = y) := fun h q => h q.2
  refine ⟨49, key 48 (0, o, 0, T0) Y4 (by show hrs W - 0 ≤ 48; omega) (Nat.le_refl _) ⟨Nat.zero_le _, ho, Nat.zero_le _⟩ mx4 ⟨⟨fun k hk => absurd hk (Nat.not_lt_zero _), ?_, fun k hk => absurd hk (Nat.not_lt_zero _)⟩, ?_, ?_, ?_⟩ hpz⟩
  · rw [e4, tI_sI, if_neg (ne (by decide)), e3, tI_sI, if_neg (ne (by decide)), e2, tI_sI, if_neg (ne (by decide)), e1, tI_sI, if_pos ⟨rfl, rfl⟩]
    rfl
  · rw [e4, tI_sI, if_neg (ne (by decide)), e3, tI_sI, if_pos ⟨rfl, rfl⟩]
    rfl
  · rw [e4, tI_sI, if_neg (ne (by decide)), e3, tI_sI, if_neg (ne (by decide)), e2, tI_sI, if_pos ⟨rfl, rfl⟩]
  · rw [e4, tI_sI, if_pos ⟨rfl, rfl⟩]
    rfl
theorem m_two93 {post : Int32 → TY → Prop} {v2 v3 : Int32} (hw : wfW W) (hm : MWP Y m w W) (hN : wfN N) (hn : MNP Y m N) (hw1 : w ≤ 1) {T : TD} (hT : MTP Y m T) (hl : T.1 < 130) {h who oth a b ls : Nat} {sq : Bool} (hh : h < hrs W) (hwo : who + oth = 1) (ea : tA Y m 21 who = nI a) (eb : tA Y m 21 oth = nI b) (ha : a ≤ 20) (hb : b ≤ 20) (hls : ls ≤ 20) {r22 : TY → Int32 → Prop} (hp : ∀ Y', MX m scW Y Y' → MTP Y' m (psT T (shp W h) (blB N 0 0 ls)) → tA Y' m 21 who = nI (tuO W N h a true) → tA Y' m 21 oth = nI (tuO W N h b sq) → r22 Y' (nI (h + 1))) : tk_X10_twoOf_93 st post m (nI w) v2 v3 r22 Y (nI h) (nI who) (bI sq) (nI ls) := by
  have h48 := hw.2.1
  have eo : (1 : Int32) - nI who = nI oth := by
    rw [show (1 : Int32) = nI 1 from rfl, pk_sub (by omega)]
    congr 1
    omega
  have hne : oth ≠ who := by omega
  unfold tk_X10_twoOf_93
  rw [eo, nI_clamp (by omega), nI_clamp (by omega)]
  refine m_blindOf (t := 0) (b := 0) hN hn hls (by omega) (by omega) (m_passHour hw hm hw1 hT hl hh (blB_le hls) (fun Y12 mx12 mt12 => ⟨vp_in_nI (by omega) (by omega), ?_⟩))
  have hm12 := mx12.mw (fun t h1 q => by unfold scT at q; omega) hm
  have hn12 := mx12.mn (fun t h1 h2 q => by unfold scT at q; omega) hn
  have e21 := (mx12.2.1 21 (by unfold scT; omega)).2
  rw [e21, ea]
  refine m_owedBehind (t := 0) hw hm12 hN hn12 hw1 hh ha (by omega) ⟨vp_in_nI (by omega) (by omega), fun Y14 e14 => ⟨vp_in_nI (by omega) (by omega), fun x15 e15 => ?_⟩⟩
  have f14 : tA Y14 m 21 oth = nI b := by
    rw [e14, tA_same, pk_un hne]
    exact eb
  rw [f14] at e15
  rw [e15]
  clear e15 x15
  have mx14 : MX m scW Y Y14 := (mx12.mono (fun t q => Or.inl q)).trans (by rw [e14]; exact MX.sF (S := scW) (Or.inr rfl))
  have hm14 := mx14.mw (fun t h1 q => by unfold scW at q; omega) hm
  have hn14 := mx14.mn (fun t h1 h2 q => by unfold scW at q; omega) hn
  have mt14 : MTP Y14 m (psT T (shp W h) (blB N 0 0 ls)) := by
    unfold MTP at mt12 ⊢
    rw [e14, tA_other _ _ (by decide), tA_other _ _ (by decide), tA_other _ _ (by decide)]
    exact mt12
  have k183 : ∀ v, v = tuO W N h b sq → tk_X10_twoOf_183 st post m (nI w) v2 v3 r22 Y14 (nI h) (nI v) (nI oth) := by
    intro v ev
    unfold tk_X10_twoOf_183
    refine ⟨vp_in_nI (by omega) (by omega), fun Y19 e19 x20 e20 => ?_⟩
    rw [nI_clamp (by omega)] at e19
    rw [e20, show nI h + (1 : Int32) = nI (h + 1) from nI_1 h]
    refine hp Y19 (mx14.trans (by rw [e19]; exact MX.sF (S := scW) (Or.inr rfl))) ?_ ?_ ?_
    · unfold MTP at mt14 ⊢
      rw [e19, tA_other _ _ (by decide), tA_other _ _ (by decide), tA_other _ _ (by decide)]
      exact mt14
    · rw [e19, tA_same, pk_un (Ne.symm hne), e14, tA_same, pk_us]
      rfl
    · rw [e19, tA_same, pk_us, ev]
  rw [show (2 : Int32) = nI 2 from rfl, nI_leI (by omega) (by omega)]
  refine bI_el' (fun c => ⟨fun c2 => ?_, fun c2 => ?_⟩) (fun c => m_owedBehind (t := 0) hw hm14 hN hn14 hw1 hh hb (by omega) (k183 _ (by rw [c]; rfl)))
  · rw [pk_sub c2]
    exact k183 _ (by rw [c]; rfl)
  · exact k183 0 (by rw [c]; show 0 = b - 2; omega)
theorem m_twoOf {post : Int32 → TY → Prop} (hw : wfW W) (hm : MWP Y m w W) (hN : wfN N) (hn : MNP Y m N) (hw1 : w ≤ 1) {o u : Nat} (ho : o ≤ 20) (hu : 1 ≤ u) (hu6 : u ≤ 6) (hp : ∀ Y', MX m scW Y Y' → post (nI (sfF (twS W N u (hrs W) 0 o o T0) (twS W N u (hrs W) 0 o o T0).1 1000000)) Y') : tp_X10_twoOf st post Y m (nI w) (nI o) (nI u) := by
  have h48 := hw.2.1
  have hpz := hp
  clear hp
  have key : ∀ j h o1 o2 T Yc, h + j = hrs W → T.1 = h → o1 ≤ 20 → o2 ≤ 20 → MX m scW Y Yc → MTP Yc m T → tA Yc m 21 0 = nI o1 → tA Yc m 21 1 = nI o2 → (∀ Y', MX m scW Y Y' → post (nI (sfF (twS W N u j h o1 o2 T) (twS W N u j h o1 o2 T).1 1000000)) Y') → tk_X10_twoOf_22 st post m (nI w) (nI o) (nI u) (j + 1) Yc (nI h) := by
    intro j
    induction j with
    | zero =>
      intro h o1 o2 T Yc hj eT h1 h2 mx mt a0 a1 hp
      have hmc := mx.mw (fun t h1 q => by unfold scW at q; omega) hm
      rw [tk_X10_twoOf_22, nI_clamp (by omega), hmc.2.1, nI_leI (by omega) (by omega)]
      exact ⟨vp_in_nI (by omega) (by omega), fun _ => m_safe mt (by omega) (hp Yc mx), fun q => by omega⟩
    | succ j ih =>
      intro h o1 o2 T Yc hj eT h1 h2 mx mt a0 a1 hp
      have hmc := mx.mw (fun t h1 q => by unfold scW at q; omega) hm
      have hnc := mx.mn (fun t h1 h2 q => by unfold scW at q; omega) hn
      have hdu := Nat.div_le_self h u
      have hmod : h / u % 2 < 2 := Nat.mod_lt _ (by decide)
      have eu : (nI u = 0) = (u = 0) := by rw [show (0 : Int32) = nI 0 from rfl, eqn (by omega) (by omega)]
      rw [tk_X10_twoOf_22, nI_clamp (by omega), hmc.2.1, nI_leI (by omega) (by omega), eu, show (2 : Int32) = nI 2 from rfl, pk_div (by omega) (by omega) (by omega), pk_rem (by omega) (by omega) (by omega)]
      refine ⟨vp_in_nI (by omega) (by omega), fun q => by omega, fun _ => ⟨by omega, fun x7 e7 => ?_⟩⟩
      rw [e7]
      clear e7 x7
      refine m_isSquall hw hmc hw1 (by omega) ?_
      have gen : ∀ who oth a b, h / u % 2 = who → who + oth = 1 → tA Yc m 21 who = nI a → tA Yc m 21 oth = nI b → a ≤ 20 → b ≤ 20 → (twL (sqb W h) (owb u h) o1 o2 = if sqb W h then min a b else a) → (∀ Y', MX m scW Yc Y' → MTP Y' m (psT T (shp W h) (blB N 0 0 (twL (sqb W h) (owb u h) o1 o2))) → tA Y' m 21 who = nI (tuO W N h a true) → tA Y' m 21 oth = nI (tuO W N h b (sqb W h)) → tk_X10_twoOf_22 st post m (nI w) (nI o) (nI u) (j + 1) Y' (nI (h + 1))) →
          ((bI (decide (sql W h = 1)) = 0 → tk_X10_twoOf_74 st post m (nI w) (nI o) (nI u) (tk_X10_twoOf_22 st post m (nI w) (nI o) (nI u) (j + 1)) Yc (nI h) (nI (h / u % 2)) (bI (decide (sql W h = 1)))) ∧ (¬ bI (decide (sql W h = 1)) = 0 → vp_in (nI (h / u % 2)) 2 ∧ vp_in ((1 : Int32) - nI (h / u % 2)) 2 ∧ ((tA Yc m 21 ((1 : Int32) - nI (h / u % 2)).toNatClampNeg) ≤ (tA Yc m 21 (nI (h / u % 2)).toNatClampNeg) → vp_in ((1 : Int32) - nI (h / u % 2)) 2 ∧ tk_X10_twoOf_93 st post m (nI w) (nI o) (nI u) (tk_X10_twoOf_22 st post m (nI w) (nI o) (nI u) (j + 1)) Yc (nI h) (nI (h / u % 2)) (bI (decide (sql W h = 1))) ((tA Yc m 21 ((1 : Int32) - nI (h / u % 2)).toNatClampNeg))) ∧ (¬ (tA Yc m 21 ((1 : Int32) - nI (h / u % 2)).toNatClampNeg) ≤ (tA Yc m 21 (nI (h / u % 2)).toNatClampNeg) → tk_X10_twoOf_74 st post m (nI w) (nI o) (nI u) (tk_X10_twoOf_22 st post m (nI w) (nI o) (nI u) (j + 1)) Yc (nI h) (nI (h / u % 2)) (bI (decide (sql W h = 1)))))) := by
        intro who oth a b ew hwo ea eb ha hb el hq
        have eo : (1 : Int32) - nI who = nI oth := by
          rw [show (1 : Int32) = nI 1 from rfl, pk_sub (by omega)]
          congr 1
          omega
        have hv : vp_in (nI who) 2 := vp_in_nI (by omega) (by omega)
        have hv2 : vp_in (nI oth) 2 := vp_in_nI (by omega) (by omega)
        have k93 : ∀ ls, ls = twL (sqb W h) (owb u h) o1 o2 → tk_X10_twoOf_93 st post m (nI w) (nI o) (nI u) (tk_X10_twoOf_22 st post m (nI w) (nI o) (nI u) (j + 1)) Yc (nI h) (nI who) (bI (sqb W h)) (nI ls) := by
          intro ls e
          subst e
          exact m_two93 hw hmc hN hnc hw1 mt (by omega) (by omega) hwo ea eb ha hb (twL_le h1 h2) hq
        have k74 : twL (sqb W h) (owb u h) o1 o2 = a → tk_X10_twoOf_74 st post m (nI w) (nI o) (nI u) (tk_X10_twoOf_22 st post m (nI w) (nI o) (nI u) (j + 1)) Yc (nI h) (nI who) (bI (sqb W h)) := by
          intro e
          unfold tk_X10_twoOf_74
          rw [nI_clamp (by omega), ea]
          exact ⟨hv, k93 a e.symm⟩
        rw [ew, eo, nI_clamp (by omega), nI_clamp (by omega), ea, eb, nI_leI (by omega) (by omega)]
        show (bI (sqb W h) = 0 → _) ∧ (¬ bI (sqb W h) = 0 → _)
        refine bI_el' (fun c => k74 (by rw [el, c]; rfl)) (fun c => ⟨hv, hv2, fun c2 => ⟨hv2, k93 b ?_⟩, fun c2 => k74 ?_⟩)
        · rw [el, c]
          show b = min a b
          omega
        · rw [el, c]
          show min a b = a
          omega
      rcases (show h / u % 2 = 0 ∨ h / u % 2 = 1 by omega) with c | c
      · have eo : owb u h = true := decide_eq_true c
        refine gen 0 1 o1 o2 c rfl a0 a1 h1 h2 (by rw [eo]; unfold twL; rfl) (fun Y' mx' mt' f0 f1 => ?_)
        refine ih (h + 1) _ _ _ Y' (by omega) (by show T.1 + 1 = h + 1; omega) (tuO_le h1) (tuO_le h2) (mx.trans mx') mt' ?_ ?_ hp
        · rw [eo, Bool.or_true]
          exact f0
        · rw [eo, Bool.not_true, Bool.or_false]
          exact f1
      · have eo : owb u h = false := decide_eq_false (by omega)
        refine gen 1 0 o2 o1 c rfl a1 a0 h2 h1 (by rw [eo]; unfold twL; rw [Nat.min_comm]; rfl) (fun Y' mx' mt' f0 f1 => ?_)
        refine ih (h + 1) _ _ _ Y' (by omega) (by show T.1 + 1 = h + 1; omega) (tuO_le h1) (tuO_le h2) (mx.trans mx') mt' ?_ ?_ hp
        · rw [eo, Bool.or_false]
          exact f1
        · rw [eo, Bool.not_false, Bool.or_true]
          exact f0
  unfold tp_X10_twoOf
  refine ⟨(show vp_in (nI 0) 2 from vp_in_nI (by decide) (by decide)), fun Y1 e1 => ⟨(show vp_in (nI 1) 2 from vp_in_nI (by decide) (by decide)), fun Y2 e2 Y3 e3 => ?_⟩⟩
  have mx3 : MX m scW Y Y3 := by
    rw [e3, e2, e1]
    exact (MX.sF (S := scW) (Or.inr rfl)).trans ((MX.sF (S := scW) (Or.inr rfl)).trans (MX.sI (S := scW) (Or.inl ⟨by decide, by decide⟩)))
  refine ⟨hrs W + 1, key (hrs W) 0 o o T0 Y3 (by omega) rfl ho ho mx3 ⟨fun k hk => absurd hk (Nat.not_lt_zero _), ?_, fun k hk => absurd hk (Nat.not_lt_zero _)⟩ ?_ ?_ hpz⟩
  · rw [e3, tI_sI, if_pos ⟨rfl, rfl⟩]
    rfl
  · rw [e3, tA_sI, e2, tA_same, show (1 : Int32).toNatClampNeg = 1 from rfl, pk_un (by decide), e1, tA_same, show (0 : Int32).toNatClampNeg = 0 from rfl, pk_us]
  · rw [e3, tA_sI, e2, tA_same, show (1 : Int32).toNatClampNeg = 1 from rfl, pk_us]
theorem m_thousandth {post : Int32 → TY → Prop} {d : Nat} (hd : d < 65537) (e22 : tI Y m 22 = nI d) (hp : ∀ Y', MX m scE Y Y' → tI Y' m 22 = nI (dwS d) → post (nI (dwS d % 1000)) Y') : tp_X10_thousandth st post Y m := by
  unfold tp_X10_thousandth
  intro Y1 e1
  have := dwS_lt d
  rw [e22, show (75 : Int32) = nI 75 from rfl, show (74 : Int32) = nI 74 from rfl, show (65537 : Int32) = nI 65537 from rfl, pk_mul, nI_add, pk_rem (by omega) (by omega) (by omega)] at e1
  have f1 : tI Y1 m 22 = nI (dwS d) := by rw [e1, tI_sI, if_pos ⟨rfl, rfl⟩]; rfl
  rw [f1, show (1000 : Int32) = nI 1000 from rfl, pk_rem (by omega) (by omega) (by omega)]
  exact hp Y1 (by rw [e1]; exact MX.sI (S := scE) rfl) f1
theorem m_drawLoop {post : Int32 → TY → Prop} {v1 v2 v3 v4 : Int32} {T : TD} (hT : MTP Y m T) (hl : T.1 ≤ 130) {s : Nat} (hs : s < 65537) (e22 : tI Y m 22 = nI s) (hp : ∀ Y', MX m scE Y Y' → post (dwF T T.1 0 s) Y') : ∃ n, tk_X10_draw_65 st post m v1 v2 v3 v4 n Y (0 : Int32) := by
  have hpz := hp
  clear hp
  have key : ∀ j i d Yc, i + j = T.1 → d < 65537 → MX m scE Y Yc → tI Yc m 22 = nI d → (∀ Y', MX m scE Y Y' → post (dwF T j i d) Y') → tk_X10_draw_65 st post m v1 v2 v3 v4 (j + 1) Yc (nI i) := by
    intro j
    induction j with
    | zero =>
      intro i d Yc hi hd mx ed hp
      have hTc := mx.mt (fun t h1 h2 q => by unfold scE at q; omega) hT
      rw [tk_X10_draw_65, hTc.2.1, nI_leI (by omega) (by omega)]
      exact ⟨fun _ => hp Yc mx, fun q => by omega⟩
    | succ j ih =>
      intro i d Yc hi hd mx ed hp
      have hTc := mx.mt (fun t h1 h2 q => by unfold scE at q; omega) hT
      obtain ⟨v1', v2'⟩ := hT.1 i (by omega)
      have hin : vp_in (nI i) 130 := vp_in_nI (by omega) (by omega)
      have d1 := dwS_lt d
      have d2 := dwS_lt (dwS d)
      have m1 : dwS d % 1000 < 1000 := Nat.mod_lt _ (by decide)
      have m2 : dwS (dwS d) % 1000 < 1000 := Nat.mod_lt _ (by decide)
      rw [tk_X10_draw_65, hTc.2.1, nI_leI (by omega) (by omega)]
      unfold dwF at hp
      refine ⟨fun q => by omega, fun _ => m_thousandth hd ed (fun Y15 mx15 e15 => ⟨hin, ?_⟩)⟩
      have mxb := mx.trans mx15
      have hTb := mxb.mt (fun t h1 h2 q => by unfold scE at q; omega) hT
      obtain ⟨u1, u2, u3⟩ := hTb.2.2 i (by omega)
      unfold tk_X10_draw_93 tk_X10_draw_117
      rw [nI_clamp (by omega), u1, nI_leI (by omega) (by omega)]
      refine ⟨fun q => ⟨fun _ x ex => ?_, fun z => absurd rfl z⟩, fun q => ⟨fun z => absurd z (by decide), fun _ => m_thousandth d1 e15 (fun Y19 mx19 e19 => ⟨hin, ?_⟩)⟩⟩
      · rw [ex, show nI i + (1 : Int32) = nI (i + 1) from nI_1 i]
        refine ih (i + 1) _ Y15 (by omega) d1 mxb e15 (fun Y' mx' => ?_)
        have := hp Y' mx'
        rw [if_neg (by omega)] at this
        exact this
      · have mxd := mxb.trans mx19
        have hTd := mxd.mt (fun t h1 h2 q => by unfold scE at q; omega) hT
        obtain ⟨y1, y2, y3⟩ := hTd.2.2 i (by omega)
        rw [y2, nI_leI (by omega) (by omega)]
        refine ⟨fun q2 x ex => ?_, fun q2 => ?_⟩
        · rw [ex, show nI i + (1 : Int32) = nI (i + 1) from nI_1 i]
          refine ih (i + 1) _ Y19 (by omega) d2 mxd e19 (fun Y' mx' => ?_)
          have := hp Y' mx'
          rw [if_pos (by omega), if_neg (by omega)] at this
          exact this
        · have := hp Y19 mxd
          rw [if_pos (by omega), if_pos (by omega)] at this
          exact this
  exact ⟨T.1 + 1, key T.1 0 s Y (by omega) hs (MX.refl _ _ _) e22 hpz⟩
end MT
