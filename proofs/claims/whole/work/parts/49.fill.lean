section FH
variable {st : TS} {Y : TY} {p mc ms : Nat} {W : WD} {N : ND}
set_option maxHeartbeats 4000000 in
theorem c_fillHour {post : TY → Prop} (hc : PC st Y p W N) (hok : PlOK Y p W N) (hN : wfN N) {h c l : Nat} (hh : h ≤ hrs W) (hcc : c ≤ 24) (hl : l ≤ 4) (hcap : c ≤ hrs W - h + l)
    (hrow : ∀ d o, d < 10 → o ≤ 20 → SRow Y (st.1 p 2) W N h d o)
    (hA : ∀ h2 l2 c2, l2 ≤ l → c2 ≤ c → h2 ≤ hrs W → c2 ≤ hrs W - h2 + l2 → (h < h2 ∨ (h2 = h ∧ (l2 < l ∨ c2 < c))) → Fl Y p c2 l2 h2)
    (hm : tP Y p (c * 5 + l) = none → 2 ≤ mc ∧ 1031 ≤ ms)
    (hp : ∀ Y', PF st p Y Y' → PC st Y' p W N → PlOK Y' p W N → FM p Y Y' → Fl Y' p c l h → (∀ t, tA Y' (st.1 p 2) t = tA Y (st.1 p 2) t) → (∀ i, i ≠ c * 5 + l → tP Y' p i = tP Y p i) → post Y') : tp_X4_fillHour st post mc ms Y p (nI h) (nI c) (nI l) := by
  have hw := hc.2.2.2.2.1
  have h48 := hw.1.2.1
  have z0 : ∀ n : Nat, 0 ≤ n := Nat.zero_le
  have ecap : cap W h c l = c := by unfold cap; omega
  have core : ∀ (Y3 : TY) (b kc ks : Nat), kc ≤ mc → ks ≤ ms → PF st p Y Y3 → PC st Y3 p W N → PlOK Y3 p W N → FM p Y Y3 → (∀ t, tA Y3 (st.1 p 2) t = tA Y (st.1 p 2) t) → (∀ i, i ≠ c * 5 + l → tP Y3 p i = tP Y p i) → tP Y3 p (c * 5 + l) = some b →
      (nI h < tI Y3 b 0 → ∀ Y8 : TY, Y8 = sI Y3 b 0 (nI h) → ∃ n9 : Nat, tk_X4_fillHour_33 st post mc ms p (nI h) (nI c) (nI l) n9 Y8 kc ks b (0 : Int32)) ∧ (¬ nI h < tI Y3 b 0 → kc ≤ mc ∧ ks ≤ ms ∧ post Y3) := by
    intro Y3 b kc ks hkc hks F3 C3 O3 M3 S3 P3 hb
    obtain ⟨f, f1, f2, f3⟩ := O3 c l b hcc hl hb
    have kb : tK Y3 b = 5 := C3.2.2.2.2.2.2.1 _ b hb
    have bs : b ≠ st.1 p 2 := fun e => by rw [e, C3.2.2.2.1] at kb; cases kb
    rw [f2, nI_ltI (by omega) (by omega)]
    refine ⟨fun cf Y8 e8 => ?_, fun cf => ⟨hkc, hks, hp Y3 F3 C3 O3 M3 ⟨b, f, hb, f2, by omega, f1⟩ S3 P3⟩⟩
    have T8 : ∀ t, tA Y8 b t = tA Y3 b t := fun t => by rw [e8]; rfl
    have A8 : ∀ a t, tA Y8 a t = tA Y3 a t := fun a t => by rw [e8]; rfl
    -- the end
    have fin : ∀ g, (∀ o, o ≤ 20 → g (h * 21 + o) = nI (V W N h l o c)) → (∀ i, (i < h * 21 ∨ h * 21 + 21 ≤ i) → g i = tA Y3 b 1 i) → post (sF Y8 b 1 g) := by
      intro g hg1 hg2
      have FF : PF st p Y3 (sF Y8 b 1 g) := by
        rw [e8]
        exact (PF.sI hb).trans (PF.sF hb)
      have eP : tP (sF Y8 b 1 g) p = tP Y3 p := by rw [e8]; rfl
      have eI : ∀ a, a ≠ b → tI (sF Y8 b 1 g) a 0 = tI Y3 a 0 := fun a ha => by
        rw [tI_sF, e8, tI_sI, if_neg (fun q => ha q.1)]
      have eIb : tI (sF Y8 b 1 g) b 0 = nI h := by rw [tI_sF, e8, tI_sI, if_pos ⟨rfl, rfl⟩]
      have FM3 : FM p Y3 (sF Y8 b 1 g) := by
        intro c2 l2 h2 ⟨b2, f', q1, q2, q3, q4⟩
        by_cases e : b2 = b
        · subst e
          rw [f2] at q2
          have : f = f' := (nI_eq (by omega) (by omega)).mp q2
          exact ⟨b2, h, by rw [eP]; exact q1, eIb, by omega, by omega⟩
        · exact ⟨b2, f', by rw [eP]; exact q1, by rw [eI b2 e]; exact q2, q3, q4⟩
      have flh : Fl (sF Y8 b 1 g) p c l h := ⟨b, h, by rw [eP]; exact hb, eIb, Nat.le_refl _, by omega⟩
      refine hp _ (F3.trans FF) (C3.same FF eP) ?_ (fun c2 l2 h2 q => FM3 _ _ _ (M3 _ _ _ q)) flh (fun t => ?_) (fun i hi => by rw [eP]; exact P3 i hi)
      · intro c2 l2 b2 hc2 hl2 hb2
        rw [eP] at hb2
        by_cases e : b2 = b
        · subst e
          have ei := C3.2.2.2.2.2.2.2 _ _ _ hb2 hb
          have el : l2 = l := by omega
          have ec : c2 = c := by omega
          subst el; subst ec
          refine ⟨h, by omega, eIb, fun h2 q1 q2 q3 => ?_⟩
          by_cases eh : h2 = h
          · subst eh
            refine ⟨fun o ho => by rw [tA_same]; exact hg1 o ho, fun l' c' r1 r2 r3 => ?_⟩
            by_cases e2 : l' = l2 ∧ c' = c2
            · rw [e2.1, e2.2]
              exact flh
            · exact FM3 _ _ _ (M3 _ _ _ (hA h2 l' c' r1 r2 q2 r3 (Or.inr ⟨rfl, by omega⟩)))
          · obtain ⟨b', f', q4, q5, q6, q7⟩ := M3 _ _ _ (hA h2 l2 c2 (Nat.le_refl _) (Nat.le_refl _) q2 q3 (Or.inl (by omega)))
            rw [hb] at q4
            cases q4
            rw [f2] at q5
            have : f = f' := (nI_eq (by omega) (by omega)).mp q5
            obtain ⟨s1, s2⟩ := f3 h2 (by omega) q2 q3
            refine ⟨fun o ho => ?_, fun l' c' r1 r2 r3 => FM3 _ _ _ (s2 l' c' r1 r2 r3)⟩
            rw [tA_same, hg2 _ (by right; have : (h + 1) * 21 ≤ h2 * 21 := Nat.mul_le_mul_right _ (by omega); omega)]
            exact s1 o ho
        · obtain ⟨f', q1, q2, q3⟩ := O3 c2 l2 b2 hc2 hl2 hb2
          refine ⟨f', q1, by rw [eI b2 e]; exact q2, fun h2 r1 r2 r3 => ?_⟩
          obtain ⟨s1, s2⟩ := q3 h2 r1 r2 r3
          exact ⟨fun o ho => by rw [tA_obj _ _ e, A8]; exact s1 o ho, fun l' c' t1 t2 t3 => FM3 _ _ _ (s2 l' c' t1 t2 t3)⟩
      · rw [tA_obj _ _ (Ne.symm bs), A8]
        exact S3 t
    -- the deeds
    have deeds : ∀ j d g, d + j = 10 → (∀ o, o ≤ 20 → g (h * 21 + o) = nI (if h = hrs W then 1000000 else mx (fe W h c l) (vV W N h l o c) d)) → (∀ i, (i < h * 21 ∨ h * 21 + 21 ≤ i) → g i = tA Y3 b 1 i) → tk_X4_fillHour_78 st post mc ms p (nI h) (nI c) (nI l) (j + 1) (sF Y8 b 1 g) kc ks b (nI d) := by
      intro j
      induction j with
      | zero =>
        intro d g hd hg1 hg2
        have : d = 10 := by omega
        subst this
        rw [tk_X4_fillHour_78]
        refine ⟨fun _ => ⟨hkc, hks, fin g (fun o ho => ?_) hg2⟩, fun q => absurd (Int32.le_refl _) q⟩
        rw [hg1 o ho]
        by_cases e : h = hrs W
        · rw [if_pos e, V_end W N (by omega)]
        · rw [if_neg e, V_eq W N (by omega)]
      | succ j ih =>
        intro d g hd hg1 hg2
        rw [tk_X4_fillHour_78, show (10 : Int32) = nI 10 from rfl, nI_leI (by omega) (by omega)]
        refine ⟨fun q => by omega, fun _ => ⟨0, 0, hkc, hks, ?_⟩⟩
        have FF : PF st p Y3 (sF Y8 b 1 g) := by
          rw [e8]
          exact (PF.sI hb).trans (PF.sF hb)
        have eP : tP (sF Y8 b 1 g) p = tP Y3 p := by rw [e8]; rfl
        have CC := C3.same FF eP
        have nxt : ∀ g', (∀ o, o ≤ 20 → g' (h * 21 + o) = nI (if h = hrs W then 1000000 else mx (fe W h c l) (vV W N h l o c) (d + 1))) → (∀ i, (i < h * 21 ∨ h * 21 + 21 ≤ i) → g' i = tA Y3 b 1 i) → tk_X4_fillHour_112 st post mc ms p (nI h) (nI c) (nI l) (tk_X4_fillHour_78 st post mc ms p (nI h) (nI c) (nI l) (j + 1)) (sF Y8 b 1 g') (kc + 0) (ks + 0) b (nI d) := by
          intro g' q1 q2
          unfold tk_X4_fillHour_112
          intro x ex
          rw [ex, show nI d + (1 : Int32) = nI (d + 1) from nI_1 d]
          exact ih (d + 1) g' (by omega) q1 q2
        refine c_planeBehind CC hh hcc hl (by omega) (fun hf => ?_) (fun hf => ⟨fun _ => nxt g (fun o ho => ?_) hg2, fun y hy => by cases hy⟩)
        · obtain ⟨g1, g2, g3, g4⟩ := fe_let hf
          obtain ⟨u1, u2⟩ := let_h g1
          have hnend : ¬ h = hrs W := by omega
          have hle : h + hof (d / 2) ≤ hrs W := by
            unfold hof
            split
            · omega
            · split
              · rename_i c3
                have := u2 c3
                omega
              · omega
          have hly : lyF l d ≤ l := by unfold lyF; split <;> omega
          have hcp : cap W (h + hof (d / 2)) (c - bat d) (lyF l d) ≤ c := by unfold cap; omega
          have hcp2 : cap W (h + hof (d / 2)) (c - bat d) (lyF l d) ≤ hrs W - (h + hof (d / 2)) + lyF l d := by unfold cap; omega
          have hord : h < h + hof (d / 2) ∨ (h + hof (d / 2) = h ∧ (lyF l d < l ∨ cap W (h + hof (d / 2)) (c - bat d) (lyF l d) < c)) := by
            by_cases c4 : d / 2 = 4
            · right
              have := g4 c4
              refine ⟨by simp [hof, c4], Or.inl ?_⟩
              simp only [lyF, if_pos c4]
              omega
            · left
              unfold hof
              rw [if_neg c4]
              split <;> omega
          obtain ⟨r, f', q1, q2, q3, q4⟩ := M3 _ _ _ (hA _ _ _ hly hcp hle hcp2 hord)
          refine ⟨r, by rw [eP]; exact q1, ⟨fun q => (by cases q), fun y hy => ?_⟩⟩
          cases hy
          refine ⟨hkc, hks, ?_⟩
          obtain ⟨f'', w1, w2, w3⟩ := O3 _ _ r (by omega) (by omega) q1
          have ef : f' = f'' := by
            rw [q2] at w2
            exact (nI_eq (by omega) (by omega)).mp w2
          obtain ⟨v1, v2⟩ := w3 (h + hof (d / 2)) (by omega) hle hcp2
          have hrb : r = b → 1 ≤ hof (d / 2) := by
            intro e
            rw [e] at q1
            have ei := C3.2.2.2.2.2.2.2 _ _ _ q1 hb
            have el : lyF l d = l := by omega
            by_cases c4 : d / 2 = 4
            · have := g4 c4
              simp only [lyF, if_pos c4] at el
              omega
            · unfold hof
              rw [if_neg c4]
              split <;> omega
          refine c_weigh (N := N) (mo := fun o => mx (fe W h c l) (vV W N h l o c) d) hw.1 h48 (by omega) bs hf (fun o ho => ?_) (fun o ho => ?_) hrb (fun o ho => ⟨?_, ?_⟩) (fun g' k1 k2 => ?_)
          · have := hrow d o (by omega) ho
            unfold SRow at this ⊢
            rw [tA_obj _ _ (Ne.symm bs), tA_obj _ _ (Ne.symm bs), tA_obj _ _ (Ne.symm bs), A8, A8, A8, S3, S3, S3]
            exact this
          · have e5 := v1 o ho
            rw [V_cap2] at e5
            by_cases e : r = b
            · have e6 := hrb e
              rw [e, tA_same, hg2 _ (by right; have : (h + 1) * 21 ≤ (h + hof (d / 2)) * 21 := Nat.mul_le_mul_right _ (by omega); omega), ← e]
              exact e5
            · rw [tA_obj _ _ e, A8]
              exact e5
          · rw [tA_same, hg1 o ho, if_neg hnend]
          · exact mx_le (fun d _ _ => les_le (by split <;> first | exact les_le (V_le _ _ _ _ _ _) | exact V_le _ _ _ _ _ _))
          · rw [sF_sF]
            refine nxt g' (fun o ho => ?_) (fun i hi => ?_)
            · rw [k1 o ho, if_neg hnend]
              congr 1
              show _ = if fe W h c l d = true ∧ _ then _ else _
              by_cases e : mx (fe W h c l) (vV W N h l o c) d < vV W N h l o c d
              · rw [if_pos e, if_pos ⟨hf, e⟩]
              · rw [if_neg e, if_neg (fun q => e q.2)]
            · rw [k2 i hi, tA_same]
              exact hg2 i hi
        · rw [hg1 o ho]
          congr 1
          by_cases e : h = hrs W
          · rw [if_pos e, if_pos e]
          · rw [if_neg e, if_neg e]
            show _ = if fe W h c l d = true ∧ _ then _ else _
            rw [if_neg (fun q => by rw [hf] at q; exact absurd q.1 (by decide))]
    -- the row's start
    have strt : ∀ j o g, o + j = 21 → (∀ o', o' < o → g (h * 21 + o') = nI (if h = hrs W then 1000000 else 0)) → (∀ i, (i < h * 21 ∨ h * 21 + 21 ≤ i) → g i = tA Y3 b 1 i) → tk_X4_fillHour_33 st post mc ms p (nI h) (nI c) (nI l) (j + 1) (sF Y8 b 1 g) kc ks b (nI o) := by
      intro j
      induction j with
      | zero =>
        intro o g ho hg1 hg2
        have : o = 21 := by omega
        subst this
        rw [tk_X4_fillHour_33]
        refine ⟨fun _ => ⟨11, deeds 10 0 g rfl (fun o ho => ?_) hg2⟩, fun q => absurd (Int32.le_refl _) q⟩
        rw [hg1 o (by omega)]
        rfl
      | succ j ih =>
        intro o g ho hg1 hg2
        rw [tk_X4_fillHour_33, show (21 : Int32) = nI 21 from rfl, nI_leI (by omega) (by omega)]
        refine ⟨fun q => by omega, fun _ => ?_⟩
        have eh : tI (sF Y8 b 1 g) (st.1 p 0) 1 = nI (hrs W) := by
          have n1 : st.1 p 0 ≠ b := fun e => by rw [← e, C3.2.1] at kb; cases kb
          rw [tI_sF, e8, tI_sI, if_neg (fun q => n1 q.1)]
          exact C3.2.2.2.2.1.2.2.1
        rw [eh, eqn (by omega) (by omega), pk_mul, nI_add]
        have put : ∀ v : Nat, v = (if h = hrs W then 1000000 else 0) → tk_X4_fillHour_66 st post mc ms p (nI h) (nI c) (nI l) (tk_X4_fillHour_33 st post mc ms p (nI h) (nI c) (nI l) (j + 1)) (sF Y8 b 1 g) kc ks b (nI o) (nI v) (nI (h * 21 + o)) b := by
          intro v hv
          unfold tk_X4_fillHour_66
          refine ⟨hkc, hks, c_planePut (by omega) ?_⟩
          rw [tA_same, sF_sF]
          intro x ex
          rw [ex, show nI o + (1 : Int32) = nI (o + 1) from nI_1 o]
          refine ih (o + 1) _ (by omega) (fun o' ho' => ?_) (fun i hi => ?_)
          · by_cases e : o' = o
            · subst e
              rw [pk_us, hv]
            · rw [pk_un (by omega)]
              exact hg1 o' (by omega)
          · rw [pk_un (by omega)]
            exact hg2 i hi
        exact ⟨fun q => put 0 (by rw [if_neg q]), fun q => put 1000000 (by rw [if_pos q])⟩
    refine ⟨22, ?_⟩
    have := strt 21 0 (tA Y8 b 1) rfl (fun o ho => by omega) (fun i _ => by rw [T8])
    rw [sF_id] at this
    exact this
  unfold tp_X4_fillHour
  cases hx : tP Y p (c * 5 + l) with
  | none =>
    obtain ⟨hm1, hm2⟩ := hm hx
    refine ⟨2, 1031, by omega, by omega, c_planeOf hc hh hcc hl (fun q hq => ?_) (fun _ => ⟨Nat.le_refl _, Nat.le_refl _, fun q hq => ⟨fun z => (by cases z), fun y hy => ?_⟩⟩)⟩
    · rw [ecap, hx] at hq
      cases hq
    · cases hy
      rw [ecap]
      obtain ⟨o1, o2⟩ := PlOK.new hc h48 hok hx hq
      have sq : st.1 p 2 ≠ q := fun e => hq (by rw [← e, hc.2.2.2.1]; decide)
      exact core _ q _ _ (by omega) (by omega) (PF.sN hx hq) (hc.new hx hq) o1 o2 (fun t => tA_sN sq t) (fun i hi => by rw [tP_sN, if_neg (fun z => hi z.2)]) (by rw [tP_sN, if_pos ⟨rfl, rfl⟩])
  | some b =>
    refine ⟨0, 0, z0 _, z0 _, c_planeOf hc hh hcc hl (fun q hq => ⟨fun z => (by cases z), fun y hy => ?_⟩) (fun q => ?_)⟩
    · cases hy
      rw [ecap] at hq
      exact core Y q _ _ (z0 _) (z0 _) (PF.refl _ _ _) hc hok (fun _ _ _ q => q) (fun _ => rfl) (fun _ _ => rfl) hq
    · rw [ecap, hx] at q
      cases q
end FH
