theorem mx_ge {f : Nat → Bool} {v : Nat → Nat} : ∀ {n d : Nat}, d < n → f d = true → v d ≤ mx f v n
  | 0, d, h, _ => by omega
  | n + 1, d, h, hf => by
    unfold mx
    by_cases c : d = n
    · subst c
      by_cases c2 : mx f v d < v d
      · rw [if_pos ⟨hf, c2⟩]
        exact Nat.le_refl _
      · rw [if_neg (fun q => c2 q.2)]
        omega
    · have ih := mx_ge (f := f) (v := v) (n := n) (d := d) (by omega) hf
      split <;> omega
theorem mx_at {f : Nat → Bool} {v : Nat → Nat} : ∀ {n : Nat}, mx f v n = 0 ∨ ∃ d, d < n ∧ f d = true ∧ v d = mx f v n
  | 0 => Or.inl rfl
  | n + 1 => by
    unfold mx
    by_cases c : f n = true ∧ mx f v n < v n
    · rw [if_pos c]
      exact Or.inr ⟨n, by omega, c.1, rfl⟩
    · rw [if_neg c]
      rcases mx_at (f := f) (v := v) (n := n) with h | ⟨d, h1, h2, h3⟩
      · exact Or.inl h
      · exact Or.inr ⟨d, by omega, h2, h3⟩
theorem fsF_lt {p : Nat → Bool} : ∀ {j k d : Nat}, k ≤ d → d < k + j → p d = true → fsF p j k < k + j ∧ p (fsF p j k) = true
  | 0, k, d, h1, h2, _ => by omega
  | j + 1, k, d, h1, h2, hp => by
    unfold fsF
    by_cases c : p k = true
    · rw [if_pos c]
      exact ⟨by omega, c⟩
    · rw [if_neg c]
      have : k ≠ d := fun e => c (by rw [e]; exact hp)
      obtain ⟨i1, i2⟩ := fsF_lt (p := p) (j := j) (k := k + 1) (d := d) (by omega) (by omega) hp
      exact ⟨by omega, i2⟩
theorem dsD_lt (W : WD) (N : ND) {h : Nat} (hh : h < hrs W) (l o b : Nat) : dsD W N h l o b < 10 ∧ fe W h b l (dsD W N h l o b) = true := by
  have f0 : fe W h b l 0 = true := by simp [fe, letB, hh, bat]
  have key : ∃ d, d < 10 ∧ pD W N h l o b d = true := by
    have e := V_eq W N hh l o b
    rcases mx_at (f := fe W h b l) (v := vV W N h l o b) (n := 10) with q | ⟨d, q1, q2, q3⟩
    · refine ⟨0, by omega, ?_⟩
      have := mx_ge (f := fe W h b l) (v := vV W N h l o b) (n := 10) (d := 0) (by omega) f0
      simp only [pD, f0, Bool.true_and, decide_eq_true_eq]
      omega
    · refine ⟨d, q1, ?_⟩
      simp only [pD, q2, Bool.true_and, decide_eq_true_eq]
      omega
  obtain ⟨d, h1, h2⟩ := key
  obtain ⟨g1, g2⟩ := fsF_lt (p := pD W N h l o b) (j := 10) (k := 0) (d := d) (by omega) (by omega) h2
  refine ⟨by unfold dsD; omega, ?_⟩
  unfold dsD
  simp only [pD, Bool.and_eq_true] at g2
  exact g2.1
theorem dsD_end (W : WD) (N : ND) {h : Nat} (hh : hrs W ≤ h) (l o b : Nat) : dsD W N h l o b = 10 := by
  have hf : ∀ d, pD W N h l o b d = false := fun d => by
    have : letB W h (d / 2) = false := by
      have : ¬ h < hrs W := by omega
      simp [letB, this]
    simp [pD, fe, this]
  have key : ∀ j k, fsF (pD W N h l o b) j k = k + j := by
    intro j
    induction j with
    | zero => intro k; rfl
    | succ j ih =>
      intro k
      unfold fsF
      rw [hf k]
      simp only [Bool.false_eq_true, if_false]
      rw [ih]
      omega
  exact key 10 0
def dcD (d : Nat) : Int32 := if d < 10 then nI d else -6
section P2
variable {st : TS} {Y : TY} {p mc ms : Nat} {W : WD} {N : ND}
theorem c_bestFrom {post : Int32 → TY → Prop} (hc : PC st Y p W N) (hok : PlOK Y p W N) (hN : wfN N) {h o b l : Nat} (hh : h ≤ hrs W) (ho : o ≤ 20) (hb : b ≤ 24) (hl : l ≤ 4) (hmc : 2 * zzP Y p W h b l ≤ mc) (hms : 1031 * zzP Y p W h b l ≤ ms)
    (hp : ∀ Y', PF st p Y Y' → PC st Y' p W N → PlOK Y' p W N → (∀ i, i < 125 → nmB Y' p i = tgB Y p W h b l i) → post (nI (V W N h l o b)) Y') : tp_X4_bestFrom st post mc ms Y p (nI h) (nI o) (nI b) (nI l) := by
  have h48 := hc.2.2.2.2.1.1.2.1
  unfold tp_X4_bestFrom
  refine ⟨mc, ms, by omega, by omega, c_fill hc hok hN hh hb hl hmc hms (fun Y' F C O L nm => ⟨0, 0, by omega, by omega, ?_⟩)⟩
  have hcl : cap W h b l ≤ 24 := by unfold cap; omega
  have hcl2 : cap W h b l ≤ hrs W - h + l := by unfold cap; omega
  obtain ⟨q, f, q1, q2, q3, q4⟩ := L
  obtain ⟨f', f1, f2, f3⟩ := O _ _ q hcl hl q1
  have ef : f = f' := by
    rw [q2] at f2
    exact (nI_eq (by omega) (by omega)).mp f2
  refine c_planeOf C hh hb hl (fun r hr => ⟨fun z => (by cases z), fun y hy => ?_⟩) (fun z => ?_)
  · cases hy
    rw [q1] at hr
    cases hr
    refine ⟨by omega, by omega, ?_⟩
    rw [show (21 : Int32) = nI 21 from rfl, pk_mul, nI_add]
    refine c_planeAt (by omega) ⟨by omega, by omega, ?_⟩
    rw [(f3 h (by omega) hh hcl2).1 o ho, V_cap2]
    exact hp Y' F C O nm
  · rw [q1] at z
    cases z
theorem Fl.up {Y : TY} {p c l h h' : Nat} (hf : Fl Y p c l h) (hh : h ≤ h') : Fl Y p c l h' := by
  obtain ⟨b, f, q1, q2, q3, q4⟩ := hf
  exact ⟨b, f, q1, q2, by omega, q4⟩
/-- what is filled is the best there, and all that it can lead to is filled too -/
theorem Fl.vals {Y : TY} {p c l h : Nat} {W : WD} {N : ND} (hf : Fl Y p c l h) (hO : PlOK Y p W N) (hc : c ≤ 24) (hl : l ≤ 4) (hh : h ≤ hrs W) (hcap : c ≤ hrs W - h + l) : ∃ b, tP Y p (c * 5 + l) = some b ∧ (∀ o, o ≤ 20 → tA Y b 1 (h * 21 + o) = nI (V W N h l o c)) ∧ (∀ l' c', l' ≤ l → c' ≤ c → c' ≤ hrs W - h + l' → Fl Y p c' l' h) := by
  obtain ⟨b, f, q1, q2, q3, q4⟩ := hf
  obtain ⟨f', f1, f2, f3⟩ := hO c l b hc hl q1
  have ef : f = f' := by
    rw [q2] at f2
    exact (nI_eq (by omega) (by omega)).mp f2
  obtain ⟨g1, g2⟩ := f3 h (by omega) hh hcap
  exact ⟨b, q1, g1, g2⟩
theorem c_deedThere {post : Int32 → TY → Prop} (hc : PC st Y p W N) (hok : PlOK Y p W N) {h o b l : Nat} (hh : h ≤ hrs W) (ho : o ≤ 20) (hb : b ≤ 24) (hl : l ≤ 4) (hf : Fl Y p (cap W h b l) l h) (hp : ∀ Y', SX Y (st.1 p 2) Y' → post (dcD (dsD W N h l o b)) Y') : tp_X4_deedThere st post mc ms Y p (nI h) (nI o) (nI b) (nI l) := by
  have hw := hc.2.2.2.2.1
  have h48 := hw.1.2.1
  have z0 : ∀ n : Nat, 0 ≤ n := Nat.zero_le
  have hcl : cap W h b l ≤ 24 := by unfold cap; omega
  have hcl2 : cap W h b l ≤ hrs W - h + l := by unfold cap; omega
  obtain ⟨q, q1, q2, q3⟩ := hf.vals hok hcl hl hh hcl2
  unfold tp_X4_deedThere
  refine ⟨0, 0, z0 _, z0 _, c_planeOf hc hh hb hl (fun r hr => ⟨fun z => (by cases z), fun y hy => ⟨z0 _, z0 _, ?_⟩⟩) (fun z => by rw [q1] at z; cases z)⟩
  cases hy
  rw [q1] at hr
  cases hr
  have n1 : st.1 p 0 ≠ st.1 p 2 := fun e => by have := hc.2.1; rw [e, hc.2.2.2.1] at this; cases this
  have n2 : st.1 p 1 ≠ st.1 p 2 := fun e => by have := hc.2.2.1; rw [e, hc.2.2.2.1] at this; cases this
  refine c_readyFor hw hc.2.2.2.2.2.1 n1 n2 (by omega) ho (fun Y' hx rows _ => ⟨11, ?_⟩)
  obtain ⟨O', M'⟩ := PlOK.sx hc hok hx
  have eP : tP Y' p = tP Y p := hx.at.2.2.2.1 p
  have C' := hc.same (PF.sx hx) eP
  have ns : ∀ {i x}, tP Y p i = some x → x ≠ st.1 p 2 := fun {i x} hi e => by
    have := hc.2.2.2.2.2.2.1 i x hi
    rw [e, hc.2.2.2.1] at this
    cases this
  have hV := V_le W N h l o b
  have key : ∀ j d kc ks, d + j = 10 → kc ≤ mc → ks ≤ ms → post (dcD (fsF (pD W N h l o b) j d)) Y' → tk_X4_deedThere_38 st post mc ms p (nI h) (nI o) (nI b) (nI l) (j + 1) Y' kc ks q (nI d) := by
    intro j
    induction j with
    | zero =>
      intro d kc ks hd hk hs hpo
      have : d = 10 := by omega
      subst this
      rw [tk_X4_deedThere_38]
      exact ⟨fun _ => ⟨hk, hs, hpo⟩, fun c => absurd (Int32.le_refl _) c⟩
    | succ j ih =>
      intro d kc ks hd hk hs hpo
      rw [tk_X4_deedThere_38, show (10 : Int32) = nI 10 from rfl, nI_leI (by omega) (by omega)]
      refine ⟨fun c => by omega, fun _ => ⟨0, 0, hk, hs, ?_⟩⟩
      have nxt : pD W N h l o b d = false → tk_X4_deedThere_91 st post mc ms p (nI h) (nI o) (nI b) (nI l) (tk_X4_deedThere_38 st post mc ms p (nI h) (nI o) (nI b) (nI l) (j + 1)) Y' (kc + 0) (ks + 0) q (nI d) := by
        intro hn
        unfold tk_X4_deedThere_91
        intro x ex
        rw [ex, show nI d + (1 : Int32) = nI (d + 1) from nI_1 d]
        refine ih (d + 1) _ _ (by omega) hk hs ?_
        unfold fsF at hpo
        rw [hn] at hpo
        simpa using hpo
      refine c_planeBehind C' hh hb hl (by omega) (fun hfe => ?_) (fun hfe => ⟨fun _ => nxt (by simp [pD, hfe]), fun y hy => by cases hy⟩)
      obtain ⟨g1, g2, g3, g4⟩ := fe_let hfe
      obtain ⟨u1, u2⟩ := let_h g1
      have hle : h + hof (d / 2) ≤ hrs W := by
        unfold hof
        split
        · omega
        · split
          · rename_i c3
            have := u2 c3
            omega
          · omega
      have hly : lyF l d ≤ l := by unfold lyF; split <;> omega
      have hcp : cap W (h + hof (d / 2)) (b - bat d) (lyF l d) ≤ cap W h b l := by unfold cap; omega
      have hcp2 : cap W (h + hof (d / 2)) (b - bat d) (lyF l d) ≤ hrs W - (h + hof (d / 2)) + lyF l d := by unfold cap; omega
      have fl2 := (q3 (lyF l d) _ hly hcp (by omega)).up (h' := h + hof (d / 2)) (by omega)
      obtain ⟨r, r1, r2, r3⟩ := fl2.vals hok (by omega) (by omega) hle hcp2
      refine ⟨r, by rw [eP]; exact r1, ⟨fun z => (by cases z), fun y hy => ⟨hk, hs, ?_⟩⟩⟩
      cases hy
      have ow := owB_le (W := W) (N := N) (h := h) (t := d / 2) ho
      have hval : tA Y' r 1 ((h + hof (d / 2)) * 21 + owB W N h o (d / 2)) = nI (V W N (h + hof (d / 2)) (lyF l d) (owB W N h o (d / 2)) (b - bat d)) := by
        rw [hx.at.1 r (ns r1), r2 _ ow, V_cap2]
      refine c_safeBy hw.1 (by omega) ho (by omega) (rows d (by omega)) hval (V_le _ _ _ _ _ _) ⟨hk, hs, ?_⟩
      have es : nI (les (if d / 2 = 3 then les (V W N (h + hof (d / 2)) (lyF l d) (owB W N h o (d / 2)) (b - bat d)) (shG W (h + 1) * blB N (d / 2) (d % 2) o) else V W N (h + hof (d / 2)) (lyF l d) (owB W N h o (d / 2)) (b - bat d)) (shG W h * blB N (d / 2) (d % 2) o)) = nI (vV W N h l o b d) := by
        congr 1
        unfold vV rsk
        rw [show shG W h = shp W h by simp [shG, u1]]
        by_cases c3 : d / 2 = 3
        · rw [if_pos c3, if_pos c3, show shG W (h + 1) = shp W (h + 1) by simp [shG, u2 c3]]
          have : ¬ d / 2 = 4 := by omega
          rw [show hof (d / 2) = 2 by simp [hof, c3], show lyF l d = l by simp [lyF, this]]
        · rw [if_neg c3, if_neg c3]
          rfl
      rw [es, show (21 : Int32) = nI 21 from rfl, pk_mul, nI_add]
      have hv : vV W N h l o b d ≤ 1000000 := les_le (by split <;> first | exact les_le (V_le _ _ _ _ _ _) | exact V_le _ _ _ _ _ _)
      refine c_planeAt (by omega) ?_
      rw [hx.at.1 q (ns q1), q2 o ho, V_cap2, eqn (by omega) (by omega)]
      refine ⟨fun c => nxt (by simp [pD, c]), fun c => ⟨hk, hs, ?_⟩⟩
      have ht : pD W N h l o b d = true := by simp [pD, c, hfe]
      unfold fsF at hpo
      rw [if_pos ht] at hpo
      unfold dcD at hpo
      rw [if_pos (by omega)] at hpo
      exact hpo
  exact key 10 0 _ _ rfl (z0 _) (z0 _) (hp Y' hx)
theorem c_firstDeed {post : Int32 → TY → Prop} (hc : PC st Y p W N) (hok : PlOK Y p W N) (hN : wfN N) {h o b l : Nat} (hh : h ≤ hrs W) (ho : o ≤ 20) (hb : b ≤ 24) (hl : l ≤ 4) (hmc : 2 * zzP Y p W h b l ≤ mc) (hms : 1031 * zzP Y p W h b l ≤ ms)
    (hp : ∀ Y', PF st p Y Y' → PC st Y' p W N → PlOK Y' p W N → (∀ i, i < 125 → nmB Y' p i = tgB Y p W h b l i) → post (dcD (dsD W N h l o b)) Y') : tp_X4_firstDeed st post mc ms Y p (nI h) (nI o) (nI b) (nI l) := by
  unfold tp_X4_firstDeed
  refine ⟨mc, ms, by omega, by omega, c_fill hc hok hN hh hb hl hmc hms (fun Y' F C O L nm => ⟨0, 0, by omega, by omega, ?_⟩)⟩
  refine c_deedThere C O hh ho hb hl L (fun Y'' hx => ⟨by omega, by omega, ?_⟩)
  have eP : tP Y'' p = tP Y' p := hx.at.2.2.2.1 p
  exact hp Y'' (F.trans (PF.sx hx)) (C.same (PF.sx hx) eP) (PlOK.sx C O hx).1 (fun i hi => by rw [← nm i hi]; unfold nmB; rw [eP])
/-- LOGGED, by steps -/
def lgF (W : WD) (N : ND) (i : Int32) : Nat → Nat → Nat → Nat → Nat → Nat → Int32
  | 0, _, _, _, _, _ => -6
  | j + 1, k, h, o, b, l => if hrs W ≤ h then (if i = -1 then nI k else -6) else if nI k = i then cdD (dsD W N h l o b) else lgF W N i j (k + 1) (h + hof (dsD W N h l o b / 2)) (owB W N h o (dsD W N h l o b / 2)) (b - bat (dsD W N h l o b)) (lyF l (dsD W N h l o b))
theorem lg_step {W : WD} {N : ND} {h l o b : Nat} (hh : h < hrs W) : h + hof (dsD W N h l o b / 2) ≤ hrs W ∧ hrs W - (h + hof (dsD W N h l o b / 2)) + lyF l (dsD W N h l o b) < hrs W - h + l ∧ bat (dsD W N h l o b) ≤ b ∧ lyF l (dsD W N h l o b) ≤ l := by
  obtain ⟨d1, d2⟩ := dsD_lt W N hh l o b
  generalize dsD W N h l o b = d at d1 d2 ⊢
  obtain ⟨g1, g2, g3, g4⟩ := fe_let d2
  obtain ⟨u1, u2⟩ := let_h g1
  by_cases c4 : d / 2 = 4
  · have := g4 c4
    simp only [hof, lyF, if_pos c4]
    omega
  · simp only [hof, lyF, if_neg c4]
    by_cases c3 : d / 2 = 3
    · have := u2 c3
      rw [if_pos c3]
      omega
    · rw [if_neg c3]
      omega
theorem c_codeOf {post : Int32 → Prop} {d : Nat} (hd : d < 10) (hp : post (cdD d)) : tp_X9_codeOf st post Y (nI d) := by
  unfold tp_X9_codeOf
  rw [show (2 : Int32) = nI 2 from rfl, show (10 : Int32) = nI 10 from rfl, pk_rem (by omega) (by omega) (by omega), pk_div (by omega) (by omega) (by omega), pk_mul, nI_add, show (0 : Int32) = nI 0 from rfl, nI_leI (by omega) (by omega)]
  unfold cdD at hp
  rw [if_pos hd] at hp
  exact ⟨fun _ => hp, fun c => by omega⟩
theorem c_follow {post : Int32 → TY → Prop} (hc : PC st Y p W N) (hok : PlOK Y p W N) (hN : wfN N) {o0 b : Nat} {i : Int32} (ho : o0 ≤ 20) (hb : b ≤ 24) (hmc : 2 * zzP Y p W 0 b 4 ≤ mc) (hms : 1031 * zzP Y p W 0 b 4 ≤ ms)
    (hp : ∀ Y', PF st p Y Y' → PC st Y' p W N → PlOK Y' p W N → (∀ i, i < 125 → nmB Y' p i = tgB Y p W 0 b 4 i) → post (lgF W N i 53 0 0 o0 b 4) Y') : tp_X4_follow st post mc ms Y p (nI o0) (nI b) i := by
  have h48 := hc.2.2.2.2.1.1.2.1
  unfold tp_X4_follow
  refine ⟨mc, ms, by omega, by omega, c_fill (h := 0) (l := 4) hc hok hN (Nat.zero_le _) hb (Nat.le_refl 4) hmc hms (fun Y' F C O L nm => ⟨53, ?_⟩)⟩
  have key : ∀ j k h o b2 l Yc, k + j ≤ 53 → hrs W - h + l < j → h ≤ hrs W → o ≤ 20 → b2 ≤ b → l ≤ 4 → SX Y' (st.1 p 2) Yc → (∀ Yd, SX Y' (st.1 p 2) Yd → post (lgF W N i j k h o b2 l) Yd) → tk_X4_follow_25 st post mc ms p (nI o0) (nI b) i j Yc mc ms (nI h) (nI o) (nI b2) (nI l) (nI k) := by
    intro j
    induction j with
    | zero => intro k h o b2 l Yc _ q; omega
    | succ j ih =>
      intro k h o b2 l Yc hk hm hh ho hb2 hl hx hpo
      rw [tk_X4_follow_25]
      rw [show (52 : Int32) = nI 52 from rfl, nI_ltI (by omega) (by omega)]
      refine ⟨fun q => by omega, fun _ => ⟨0, 0, Nat.le_refl _, Nat.le_refl _, ?_⟩⟩
      have eP : tP Yc p = tP Y' p := hx.at.2.2.2.1 p
      have Cc := C.same (PF.sx hx) eP
      obtain ⟨Oc, Mc⟩ := PlOK.sx C O hx
      have Lc : Fl Yc p (cap W h b2 l) l h := by
        obtain ⟨q, q1, q2, q3⟩ := (Mc _ _ _ L).vals Oc (by unfold cap; omega) (Nat.le_refl 4) (Nat.zero_le _) (by unfold cap; omega)
        exact (q3 l (cap W h b2 l) hl (by unfold cap; omega) (by unfold cap; omega)).up (Nat.zero_le _)
      refine c_deedThere Cc Oc hh ho (by omega) hl Lc (fun Yd hxd => ?_)
      have hxx := hx.trans hxd
      have hpo' := hpo Yd hxx
      unfold lgF at hpo'
      by_cases ce : hrs W ≤ h
      · rw [if_pos ce] at hpo'
        rw [dsD_end W N ce]
        refine ⟨fun q => absurd rfl q, fun _ => ⟨fun q => ⟨Nat.le_refl _, Nat.le_refl _, ?_⟩, fun q => ⟨Nat.le_refl _, Nat.le_refl _, ?_⟩⟩⟩
        · rw [if_neg q] at hpo'
          exact hpo'
        · rw [if_pos q] at hpo'
          exact hpo'
      · rw [if_neg ce] at hpo'
        obtain ⟨s1, s2, s3, s4⟩ := lg_step (N := N) (l := l) (o := o) (b := b2) (show h < hrs W by omega)
        obtain ⟨d1, d2⟩ := dsD_lt W N (show h < hrs W by omega) l o b2
        have hpo2 : ¬ nI k = i → ∀ Ye, SX Y' (st.1 p 2) Ye → post (lgF W N i j (k + 1) (h + hof (dsD W N h l o b2 / 2)) (owB W N h o (dsD W N h l o b2 / 2)) (b2 - bat (dsD W N h l o b2)) (lyF l (dsD W N h l o b2))) Ye := by
          intro q Ye hxe
          have := hpo Ye hxe
          unfold lgF at this
          rw [if_neg ce, if_neg q] at this
          exact this
        generalize dsD W N h l o b2 = d at d1 d2 s1 s2 s3 s4 hpo' hpo2 ⊢
        have ed : dcD d = nI d := by unfold dcD; rw [if_pos d1]
        rw [ed]
        have hne : ¬ nI d = (-6 : Int32) := by
          intro q
          simp (disch := omega) only [i_nI, i_lit, i_neg, i_eq] at q
          omega
        refine ⟨fun _ => ⟨fun q => ⟨Nat.le_refl _, Nat.le_refl _, ?_⟩, fun q => ⟨Nat.le_refl _, Nat.le_refl _, ?_⟩⟩, fun q => absurd q hne⟩
        · have Cd := Cc.same (PF.sx hxd) (hxd.at.2.2.2.1 p)
          rw [show (2 : Int32) = nI 2 from rfl, pk_div (by omega) (by omega) (by omega)]
          refine c_owedBehind Cd.2.2.2.2.1 Cd.2.2.2.2.2.1 (by omega) ho (by omega) ⟨Nat.le_refl _, Nat.le_refl _, c_batteryOf (by omega) ?_⟩
          intro x ex
          rw [pk_sub s3] at ex
          rw [ex, show (4 : Int32) = nI 4 from rfl, eqn (by omega) (by omega)]
          have stp : ∀ e : Nat, e ≤ l → l - e = lyF l d → tk_X4_follow_124 st post mc ms p (nI o0) (nI b) i (tk_X4_follow_25 st post mc ms p (nI o0) (nI b) i j) Yd (mc + 0) (ms + 0) (nI h) (nI (owB W N h o (d / 2))) (nI (b2 - bat d)) (nI k) (nI d) (nI e) (nI l) := by
            intro e he el
            unfold tk_X4_follow_124
            intro x ex
            rw [pk_sub he, el] at ex
            rw [ex, show (2 : Int32) = nI 2 from rfl, pk_div (by omega) (by omega) (by omega)]
            refine ⟨Nat.le_refl _, Nat.le_refl _, c_hoursOf (by omega) ?_⟩
            intro x2 ex2 x3 ex3
            rw [nI_add] at ex2
            rw [ex2, ex3, show nI k + (1 : Int32) = nI (k + 1) from nI_1 k]
            exact ih (k + 1) _ _ _ _ Yd (by omega) (by omega) s1 (owB_le ho) (by omega) (by omega) hxx (hpo2 q)
          refine ⟨fun c4 => stp 0 (Nat.zero_le _) (by simp [lyF, c4]), fun c4 => stp 1 ?_ (by simp [lyF, c4])⟩
          exact (fe_let d2).2.2.2 c4
        · rw [if_pos q] at hpo'
          exact c_codeOf d1 ⟨Nat.le_refl _, Nat.le_refl _, hpo'⟩
  have := key 53 0 0 o0 b 4 Y' (by omega) (by omega) (Nat.zero_le _) ho (Nat.le_refl _) (by omega) (SX.refl _ _) (fun Yd hx => hp Yd (F.trans (PF.sx hx)) (C.same (PF.sx hx) (hx.at.2.2.2.1 p)) (PlOK.sx C O hx).1 (fun i hi => by rw [← nm i hi]; unfold nmB; rw [hx.at.2.2.2.1 p]))
  rw [Nat.zero_add, Nat.zero_add]
  exact this
theorem c_forget {post : TY → Prop} (hp : ∀ Y', PF st p Y Y' → tP Y' p = tP Y p → (∀ i b, i < 125 → tP Y p i = some b → tI Y' b 0 = nI 49) → (∀ a t, tA Y' a t = tA Y a t) → (∀ a, tK Y' a = tK Y a) → post Y') : tp_X4_forget st post Y p := by
  have key : ∀ j k Y', k + j = 125 → PF st p Y Y' → tP Y' p = tP Y p → (∀ i b, i < k → tP Y p i = some b → tI Y' b 0 = nI 49) → (∀ a t, tA Y' a t = tA Y a t) → (∀ a, tK Y' a = tK Y a) → tk_X4_forget_2 st post p (j + 1) Y' (nI k) := by
    intro j
    induction j with
    | zero =>
      intro k Y' hk F P I A K
      have : k = 125 := by omega
      subst this
      rw [tk_X4_forget_2]
      exact ⟨fun _ => hp Y' F P I A K, fun c => absurd (Int32.le_refl _) c⟩
    | succ j ih =>
      intro k Y' hk F P I A K
      rw [tk_X4_forget_2, nI_leI (by omega) (by omega), nI_clamp (by omega), P]
      have hin : vp_in (nI k) 125 := vp_in_nI (by omega) (by omega)
      refine ⟨fun c => by omega, fun _ => ⟨hin, fun hn => ?_, fun y hy => ⟨hin, fun hn => (by rw [hy] at hn; cases hn), fun y5 hy5 Y7 e7 => ?_⟩⟩⟩
      · unfold tk_X4_forget_31
        intro x ex
        rw [ex, show nI k + (1 : Int32) = nI (k + 1) from nI_1 k]
        refine ih (k + 1) Y' (by omega) F P (fun i b hi hb => ?_) A K
        by_cases e : i = k
        · rw [e, hn] at hb
          cases hb
        · exact I i b (by omega) hb
      · unfold tk_X4_forget_31
        intro x ex
        rw [ex, show nI k + (1 : Int32) = nI (k + 1) from nI_1 k]
        refine ih (k + 1) Y7 (by omega) (F.trans (by rw [e7]; exact PF.sI (by rw [P]; exact hy5))) (by rw [e7]; exact P) (fun i b hi hb => ?_) (fun a t => by rw [e7]; exact A a t) (fun a => by rw [e7]; exact K a)
        rw [e7, tI_sI]
        by_cases e2 : b = y5
        · rw [if_pos ⟨e2, rfl⟩]
          rfl
        · rw [if_neg (fun q => e2 q.1)]
          by_cases e : i = k
          · rw [e, hy5] at hb
            cases hb
            exact absurd rfl e2
          · exact I i b (by omega) hb
  exact ⟨126, key 125 0 Y rfl (PF.refl _ _ _) rfl (fun i b hi => by omega) (fun _ _ => rfl) (fun _ => rfl)⟩
end P2
