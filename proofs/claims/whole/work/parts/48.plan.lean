-- A PLAN: its state, what its methods may change
def PC (st : TS) (Y : TY) (p : Nat) (W : WD) (N : ND) : Prop := tK Y p = 4 ∧ tK Y (st.1 p 0) = 8 ∧ tK Y (st.1 p 1) = 2 ∧ tK Y (st.1 p 2) = 6 ∧ WayP Y (st.1 p 0) W ∧ NapP Y (st.1 p 1) N ∧ (∀ i b, tP Y p i = some b → tK Y b = 5) ∧ (∀ i j b, tP Y p i = some b → tP Y p j = some b → i = j)
/-- the plane of so much battery and so many lies is filled at an hour -/
def Fl (Y : TY) (p c l h : Nat) : Prop := ∃ b f, tP Y p (c * 5 + l) = some b ∧ tI Y b 0 = nI f ∧ f ≤ h ∧ f ≤ 49
def PlOK (Y : TY) (p : Nat) (W : WD) (N : ND) : Prop := ∀ c l b, c ≤ 24 → l ≤ 4 → tP Y p (c * 5 + l) = some b → ∃ f, f ≤ 49 ∧ tI Y b 0 = nI f ∧ ∀ h, f ≤ h → h ≤ hrs W → c ≤ hrs W - h + l → (∀ o, o ≤ 20 → tA Y b 1 (h * 21 + o) = nI (V W N h l o c)) ∧ (∀ l' c', l' ≤ l → c' ≤ c → c' ≤ hrs W - h + l' → Fl Y p c' l' h)
def PF (st : TS) (p : Nat) (Y Y' : TY) : Prop := (∀ a, tK Y a < 11 → a ≠ st.1 p 2 → (∀ i, tP Y p i ≠ some a) → (∀ t, tI Y' a t = tI Y a t) ∧ (∀ t, tA Y' a t = tA Y a t)) ∧ (∀ a, tW Y' a = tW Y a) ∧ (∀ a, a ≠ p → tP Y' a = tP Y a) ∧ (∀ i b, tP Y p i = some b → tP Y' p i = some b) ∧ (∀ a, tK Y a < 11 → tK Y' a = tK Y a) ∧ (∀ i b, tP Y' p i = some b → tP Y p i = some b ∨ ¬ tK Y b < 11)
theorem PF.refl (st : TS) (p : Nat) (Y : TY) : PF st p Y Y := ⟨fun _ _ _ _ => ⟨fun _ => rfl, fun _ => rfl⟩, fun _ => rfl, fun _ _ => rfl, fun _ _ h => h, fun _ _ => rfl, fun _ _ h => Or.inl h⟩
theorem PF.trans {st : TS} {p : Nat} {Y Y' Y'' : TY} (h1 : PF st p Y Y') (h2 : PF st p Y' Y'') : PF st p Y Y'' := by
  obtain ⟨a1, b1, c1, d1, e1, f1⟩ := h1
  obtain ⟨a2, b2, c2, d2, e2, f2⟩ := h2
  refine ⟨fun a ha hs hn => ?_, fun a => (b2 a).trans (b1 a), fun a ha => (c2 a ha).trans (c1 a ha), fun i b h => d2 i b (d1 i b h), fun a ha => (e2 a (by rw [e1 a ha]; exact ha)).trans (e1 a ha), fun i b h => ?_⟩
  · obtain ⟨i1, i2⟩ := a1 a ha hs hn
    obtain ⟨j1, j2⟩ := a2 a (by rw [e1 a ha]; exact ha) hs (fun i q => by
      rcases f1 i a q with q | q
      · exact hn i q
      · exact q ha)
    exact ⟨fun t => (j1 t).trans (i1 t), fun t => (j2 t).trans (i2 t)⟩
  · rcases f2 i b h with q | q
    · exact f1 i b q
    · by_cases hk : tK Y b < 11
      · exact absurd (by rw [e1 b hk]; exact hk) q
      · exact Or.inr hk
theorem PF.sI {st : TS} {p : Nat} {Y : TY} {b i s : Nat} {v : Int32} (hb : tP Y p i = some b) : PF st p Y (sI Y b s v) := by
  refine ⟨fun a _ _ hn => ⟨fun t => ?_, fun _ => rfl⟩, fun _ => rfl, fun _ _ => rfl, fun _ _ h => h, fun _ _ => rfl, fun _ _ h => Or.inl h⟩
  rw [tI_sI, if_neg (fun q => hn i (by rw [q.1]; exact hb))]
theorem PF.sF {st : TS} {p : Nat} {Y : TY} {b i s : Nat} {g : Nat → Int32} (hb : tP Y p i = some b) : PF st p Y (sF Y b s g) := by
  refine ⟨fun a _ _ hn => ⟨fun _ => rfl, fun t => ?_⟩, fun _ => rfl, fun _ _ => rfl, fun _ _ h => h, fun _ _ => rfl, fun _ _ h => Or.inl h⟩
  exact tA_obj _ _ (fun q => hn i (by rw [q]; exact hb))
theorem PF.sx {st : TS} {p : Nat} {Y Y' : TY} (h : SX Y (st.1 p 2) Y') : PF st p Y Y' := by
  obtain ⟨a1, a2, a3, a4, a5⟩ := h.at
  exact ⟨fun a _ hs _ => ⟨fun t => a2 a t, fun t => a1 a hs t⟩, a5, fun a _ => a4 a, fun i b h => by rw [a4]; exact h, fun a _ => a3 a, fun i b h => Or.inl (by rw [a4] at h; exact h)⟩
theorem PF.sN {st : TS} {p i q : Nat} {Y : TY} (hn : tP Y p i = none) (hq : ¬ tK Y q < 11) : PF st p Y (sN Y p i q) := by
  have ne : ∀ a, tK Y a < 11 → a ≠ q := fun a ha e => hq (by rw [← e]; exact ha)
  refine ⟨fun a ha _ _ => ⟨fun t => tI_sN (ne a ha) t, fun t => tA_sN (ne a ha) t⟩, fun _ => rfl, fun a ha => ?_, fun j b h => ?_, fun a ha => by rw [tK_sN, if_neg (ne a ha)], fun j b h => ?_⟩
  · funext j
    rw [tP_sN, if_neg (fun z => ha z.1)]
  · rw [tP_sN]
    by_cases c : p = p ∧ j = i
    · rw [c.2, hn] at h
      cases h
    · rw [if_neg c]
      exact h
  · rw [tP_sN] at h
    by_cases c : p = p ∧ j = i
    · rw [if_pos c] at h
      cases h
      exact Or.inr hq
    · rw [if_neg c] at h
      exact Or.inl h
theorem PC.mv {st : TS} {p : Nat} {Y Y' : TY} {W : WD} {N : ND} (h : PC st Y p W N) (hf : PF st p Y Y') (h1 : ∀ i b, tP Y' p i = some b → tK Y' b = 5) (h2 : ∀ i j b, tP Y' p i = some b → tP Y' p j = some b → i = j) : PC st Y' p W N := by
  obtain ⟨k0, k1, k2, k3, w, n, pk, pi⟩ := h
  have nop : ∀ {a k}, tK Y a = k → k ≠ 5 → ∀ i, tP Y p i ≠ some a := fun {a k} e hk i q => hk (e.symm.trans (pk i a q))
  have up : ∀ {a k}, tK Y a = k → k < 11 → tK Y' a = k := fun {a k} e hk => (hf.2.2.2.2.1 a (by rw [e]; exact hk)).trans e
  have n1 : st.1 p 0 ≠ st.1 p 2 := fun e => by rw [e, k3] at k1; cases k1
  have n2 : st.1 p 1 ≠ st.1 p 2 := fun e => by rw [e, k3] at k2; cases k2
  obtain ⟨i1, i2⟩ := hf.1 (st.1 p 0) (by rw [k1]; decide) n1 (nop k1 (by decide))
  obtain ⟨j1, j2⟩ := hf.1 (st.1 p 1) (by rw [k2]; decide) n2 (nop k2 (by decide))
  exact ⟨up k0 (by decide), up k1 (by decide), up k2 (by decide), up k3 (by decide), w.mv i1 i2, n.mv j2, h1, h2⟩
theorem PC.same {st : TS} {p : Nat} {Y Y' : TY} {W : WD} {N : ND} (h : PC st Y p W N) (hf : PF st p Y Y') (hP : tP Y' p = tP Y p) : PC st Y' p W N := by
  refine h.mv hf (fun i b hb => ?_) (fun i j b => by rw [hP]; exact h.2.2.2.2.2.2.2 i j b)
  rw [hP] at hb
  have := h.2.2.2.2.2.2.1 i b hb
  rw [hf.2.2.2.2.1 b (by rw [this]; decide), this]
theorem PC.new {st : TS} {p i q : Nat} {Y : TY} {W : WD} {N : ND} (h : PC st Y p W N) (hn : tP Y p i = none) (hq : ¬ tK Y q < 11) : PC st (sN Y p i q) p W N := by
  have pk := h.2.2.2.2.2.2.1
  refine h.mv (PF.sN hn hq) (fun j b hb => ?_) (fun j k b h1 h2 => ?_)
  · rw [tP_sN] at hb
    rw [tK_sN]
    by_cases c : p = p ∧ j = i
    · rw [if_pos c] at hb
      cases hb
      rw [if_pos rfl]
    · rw [if_neg c] at hb
      have := pk j b hb
      rw [if_neg (fun e => hq (by rw [← e, this]; decide))]
      exact this
  · rw [tP_sN] at h1 h2
    by_cases c1 : p = p ∧ j = i
    · rw [if_pos c1] at h1
      by_cases c2 : p = p ∧ k = i
      · exact c1.2.trans c2.2.symm
      · rw [if_neg c2] at h2
        cases h1
        exact absurd (by rw [pk k _ h2]; decide) hq
    · rw [if_neg c1] at h1
      by_cases c2 : p = p ∧ k = i
      · rw [if_pos c2] at h2
        cases h2
        exact absurd (by rw [pk j _ h1]; decide) hq
      · rw [if_neg c2] at h2
        exact h.2.2.2.2.2.2.2 j k b h1 h2
/-- what is filled stays filled -/
def FM (p : Nat) (Y Y' : TY) : Prop := ∀ c l h, Fl Y p c l h → Fl Y' p c l h
theorem PlOK.new {p i q : Nat} {st : TS} {Y : TY} {W : WD} {N : ND} (hc : PC st Y p W N) (h48 : hrs W ≤ 48) (h : PlOK Y p W N) (hn : tP Y p i = none) (hq : ¬ tK Y q < 11) : PlOK (sN Y p i q) p W N ∧ FM p Y (sN Y p i q) := by
  have pk := hc.2.2.2.2.2.2.1
  have ne : ∀ {j b}, tP Y p j = some b → b ≠ q := fun {j b} hb e => hq (by rw [← e, pk j b hb]; decide)
  have up : ∀ {j b}, tP Y p j = some b → tP (sN Y p i q) p j = some b := fun {j b} hb => (PF.sN (st := st) hn hq).2.2.2.1 j b hb
  have fm : FM p Y (sN Y p i q) := by
    intro c l h ⟨b, f, h1, h2, h3⟩
    exact ⟨b, f, up h1, by rw [tI_sN (ne h1)]; exact h2, h3⟩
  refine ⟨fun c l b hc' hl hb => ?_, fm⟩
  rw [tP_sN] at hb
  by_cases c1 : p = p ∧ c * 5 + l = i
  · rw [if_pos c1] at hb
    cases hb
    exact ⟨49, by omega, by rw [tI_sNq]; rfl, fun h h1 h2 => by omega⟩
  · rw [if_neg c1] at hb
    obtain ⟨f, f1, f2, f3⟩ := h c l b hc' hl hb
    refine ⟨f, f1, by rw [tI_sN (ne hb)]; exact f2, fun h h1 h2 h3 => ?_⟩
    obtain ⟨g1, g2⟩ := f3 h h1 h2 h3
    exact ⟨fun o ho => by rw [tA_sN (ne hb)]; exact g1 o ho, fun l' c' q1 q2 q3 => fm _ _ _ (g2 l' c' q1 q2 q3)⟩
theorem PlOK.sx {p : Nat} {st : TS} {Y Y' : TY} {W : WD} {N : ND} (hc : PC st Y p W N) (h : PlOK Y p W N) (hx : SX Y (st.1 p 2) Y') : PlOK Y' p W N ∧ FM p Y Y' := by
  obtain ⟨a1, a2, a3, a4, a5⟩ := hx.at
  have ne : ∀ {j b}, tP Y p j = some b → b ≠ st.1 p 2 := fun {j b} hb e => by
    have := hc.2.2.2.2.2.2.1 j b hb
    rw [e, hc.2.2.2.1] at this
    cases this
  have fm : FM p Y Y' := fun c l h ⟨b, f, h1, h2, h3⟩ => ⟨b, f, by rw [a4]; exact h1, by rw [a2]; exact h2, h3⟩
  refine ⟨fun c l b hc' hl hb => ?_, fm⟩
  rw [a4] at hb
  obtain ⟨f, f1, f2, f3⟩ := h c l b hc' hl hb
  refine ⟨f, f1, by rw [a2]; exact f2, fun h h1 h2 h3 => ?_⟩
  obtain ⟨g1, g2⟩ := f3 h h1 h2 h3
  exact ⟨fun o ho => by rw [a1 b (ne hb)]; exact g1 o ho, fun l' c' q1 q2 q3 => fm _ _ _ (g2 l' c' q1 q2 q3)⟩
def cap (W : WD) (h b l : Nat) : Nat := min b (hrs W - h + l)
theorem V_cap2 (W : WD) (N : ND) (h l o b : Nat) : V W N h l o (cap W h b l) = V W N h l o b := by
  unfold cap
  by_cases c : b ≤ hrs W - h + l
  · rw [Nat.min_eq_left c]
  · rw [Nat.min_eq_right (by omega)]
    exact V_cap W N (hrs W - h) l h o _ _ rfl (Nat.le_refl _) (by omega)
section PLN
variable {st : TS} {Y : TY} {p mc ms : Nat} {W : WD} {N : ND}
theorem c_planeOf {post : Option Nat → TY → Prop} (hc : PC st Y p W N) {h b l : Nat} (hh : h ≤ hrs W) (hb : b ≤ 24) (hl : l ≤ 4) (h1 : ∀ q, tP Y p (cap W h b l * 5 + l) = some q → post (some q) Y) (h0 : tP Y p (cap W h b l * 5 + l) = none → 2 ≤ mc ∧ 1031 ≤ ms ∧ ∀ q, ¬ tK Y q < 11 → post (some q) (sN Y p (cap W h b l * 5 + l) q)) : tp_X4_planeOf st post mc ms Y p (nI h) (nI b) (nI l) := by
  have hw := hc.2.2.2.2.1
  have h48 := hw.1.2.1
  have e : spF st Y p (nI h) (nI b) (nI l) = nI (cap W h b l) := by
    unfold spF cap
    rw [hw.2.2.1, pk_sub hh, nI_add]
    by_cases c : hrs W - h + l ≤ b
    · rw [if_pos ((nI_leI (by omega) (by omega)).mpr c), Nat.min_eq_right c]
    · rw [if_neg (fun q => c ((nI_leI (by omega) (by omega)).mp q)), Nat.min_eq_left (by omega)]
  have hcl : cap W h b l ≤ 24 := by unfold cap; omega
  have ok : spOK (nI (cap W h b l)) (nI l) := by
    unfold spOK
    simp (disch := omega) only [i_nI, i_lit, i_le]
    omega
  have ei : spI (nI (cap W h b l)) (nI l) = cap W h b l * 5 + l := by
    unfold spI
    rw [show (5 : Int32) = nI 5 from rfl, pk_mul, nI_add, nI_clamp (by omega)]
  unfold tp_X4_planeOf
  rw [e, ei]
  exact ⟨fun _ => ⟨h1, h0⟩, fun q => absurd ok q⟩
theorem c_planeOfN {post : Option Nat → TY → Prop} {v1 v2 v3 : Int32} (hn : ¬ spOK (spF st Y p v1 v2 v3) v3) (hp : post none Y) : tp_X4_planeOf st post mc ms Y p v1 v2 v3 := ⟨fun q => absurd q hn, fun _ => hp⟩
def lyF (l d : Nat) : Nat := if d / 2 = 4 then l - 1 else l
theorem c_planeBehind {post : Option Nat → TY → Prop} (hc : PC st Y p W N) {h b l d : Nat} (hh : h ≤ hrs W) (hb : b ≤ 24) (hl : l ≤ 4) (hd : d < 10) (h1 : fe W h b l d = true → ∃ r, tP Y p (cap W (h + hof (d / 2)) (b - bat d) (lyF l d) * 5 + lyF l d) = some r ∧ post (some r) Y) (h0 : fe W h b l d = false → post none Y) : tp_X4_planeBehind st post mc ms Y p (nI h) (nI b) (nI l) (nI d) := by
  have hw := hc.2.2.2.2.1
  have h48 := hw.1.2.1
  have z0 : ∀ n : Nat, 0 ≤ n := Nat.zero_le
  have hb2 := bat_le d
  have hh2 := hof_le (d / 2)
  unfold tp_X4_planeBehind
  intro x ex
  rw [show (2 : Int32) = nI 2 from rfl, pk_div (by omega) (by omega) (by omega)] at ex
  rw [ex, show (1 : Int32) = nI 1 from rfl, eqn (by omega) (by omega), show (4 : Int32) = nI 4 from rfl, eqn (by omega) (by omega)]
  refine ⟨fun c => ⟨z0 _, z0 _, h0 (by rw [c]; exact fe_1 _ _ _ _)⟩, fun c => ⟨z0 _, z0 _, ?_⟩⟩
  refine p_lets hw (by omega) (by omega) (bI_el (fun c1 => ⟨z0 _, z0 _, ?_⟩) (fun c1 => ⟨z0 _, z0 _, h0 (by simp [fe, c1])⟩))
  obtain ⟨g1, g2⟩ := let_h c1
  refine c_hoursOf (by omega) ⟨z0 _, z0 _, c_batteryOf (by omega) ?_⟩
  rw [nI_add]
  have key : ∀ l' : Nat, l' ≤ 4 → lyF l d = l' → (d / 2 = 4 → 1 ≤ l) → tk_X4_planeBehind_55 st post mc ms p (nI h) (nI b) (nI l) (nI d) Y 0 0 (nI l') (nI b - nI (bat d)) (nI (h + hof (d / 2))) := by
    intro l' hl' el h4
    unfold tk_X4_planeBehind_55
    refine ⟨0, 0, z0 _, z0 _, ?_⟩
    by_cases cb : bat d ≤ b
    · rw [pk_sub cb]
      have hfe : fe W h b l d = true := by
        simp only [fe, Bool.and_eq_true, Bool.or_eq_true, decide_eq_true_eq]
        exact ⟨⟨⟨c, c1⟩, cb⟩, by omega⟩
      obtain ⟨r, hr, hpo⟩ := h1 hfe
      rw [el] at hr
      refine c_planeOf hc ?_ (by omega) hl' (fun q hq => ?_) (fun q => ?_)
      · unfold hof
        split
        · omega
        · split
          · rename_i c3
            have := g2 c3
            omega
          · omega
      · rw [hr] at hq
        cases hq
        exact ⟨fun q => (by cases q), fun y hy => by cases hy; exact ⟨z0 _, z0 _, hpo⟩⟩
      · rw [hr] at q
        cases q
    · refine c_planeOfN ?_ ⟨fun _ => ⟨z0 _, z0 _, h0 ?_⟩, fun y hy => by cases hy⟩
      · intro q
        have e1 : nI b - nI (bat d) = iI ((b : Int) - (bat d : Int)) := by
          rw [i_nI, i_nI, i_sub]
        have e2 : spF st Y p (nI (h + hof (d / 2))) (nI b - nI (bat d)) (nI l') = iI ((b : Int) - (bat d : Int)) := by
          unfold spF
          rw [hw.2.2.1, e1]
          simp (disch := omega) only [i_nI, i_sub, i_add, i_le]
          rw [if_neg]
          have : h + hof (d / 2) ≤ hrs W := by
            unfold hof
            split
            · omega
            · split
              · rename_i c3
                have := g2 c3
                omega
              · omega
          omega
        rw [e2] at q
        have := q.1
        simp (disch := omega) only [i_lit, i_le] at this
        omega
      · simp only [fe]
        rw [decide_eq_false cb]
        simp
  refine ⟨fun c4 => key l hl (by simp [lyF, c4]) (fun q => absurd q c4), fun c4 => ?_⟩
  by_cases cl : 1 ≤ l
  · rw [pk_sub cl]
    exact key (l - 1) (by omega) (by simp [lyF, c4]) (fun _ => cl)
  · unfold tk_X4_planeBehind_55
    refine ⟨0, 0, z0 _, z0 _, c_planeOfN ?_ ⟨fun _ => ⟨z0 _, z0 _, h0 ?_⟩, fun y hy => by cases hy⟩⟩
    · intro q
      have := q.2.2.1
      rw [show l = 0 by omega] at this
      exact absurd this (by decide)
    · simp only [fe]
      rw [decide_eq_false cl, c4]
      simp
theorem c_weigh {post : TY → Prop} (hw : wfW W) (h48 : hrs W ≤ 48) {q r h d c l : Nat} (hd : d < 10) (hs : q ≠ st.1 p 2) (hfe : fe W h c l d = true) (hrow : ∀ o, o ≤ 20 → SRow Y (st.1 p 2) W N h d o) (hr : ∀ o, o ≤ 20 → tA Y r 1 ((h + hof (d / 2)) * 21 + o) = nI (V W N (h + hof (d / 2)) (lyF l d) o (c - bat d))) (hrq : r = q → 1 ≤ hof (d / 2)) {mo : Nat → Nat} (hmo : ∀ o, o ≤ 20 → tA Y q 1 (h * 21 + o) = nI (mo o) ∧ mo o ≤ 1000000) (hp : ∀ g, (∀ o, o ≤ 20 → g (h * 21 + o) = nI (if mo o < vV W N h l o c d then vV W N h l o c d else mo o)) → (∀ i, (i < h * 21 ∨ h * 21 + 21 ≤ i) → g i = tA Y q 1 i) → post (sF Y q 1 g)) : tp_X4_weigh st post Y p q (nI h) (nI d) r := by
  obtain ⟨f1, f2, f3, f4⟩ := fe_let hfe
  obtain ⟨g1, g2⟩ := let_h f1
  have hh : h + hof (d / 2) ≤ 48 := by
    unfold hof
    split
    · omega
    · split
      · rename_i c3
        have := g2 c3
        omega
      · omega
  have key : ∀ j k g, k + j = 21 → (∀ o, o < k → g (h * 21 + o) = nI (if mo o < vV W N h l o c d then vV W N h l o c d else mo o)) → (∀ i, (i < h * 21 ∨ h * 21 + k ≤ i) → g i = tA Y q 1 i) → tk_X4_weigh_3 st post p q (nI h) (nI d) r (j + 1) (sF Y q 1 g) (nI k) := by
    intro j
    induction j with
    | zero =>
      intro k g hk h1 h2
      have : k = 21 := by omega
      subst this
      rw [tk_X4_weigh_3]
      exact ⟨fun _ => hp g (fun o ho => h1 o (by omega)) h2, fun c => absurd (Int32.le_refl _) c⟩
    | succ j ih =>
      intro k g hk h1 h2
      rw [tk_X4_weigh_3, show (21 : Int32) = nI 21 from rfl, nI_leI (by omega) (by omega)]
      refine ⟨fun c => by omega, fun _ => ?_⟩
      have ow := owB_le (W := W) (N := N) (h := h) (t := d / 2) (show k ≤ 20 by omega)
      have hval : tA (sF Y q 1 g) r 1 ((h + hof (d / 2)) * 21 + owB W N h k (d / 2)) = nI (V W N (h + hof (d / 2)) (lyF l d) (owB W N h k (d / 2)) (c - bat d)) := by
        by_cases e : r = q
        · subst e
          have := hrq rfl
          rw [tA_same, h2 _ (by right; have : (h + 1) * 21 ≤ (h + hof (d / 2)) * 21 := Nat.mul_le_mul_right _ (by omega); omega)]
          exact hr _ ow
        · rw [tA_obj _ _ e]
          exact hr _ ow
      have hrow' : SRow (sF Y q 1 g) (st.1 p 2) W N h d k := by
        have := hrow k (by omega)
        unfold SRow at this ⊢
        rw [tA_obj _ _ (Ne.symm hs), tA_obj _ _ (Ne.symm hs), tA_obj _ _ (Ne.symm hs)]
        exact this
      refine c_safeBy hw hd (by omega) hh hrow' hval (V_le _ _ _ _ _ _) ?_
      have es : nI (les (if d / 2 = 3 then les (V W N (h + hof (d / 2)) (lyF l d) (owB W N h k (d / 2)) (c - bat d)) (shG W (h + 1) * blB N (d / 2) (d % 2) k) else V W N (h + hof (d / 2)) (lyF l d) (owB W N h k (d / 2)) (c - bat d)) (shG W h * blB N (d / 2) (d % 2) k)) = nI (vV W N h l k c d) := by
        congr 1
        unfold vV rsk
        rw [show shG W h = shp W h by simp [shG, g1]]
        by_cases c3 : d / 2 = 3
        · rw [if_pos c3, if_pos c3, show shG W (h + 1) = shp W (h + 1) by simp [shG, g2 c3]]
          have : ¬ d / 2 = 4 := by omega
          rw [show hof (d / 2) = 2 by simp [hof, c3], show lyF l d = l by simp [lyF, this]]
        · rw [if_neg c3, if_neg c3]
          rfl
      rw [es]
      have hv : vV W N h l k c d ≤ 1000000 := les_le (by split <;> first | exact les_le (V_le _ _ _ _ _ _) | exact V_le _ _ _ _ _ _)
      obtain ⟨m1, m2⟩ := hmo k (by omega)
      rw [pk_mul, nI_add]
      refine c_planeAt (by omega) ?_
      rw [tA_same, h2 _ (by omega), m1, nI_leI (by omega) (by omega)]
      refine ⟨fun c2 => ?_, fun c2 => ?_⟩
      · unfold tk_X4_weigh_53
        intro x ex
        rw [ex, show nI k + (1 : Int32) = nI (k + 1) from nI_1 k]
        refine ih (k + 1) g (by omega) (fun o ho => ?_) (fun i hi => h2 i (by omega))
        by_cases e : o = k
        · subst e
          rw [h2 _ (by omega), m1, if_neg (by omega)]
        · exact h1 o (by omega)
      · refine c_planePut (by omega) ?_
        rw [tA_same, sF_sF]
        unfold tk_X4_weigh_53
        intro x ex
        rw [ex, show nI k + (1 : Int32) = nI (k + 1) from nI_1 k]
        refine ih (k + 1) _ (by omega) (fun o ho => ?_) (fun i hi => ?_)
        · by_cases e : o = k
          · subst e
            rw [pk_us, if_pos (by omega)]
          · rw [pk_un (by omega)]
            exact h1 o (by omega)
        · rw [pk_un (by omega)]
          exact h2 i (by omega)
  refine ⟨22, ?_⟩
  have := key 21 0 (tA Y q 1) rfl (fun o ho => by omega) (fun _ _ => rfl)
  rw [sF_id] at this
  exact this
end PLN
