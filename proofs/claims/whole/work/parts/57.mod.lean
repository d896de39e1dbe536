-- THE REFERENCE: only the slots S of the object m have changed
def MX (m : Nat) (S : Nat → Prop) (Y Y' : TY) : Prop := (∀ b, b ≠ m → (∀ t, tI Y' b t = tI Y b t) ∧ (∀ t, tA Y' b t = tA Y b t)) ∧ (∀ t, ¬ S t → tI Y' m t = tI Y m t ∧ tA Y' m t = tA Y m t) ∧ (∀ b, tK Y' b = tK Y b) ∧ (∀ b, tP Y' b = tP Y b) ∧ (∀ b, tW Y' b = tW Y b)
theorem MX.refl (m : Nat) (S : Nat → Prop) (Y : TY) : MX m S Y Y := ⟨fun _ _ => ⟨fun _ => rfl, fun _ => rfl⟩, fun _ _ => ⟨rfl, rfl⟩, fun _ => rfl, fun _ => rfl, fun _ => rfl⟩
theorem MX.trans {m : Nat} {S : Nat → Prop} {Y Y' Y'' : TY} (h1 : MX m S Y Y') (h2 : MX m S Y' Y'') : MX m S Y Y'' := ⟨fun b hb => ⟨fun t => ((h2.1 b hb).1 t).trans ((h1.1 b hb).1 t), fun t => ((h2.1 b hb).2 t).trans ((h1.1 b hb).2 t)⟩, fun t ht => ⟨(h2.2.1 t ht).1.trans (h1.2.1 t ht).1, (h2.2.1 t ht).2.trans (h1.2.1 t ht).2⟩, fun b => (h2.2.2.1 b).trans (h1.2.2.1 b), fun b => (h2.2.2.2.1 b).trans (h1.2.2.2.1 b), fun b => (h2.2.2.2.2 b).trans (h1.2.2.2.2 b)⟩
theorem MX.mono {m : Nat} {S R : Nat → Prop} {Y Y' : TY} (h : MX m S Y Y') (hs : ∀ t, S t → R t) : MX m R Y Y' := ⟨h.1, fun t ht => h.2.1 t (fun q => ht (hs t q)), h.2.2⟩
theorem MX.sI {m : Nat} {S : Nat → Prop} {Y : TY} {s : Nat} {v : Int32} (hs : S s) : MX m S Y (sI Y m s v) := ⟨fun b hb => ⟨fun t => by rw [tI_sI, if_neg (fun q => hb q.1)], fun _ => rfl⟩, fun t ht => ⟨by rw [tI_sI, if_neg (fun q => ht (by rw [q.2]; exact hs))], rfl⟩, fun _ => rfl, fun _ => rfl, fun _ => rfl⟩
theorem MX.sF {m : Nat} {S : Nat → Prop} {Y : TY} {s : Nat} {g : Nat → Int32} (hs : S s) : MX m S Y (sF Y m s g) := ⟨fun b hb => ⟨fun _ => rfl, fun t => tA_obj _ _ hb⟩, fun t ht => ⟨rfl, tA_other _ _ (fun q => ht (by rw [q]; exact hs))⟩, fun _ => rfl, fun _ => rfl, fun _ => rfl⟩
theorem MX.mw {m : Nat} {S : Nat → Prop} {Y Y' : TY} {w : Nat} {W : WD} (h : MX m S Y Y') (hs : ∀ t, t ≤ 6 → ¬ S t) (hm : MWP Y m w W) : MWP Y' m w W := by
  unfold MWP at hm ⊢
  simp only [(h.2.1 0 (hs 0 (by omega))).2, (h.2.1 1 (hs 1 (by omega))).2, (h.2.1 2 (hs 2 (by omega))).2, (h.2.1 3 (hs 3 (by omega))).2, (h.2.1 4 (hs 4 (by omega))).2, (h.2.1 5 (hs 5 (by omega))).2, (h.2.1 6 (hs 6 (by omega))).2]
  exact hm
theorem MX.mn {m : Nat} {S : Nat → Prop} {Y Y' : TY} {N : ND} (h : MX m S Y Y') (hs : ∀ t, 7 ≤ t → t ≤ 8 → ¬ S t) (hn : MNP Y m N) : MNP Y' m N := by
  unfold MNP at hn ⊢
  simp only [(h.2.1 7 (hs 7 (by omega) (by omega))).2, (h.2.1 8 (hs 8 (by omega) (by omega))).2]
  exact hn
def scT (t : Nat) : Prop := 11 ≤ t ∧ t ≤ 14
def scD (t : Nat) : Prop := (11 ≤ t ∧ t ≤ 14) ∨ (16 ≤ t ∧ t ≤ 18)
def scJ (t : Nat) : Prop := 11 ≤ t ∧ t ≤ 18
def scW (t : Nat) : Prop := (11 ≤ t ∧ t ≤ 14) ∨ t = 21
def scE (t : Nat) : Prop := t = 22
def MTP (Y : TY) (m : Nat) (T : TD) : Prop := wfT T ∧ tI Y m 14 = nI T.1 ∧ ∀ k, k < T.1 → tA Y m 12 k = nI (T.2.1 k) ∧ tA Y m 13 k = nI (T.2.2 k) ∧ tA Y m 11 k = nI (rT T k)
def MQP (Y : TY) (m : Nat) (Q : QD) : Prop := MTP Y m Q.2.2.2 ∧ tI Y m 17 = nI Q.1 ∧ tI Y m 16 = nI Q.2.1 ∧ tI Y m 18 = nI Q.2.2.1
def MPP (Y : TY) (m n : Nat) (sg : Nat → Nat) : Prop := n ≤ 60 ∧ (∀ k, k < n → 33 ≤ sg k ∧ sg k ≤ 126) ∧ tI Y m 10 = nI n ∧ ∀ k, k < n → tA Y m 9 k = nI (sg k)
theorem MX.mp {m : Nat} {S : Nat → Prop} {Y Y' : TY} {n : Nat} {sg : Nat → Nat} (h : MX m S Y Y') (hs : ∀ t, 9 ≤ t → t ≤ 10 → ¬ S t) (hn : MPP Y m n sg) : MPP Y' m n sg := by
  unfold MPP at hn ⊢
  simp only [(h.2.1 9 (hs 9 (by omega) (by omega))).2, (h.2.1 10 (hs 10 (by omega) (by omega))).1]
  exact hn
theorem MX.mt {m : Nat} {S : Nat → Prop} {Y Y' : TY} {T : TD} (h : MX m S Y Y') (hs : ∀ t, 11 ≤ t → t ≤ 14 → ¬ S t) (hn : MTP Y m T) : MTP Y' m T := by
  unfold MTP at hn ⊢
  simp only [(h.2.1 11 (hs 11 (by omega) (by omega))).2, (h.2.1 12 (hs 12 (by omega) (by omega))).2, (h.2.1 13 (hs 13 (by omega) (by omega))).2, (h.2.1 14 (hs 14 (by omega) (by omega))).1]
  exact hn
theorem rT_ps (T : TD) (s b k : Nat) : rT (psT T s b) k = if k = T.1 then s * b else rT T k := by
  show va_up T.2.1 T.1 s k * va_up T.2.2 T.1 b k = _
  by_cases e : k = T.1
  · subst e
    rw [va_up_self, va_up_self, if_pos rfl]
  · rw [va_up_ne _ _ e, va_up_ne _ _ e, if_neg e]
    rfl
section MM
variable {st : TS} {Y : TY} {m w : Nat} {W : WD} {N : ND} {Q : QD}
theorem m_fault {post : Int32 → Prop} {n : Nat} {sg : Nat → Nat} (hP : MPP Y m n sg) (hp : post (ftF sg n 0 0)) : tp_X10_fault st post Y m := by
  obtain ⟨h60, hs, hc, hg⟩ := hP
  have key : ∀ j k w, k + j = n → w ≤ 2 → post (ftF sg j k w) → tk_X10_fault_4 st post Y m (j + 1) (nI w) (nI k) := by
    intro j
    induction j with
    | zero =>
      intro k w hk hw hpo
      have : k = n := by omega
      subst this
      rw [tk_X10_fault_4, hc, show (0 : Int32) = nI 0 from rfl, eqn (by omega) (by omega)]
      refine ⟨fun _ => ⟨fun q => ?_, fun q => ?_⟩, fun q => absurd (Int32.le_refl _) q⟩
      · unfold ftF at hpo
        rw [if_neg q] at hpo
        exact hpo
      · unfold ftF at hpo
        rw [if_pos q] at hpo
        exact hpo
    | succ j ih =>
      intro k w hk hw hpo
      have hsk := hs k (by omega)
      unfold ftF at hpo
      generalize hcc : sg k = c at hpo hsk
      rw [tk_X10_fault_4, hc, nI_leI (by omega) (by omega), nI_clamp (by omega), hg k (by omega), hcc]
      refine ⟨fun q => by omega, fun _ => ⟨vp_in_nI (by omega) (by omega), fun x4 e4 => ?_⟩⟩
      rw [e4]
      clear e4 x4
      have e0 : (nI w = 0) = (w = 0) := by rw [show (0 : Int32) = nI 0 from rfl, eqn (by omega) (by omega)]
      have e2 : (nI w = (2 : Int32)) = (w = 2) := by rw [show (2 : Int32) = nI 2 from rfl, eqn (by omega) (by omega)]
      have ec : ∀ z : Nat, z < 200 → (nI c = nI z) = (c = z) := fun z hz => eqn (by omega) (by omega)
      have k98 : ∀ u, wtN w c = u → u ≠ 3 → u ≤ 2 → tk_X10_fault_98 st post Y m (tk_X10_fault_4 st post Y m (j + 1)) (nI u) (nI k) := by
        intro u eu h3 h2
        unfold tk_X10_fault_98
        intro x ex
        rw [ex, show nI k + (1 : Int32) = nI (k + 1) from nI_1 k]
        rw [eu, if_neg h3] at hpo
        exact ih (k + 1) u (by omega) h2 hpo
      have k3 : wtN w c = 3 → post (nI k) := by
        intro eu
        rw [if_pos eu] at hpo
        exact hpo
      have k52 : ¬ w = 2 → ¬ (c = 33 ∧ w = 0) → tk_X10_fault_52 st post Y m (tk_X10_fault_4 st post Y m (j + 1)) (nI w) (nI k) (nI c) := by
        intro w2 c33
        have k91 : wtN w c = 0 → tk_X10_fault_91 st post Y m (tk_X10_fault_4 st post Y m (j + 1)) (nI k) := fun e => k98 0 e (by decide) (by decide)
        unfold tk_X10_fault_52
        rw [show (51 : Int32) = nI 51 from rfl, show (49 : Int32) = nI 49 from rfl, show (50 : Int32) = nI 50 from rfl, show (108 : Int32) = nI 108 from rfl, show (119 : Int32) = nI 119 from rfl, ec 51 (by omega), ec 49 (by omega), ec 50 (by omega), ec 108 (by omega), ec 119 (by omega), e0]
        refine ⟨fun c51 => ⟨fun c49 => k91 ?_, fun c49 => ⟨fun c50 => k91 ?_, fun c50 => ⟨fun c108 => k91 ?_, fun c108 => ⟨fun c119 => k3 ?_, fun c119 => ⟨fun cw => k3 ?_, fun cw => k91 ?_⟩⟩⟩⟩⟩, fun c51 => k98 2 ?_ (by decide) (by decide)⟩
        · simp [wtN, w2, c49, thN]
        · simp [wtN, w2, c50, thN]
        · simp [wtN, w2, c108, thN]
        · by_cases c3 : c = 33
          · have : ¬ w = 0 := fun q => c33 ⟨c3, q⟩
            simp [wtN, w2, c3, this]
          · simp [wtN, w2, c3, thN, c51, c49, c50, c108, c119]
        · have : w = 1 := by omega
          simp [wtN, this, c119, thN]
        · simp [wtN, cw, c119, thN]
        · simp [wtN, w2, c51, thN]
      rw [e2, e0, show (33 : Int32) = nI 33 from rfl, show (46 : Int32) = nI 46 from rfl, ec 33 (by omega), ec 46 (by omega)]
      refine ⟨fun w2 => ⟨fun c33 => k52 w2 (fun q => c33 q.1), fun c33 => ⟨fun w0 => k52 w2 (fun q => w0 q.2), fun w0 => k98 1 (by simp [wtN, c33, w0]) (by decide) (by decide)⟩⟩, fun w2 => ⟨fun c46 => k98 0 (by simp [wtN, c46, w2]) (by decide) (by decide), fun c46 => k3 (by simp [wtN, c46, w2])⟩⟩
  exact ⟨n + 1, key n 0 0 (by omega) (by omega) hp⟩
theorem m_passHour {post : TY → Prop} (hw : wfW W) (hm : MWP Y m w W) (hw1 : w ≤ 1) {T : TD} (hT : MTP Y m T) (hl : T.1 < 130) {h b : Nat} (hh : h < hrs W) (hb : b ≤ 1000) (hp : ∀ Y', MX m scT Y Y' → MTP Y' m (psT T (shp W h) b) → post Y') : tp_X10_passHour st post Y m (nI w) (nI h) (nI b) := by
  obtain ⟨t1, t2, t3⟩ := hT
  have h48 := hw.2.1
  unfold tp_X10_passHour
  rw [show (48 : Int32) = nI 48 from rfl, ix 48 (by omega) hw1 (by omega), nI_clamp (by omega), (hm.2.2.2 h hh).1, t2]
  refine ⟨vp_in_nI (by omega) (by omega), vp_in_nI (by omega) (by omega), fun Y1 e1 => ?_⟩
  rw [nI_clamp (by omega)] at e1
  have i1 : tI Y1 m 14 = nI T.1 := by rw [e1]; exact t2
  rw [i1]
  refine ⟨vp_in_nI (by omega) (by omega), fun Y2 e2 => ?_⟩
  rw [nI_clamp (by omega)] at e2
  have i2 : tI Y2 m 14 = nI T.1 := by rw [e2]; exact i1
  rw [i2]
  refine ⟨vp_in_nI (by omega) (by omega), vp_in_nI (by omega) (by omega), fun Y3 e3 Y4 e4 => ?_⟩
  rw [nI_clamp (by omega)] at e3
  have i3 : tI Y3 m 14 = nI T.1 := by rw [e3]; exact i2
  rw [i3, show nI T.1 + (1 : Int32) = nI (T.1 + 1) from nI_1 T.1] at e4
  have a12 : tA Y2 m 12 = upd (tA Y m 12) T.1 (nI (shp W h)) := by rw [e2, tA_other _ _ (by decide), e1, tA_same]
  have f12 : tA Y4 m 12 = upd (tA Y m 12) T.1 (nI (shp W h)) := by rw [e4, tA_sI, e3, tA_other _ _ (by decide)]; exact a12
  have f13 : tA Y4 m 13 = upd (tA Y m 13) T.1 (nI b) := by rw [e4, tA_sI, e3, tA_other _ _ (by decide), e2, tA_same, e1, tA_other _ _ (by decide)]
  have f11 : tA Y4 m 11 = upd (tA Y m 11) T.1 (nI (shp W h * b)) := by rw [e4, tA_sI, e3, tA_same, a12, pk_us, pk_mul, e2, tA_other _ _ (by decide), e1, tA_other _ _ (by decide)]
  refine hp Y4 ?_ ⟨t1.ps (shp_le hw h) hb, ?_, fun k hk => ?_⟩
  · rw [e4, e3, e2, e1]
    exact (MX.sF (S := scT) ⟨by decide, by decide⟩).trans ((MX.sF (S := scT) ⟨by decide, by decide⟩).trans ((MX.sF (S := scT) ⟨by decide, by decide⟩).trans (MX.sI (S := scT) ⟨by decide, by decide⟩)))
  · rw [e4, tI_sI, if_pos ⟨rfl, rfl⟩]
    rfl
  · have hk : k < T.1 + 1 := hk
    rw [f12, f13, f11, rT_ps]
    show _ = nI (va_up T.2.1 T.1 (shp W h) k) ∧ _ = nI (va_up T.2.2 T.1 b k) ∧ _
    by_cases e : k = T.1
    · subst e
      rw [pk_us, pk_us, pk_us, va_up_self, va_up_self, if_pos rfl]
      exact ⟨rfl, rfl, rfl⟩
    · rw [pk_un e, pk_un e, pk_un e, va_up_ne _ _ e, va_up_ne _ _ e, if_neg e]
      exact t3 k (by omega)
theorem m_safe {post : Int32 → Prop} {T : TD} (hT : MTP Y m T) (hl : T.1 ≤ 130) (hp : post (nI (sfF T T.1 1000000))) : tp_X10_safeOfTimes st post Y m := by
  obtain ⟨t2, t3, t4⟩ := hT
  have key : ∀ k x, k ≤ T.1 → x ≤ 1000000 → post (nI (sfF T k x)) → tk_X10_safeOfTimes_10 st post Y m (k + 1) (nI x) (iI ((k : Int) - 1)) := by
    intro k
    induction k with
    | zero =>
      intro x hk hx hpo
      rw [tk_X10_safeOfTimes_10]
      exact ⟨fun _ => hpo, fun q => absurd (by decide) q⟩
    | succ k ih =>
      intro x hk hx hpo
      have e : iI (((k + 1 : Nat) : Int) - 1) = nI k := by
        rw [i_nI]
        congr 1
        omega
      obtain ⟨u1, u2, u3⟩ := t4 k (by omega)
      have hr := rT_le t2 (show k < T.1 by omega)
      rw [tk_X10_safeOfTimes_10, e, nI_clamp (by omega), u3]
      refine ⟨fun q => absurd q (by rw [show (0 : Int32) = nI 0 from rfl, nI_ltI (by omega) (by omega)]; omega), fun _ => ⟨vp_in_nI (by omega) (by omega), ?_⟩⟩
      refine m_less (r := rT T k) hx (by omega) (fun x5 e5 => ?_)
      simp only [i_nI, i_lit, i_neg, i_add] at e5
      rw [e5]
      exact ih _ (by omega) (les_le hx) hpo
  unfold tp_X10_safeOfTimes
  intro x ex
  rw [t3] at ex
  simp only [i_nI, i_lit, i_sub] at ex
  rw [ex]
  exact ⟨T.1 + 1, key T.1 1000000 (Nat.le_refl _) (Nat.le_refl _) hp⟩
theorem m_mostRisk {post : Int32 → Prop} {T : TD} (hT : MTP Y m T) (hl : T.1 ≤ 130) (hp : post (opI (rkF (rT T) T.1))) : tp_X10_mostRisk st post Y m := by
  obtain ⟨t2, t3, t4⟩ := hT
  have key : ∀ j i, i + j = T.1 → tk_X10_mostRisk_5 st post Y m (j + 1) (opI (rkF (rT T) i)) (nI i) := by
    intro j
    induction j with
    | zero =>
      intro i hi
      have : i = T.1 := by omega
      subst this
      rw [tk_X10_mostRisk_5, t3]
      exact ⟨fun _ => hp, fun q => absurd (Int32.le_refl _) q⟩
    | succ j ih =>
      intro i hi
      obtain ⟨u1, u2, u3⟩ := t4 i (by omega)
      have hr := rT_le t2 (show i < T.1 by omega)
      have hin : vp_in (nI i) 130 := vp_in_nI (by omega) (by omega)
      rw [tk_X10_mostRisk_5, t3, nI_leI (by omega) (by omega)]
      have nx := ih (i + 1) (by omega)
      have e : rkF (rT T) (i + 1) = match rkF (rT T) i with
        | none => some i
        | some b => if rT T b < rT T i then some i else some b := rfl
      rw [e] at nx
      refine ⟨fun q => by omega, fun _ => ?_⟩
      cases hr2 : rkF (rT T) i with
      | none =>
        rw [hr2] at nx
        refine ⟨fun _ => ?_, fun q => absurd (show (-6 : Int32) < 0 by decide) q⟩
        unfold tk_X10_mostRisk_32 tk_X10_mostRisk_37
        intro x5 e5
        rw [e5, show nI i + (1 : Int32) = nI (i + 1) from nI_1 i]
        exact nx
      | some b =>
        rw [hr2] at nx
        have hb := rkF_lt hr2
        have hrb := rT_le t2 (show b < T.1 by omega)
        show (nI b < 0 → _) ∧ (¬ nI b < 0 → vp_in (nI i) 130 ∧ vp_in (nI b) 130 ∧ (tA Y m 11 (nI i).toNatClampNeg ≤ tA Y m 11 (nI b).toNatClampNeg → _) ∧ (¬ tA Y m 11 (nI i).toNatClampNeg ≤ tA Y m 11 (nI b).toNatClampNeg → _))
        rw [nI_clamp (by omega), nI_clamp (by omega), u3, (t4 b (by omega)).2.2, nI_leI (by omega) (by omega)]
        refine ⟨fun q => absurd q (by rw [show (0 : Int32) = nI 0 from rfl, nI_ltI (by omega) (by omega)]; omega), fun _ => ⟨hin, vp_in_nI (by omega) (by omega), fun q => ?_, fun q => ?_⟩⟩
        · simp only [if_neg (show ¬ rT T b < rT T i by omega)] at nx
          unfold tk_X10_mostRisk_37
          intro x5 e5
          rw [e5, show nI i + (1 : Int32) = nI (i + 1) from nI_1 i]
          exact nx
        · simp only [if_pos (show rT T b < rT T i by omega)] at nx
          unfold tk_X10_mostRisk_32 tk_X10_mostRisk_37
          intro x5 e5
          rw [e5, show nI i + (1 : Int32) = nI (i + 1) from nI_1 i]
          exact nx
  exact ⟨T.1 + 1, key T.1 0 (by omega)⟩
end MM
