-- THE REFERENCE'S IMAGES
theorem upd_id (f : Nat → Int32) (i : Nat) : upd f i (f i) = f := by
  funext j
  by_cases e : j = i
  · subst e
    rw [pk_us]
  · rw [pk_un e]
def scK (t : Nat) : Prop := t = 23 ∨ t = 25
def scI (t : Nat) : Prop := t = 25
def scR (t : Nat) : Prop := t ≤ 3 ∨ t = 7 ∨ t = 8 ∨ t = 25
section PS
variable {st : TS} {Y : TY} {m : Nat}
theorem m_passW {post : Int32 → TY → Prop} {v : Int32} {q : Nat} (e26 : tI Y m 26 = 1) (e25 : tI Y m 25 = nI q) (hq : q < 120) (hp : ∀ Y', MX m scK Y Y' → tI Y' m 25 = nI (q + 1) → tA Y' m 23 = upd (tA Y m 23) q v → post v Y') : tp_X10_pass st post Y m v := by
  unfold tp_X10_pass tk_X10_pass_20
  rw [e26, e25, nI_clamp (by omega)]
  refine ⟨fun z => absurd z (by decide), fun _ => ⟨vp_in_nI (by omega) (by omega), fun Y2 e2 Y3 e3 => ?_⟩⟩
  have i2 : tI Y2 m 25 = nI q := by rw [e2]; exact e25
  rw [i2, show nI q + (1 : Int32) = nI (q + 1) from nI_1 q] at e3
  refine hp Y3 ?_ (by rw [e3, tI_sI, if_pos ⟨rfl, rfl⟩]) (by rw [e3, tA_sI, e2, tA_same])
  rw [e3, e2]
  exact (MX.sF (S := scK) (Or.inl rfl)).trans (MX.sI (S := scK) (Or.inr rfl))
theorem m_passR {post : Int32 → TY → Prop} {v : Int32} {q : Nat} (e26 : tI Y m 26 = 0) (e25 : tI Y m 25 = nI q) (hq : q < 120) (hp : ∀ Y', MX m scI Y Y' → tI Y' m 25 = nI (q + 1) → post (tA Y m 23 q) Y') : tp_X10_pass st post Y m v := by
  unfold tp_X10_pass tk_X10_pass_20
  rw [e26, e25, nI_clamp (by omega)]
  refine ⟨fun _ => ⟨vp_in_nI (by omega) (by omega), ⟨vp_in_nI (by omega) (by omega), fun Y2 e2 Y3 e3 => ?_⟩⟩, fun z => absurd rfl z⟩
  rw [upd_id, sF_id] at e2
  rw [e2, e25, show nI q + (1 : Int32) = nI (q + 1) from nI_1 q] at e3
  refine hp Y3 ?_ (by rw [e3, tI_sI, if_pos ⟨rfl, rfl⟩])
  rw [e3]
  exact MX.sI (S := scI) rfl
theorem sF_same {Y4 Y6 Yc : TY} {s k : Nat} (mx : MX m scK Yc Y4) (hs : ¬ scK s) (e : Y6 = sF Y4 m s (upd (tA Y4 m s) k (tA Yc m s k))) : Y6 = Y4 := by
  have : tA Yc m s = tA Y4 m s := (mx.2.1 s hs).2.symm
  rw [this, upd_id, sF_id] at e
  exact e
theorem m_passAllW {post : TY → Prop} {p : Nat} (e26 : tI Y m 26 = 1) (e25 : tI Y m 25 = nI p) (hpp : p + 56 ≤ 120) (hp : ∀ Y', MX m scK Y Y' → (∀ k, k < 16 → tA Y' m 23 (p + 3 * k) = tA Y m 0 k ∧ tA Y' m 23 (p + 3 * k + 1) = tA Y m 1 k ∧ tA Y' m 23 (p + 3 * k + 2) = tA Y m 2 k) → (∀ k, k < 2 → tA Y' m 23 (p + 48 + k) = tA Y m 3 k) → (∀ k, k < 3 → tA Y' m 23 (p + 50 + 2 * k) = tA Y m 7 k ∧ tA Y' m 23 (p + 51 + 2 * k) = tA Y m 8 k) → (∀ i, (i < p ∨ p + 56 ≤ i) → tA Y' m 23 i = tA Y m 23 i) → post Y') : tp_X10_passAll st post Y m := by
  let I0 : TY → Prop := fun Yc => MX m scK Y Yc ∧ ∀ i, (i < p ∨ p + 56 ≤ i) → tA Yc m 23 i = tA Y m 23 i
  let I1 : TY → Nat → Prop := fun Yc n => ∀ k, k < n → tA Yc m 23 (p + 3 * k) = tA Y m 0 k ∧ tA Yc m 23 (p + 3 * k + 1) = tA Y m 1 k ∧ tA Yc m 23 (p + 3 * k + 2) = tA Y m 2 k
  let I2 : TY → Nat → Prop := fun Yc n => ∀ k, k < n → tA Yc m 23 (p + 48 + k) = tA Y m 3 k
  let I3 : TY → Nat → Prop := fun Yc n => ∀ k, k < n → tA Yc m 23 (p + 50 + 2 * k) = tA Y m 7 k ∧ tA Yc m 23 (p + 51 + 2 * k) = tA Y m 8 k
  have k26 : ∀ {Yc}, MX m scK Y Yc → tI Yc m 26 = 1 := fun mx => ((mx.2.1 26 (by unfold scK; omega)).1).trans e26
  have l3 : ∀ j k Yc, k + j = 3 → I0 Yc → I1 Yc 16 → I2 Yc 2 → I3 Yc k → tI Yc m 25 = nI (p + 50 + 2 * k) → tk_X10_passAll_93 st post m (j + 1) Yc (nI k) := by
    intro j
    induction j with
    | zero =>
      intro k Yc hk i0 i1 i2 i3 e
      have : k = 3 := by omega
      subst this
      rw [tk_X10_passAll_93]
      exact ⟨fun _ => hp Yc i0.1 i1 i2 i3 i0.2, fun z => absurd (Int32.le_refl _) z⟩
    | succ j ih =>
      intro k Yc hk i0 i1 i2 i3 e
      have hv : vp_in (nI k) 3 := vp_in_nI (by omega) (by omega)
      rw [tk_X10_passAll_93, show (3 : Int32) = nI 3 from rfl, nI_leI (by omega) (by omega), nI_clamp (by omega)]
      refine ⟨fun z => by omega, fun _ => ⟨hv, m_passW (k26 i0.1) e (by omega) (fun Y4 mx4 q4 a4 => ⟨hv, fun Y6 e6 => ⟨hv, ?_⟩⟩)⟩⟩
      have e6 := sF_same mx4 (by unfold scK; omega) e6
      subst e6
      have mxa := i0.1.trans mx4
      refine m_passW (k26 mxa) q4 (by omega) (fun Y7 mx7 q7 a7 => ⟨hv, fun Y9 e9 x ex => ?_⟩)
      have e9 := sF_same mx7 (by unfold scK; omega) e9
      subst e9
      rw [ex, show nI k + (1 : Int32) = nI (k + 1) from nI_1 k]
      have v7 : tA Yc m 7 = tA Y m 7 := (i0.1.2.1 7 (by unfold scK; omega)).2
      have v8 : tA Y6 m 8 = tA Y m 8 := (mxa.2.1 8 (by unfold scK; omega)).2
      rw [v7] at a4
      rw [v8] at a7
      have at' : ∀ i, i ≠ p + 50 + 2 * k → i ≠ p + 50 + 2 * k + 1 → tA Y9 m 23 i = tA Yc m 23 i := fun i h1 h2 => by rw [a7, pk_un h2, a4, pk_un h1]
      refine ih (k + 1) Y9 (by omega) ⟨mxa.trans mx7, fun i hi => by rw [at' i (by omega) (by omega)]; exact i0.2 i hi⟩ (fun k' hk' => ?_) (fun k' hk' => ?_) (fun k' hk' => ?_) (by rw [q7]; congr 1)
      · rw [at' _ (by omega) (by omega), at' _ (by omega) (by omega), at' _ (by omega) (by omega)]
        exact i1 k' hk'
      · rw [at' _ (by omega) (by omega)]
        exact i2 k' hk'
      · by_cases c : k' = k
        · subst c
          rw [a7, pk_un (by omega), a4, pk_us, show p + 51 + 2 * k' = p + 50 + 2 * k' + 1 by omega, pk_us]
          exact ⟨rfl, rfl⟩
        · rw [at' _ (by omega) (by omega), at' _ (by omega) (by omega)]
          exact i3 k' (by omega)
  have l2 : ∀ j k Yc, k + j = 2 → I0 Yc → I1 Yc 16 → I2 Yc k → tI Yc m 25 = nI (p + 48 + k) → tk_X10_passAll_64 st post m (j + 1) Yc (nI k) := by
    intro j
    induction j with
    | zero =>
      intro k Yc hk i0 i1 i2 e
      have : k = 2 := by omega
      subst this
      rw [tk_X10_passAll_64]
      exact ⟨fun _ => ⟨4, l3 3 0 Yc rfl i0 i1 i2 (fun k hk => absurd hk (Nat.not_lt_zero _)) e⟩, fun z => absurd (Int32.le_refl _) z⟩
    | succ j ih =>
      intro k Yc hk i0 i1 i2 e
      have hv : vp_in (nI k) 2 := vp_in_nI (by omega) (by omega)
      rw [tk_X10_passAll_64, show (2 : Int32) = nI 2 from rfl, nI_leI (by omega) (by omega), nI_clamp (by omega)]
      refine ⟨fun z => by omega, fun _ => ⟨hv, m_passW (k26 i0.1) e (by omega) (fun Y4 mx4 q4 a4 => ⟨hv, fun Y6 e6 x ex => ?_⟩)⟩⟩
      have e6 := sF_same mx4 (by unfold scK; omega) e6
      subst e6
      rw [ex, show nI k + (1 : Int32) = nI (k + 1) from nI_1 k]
      have v3 : tA Yc m 3 = tA Y m 3 := (i0.1.2.1 3 (by unfold scK; omega)).2
      rw [v3] at a4
      refine ih (k + 1) Y6 (by omega) ⟨i0.1.trans mx4, fun i hi => by rw [a4, pk_un (by omega)]; exact i0.2 i hi⟩ (fun k' hk' => ?_) (fun k' hk' => ?_) q4
      · rw [a4, pk_un (by omega), pk_un (by omega), pk_un (by omega)]
        exact i1 k' hk'
      · by_cases c : k' = k
        · subst c
          rw [a4, pk_us]
        · rw [a4, pk_un (by omega)]
          exact i2 k' (by omega)
  have l1 : ∀ j k Yc, k + j = 16 → I0 Yc → I1 Yc k → tI Yc m 25 = nI (p + 3 * k) → tk_X10_passAll_2 st post m (j + 1) Yc (nI k) := by
    intro j
    induction j with
    | zero =>
      intro k Yc hk i0 i1 e
      have : k = 16 := by omega
      subst this
      rw [tk_X10_passAll_2]
      exact ⟨fun _ => ⟨3, l2 2 0 Yc rfl i0 i1 (fun k hk => absurd hk (Nat.not_lt_zero _)) e⟩, fun z => absurd (Int32.le_refl _) z⟩
    | succ j ih =>
      intro k Yc hk i0 i1 e
      have hv : vp_in (nI k) 16 := vp_in_nI (by omega) (by omega)
      rw [tk_X10_passAll_2, show (16 : Int32) = nI 16 from rfl, nI_leI (by omega) (by omega), nI_clamp (by omega)]
      refine ⟨fun z => by omega, fun _ => ⟨hv, m_passW (k26 i0.1) e (by omega) (fun Y4 mx4 q4 a4 => ⟨hv, fun Y6 e6 => ⟨hv, ?_⟩⟩)⟩⟩
      have e6 := sF_same mx4 (by unfold scK; omega) e6
      subst e6
      have mxa := i0.1.trans mx4
      refine m_passW (k26 mxa) q4 (by omega) (fun Y7 mx7 q7 a7 => ⟨hv, fun Y9 e9 => ⟨hv, ?_⟩⟩)
      have e9 := sF_same mx7 (by unfold scK; omega) e9
      subst e9
      have mxb := mxa.trans mx7
      refine m_passW (k26 mxb) q7 (by omega) (fun Y10 mx10 q10 a10 => ⟨hv, fun Y12 e12 x ex => ?_⟩)
      have e12 := sF_same mx10 (by unfold scK; omega) e12
      subst e12
      rw [ex, show nI k + (1 : Int32) = nI (k + 1) from nI_1 k]
      have v0 : tA Yc m 0 = tA Y m 0 := (i0.1.2.1 0 (by unfold scK; omega)).2
      have v1 : tA Y6 m 1 = tA Y m 1 := (mxa.2.1 1 (by unfold scK; omega)).2
      have v2 : tA Y9 m 2 = tA Y m 2 := (mxb.2.1 2 (by unfold scK; omega)).2
      rw [v0] at a4
      rw [v1] at a7
      rw [v2] at a10
      have at' : ∀ i, i ≠ p + 3 * k → i ≠ p + 3 * k + 1 → i ≠ p + 3 * k + 1 + 1 → tA Y12 m 23 i = tA Yc m 23 i := fun i h1 h2 h3 => by rw [a10, pk_un h3, a7, pk_un h2, a4, pk_un h1]
      refine ih (k + 1) Y12 (by omega) ⟨mxb.trans mx10, fun i hi => by rw [at' i (by omega) (by omega) (by omega)]; exact i0.2 i hi⟩ (fun k' hk' => ?_) (by rw [q10]; congr 1)
      by_cases c : k' = k
      · subst c
        refine ⟨?_, ?_, ?_⟩
        · rw [a10, pk_un (by omega), a7, pk_un (by omega), a4, pk_us]
        · rw [a10, pk_un (by omega), a7, pk_us]
        · rw [a10, show p + 3 * k' + 2 = p + 3 * k' + 1 + 1 by omega, pk_us]
      · rw [at' _ (by omega) (by omega) (by omega), at' _ (by omega) (by omega) (by omega), at' _ (by omega) (by omega) (by omega)]
        exact i1 k' (by omega)
  exact ⟨17, l1 16 0 Y rfl ⟨MX.refl _ _ _, fun _ _ => rfl⟩ (fun k hk => absurd hk (Nat.not_lt_zero _)) e25⟩
theorem m_passAllR {post : TY → Prop} {p : Nat} (e26 : tI Y m 26 = 0) (e25 : tI Y m 25 = nI p) (hpp : p + 56 ≤ 120) (hp : ∀ Y', MX m scR Y Y' → (∀ k, k < 16 → tA Y' m 0 k = tA Y m 23 (p + 3 * k) ∧ tA Y' m 1 k = tA Y m 23 (p + 3 * k + 1) ∧ tA Y' m 2 k = tA Y m 23 (p + 3 * k + 2)) → (∀ k, k < 2 → tA Y' m 3 k = tA Y m 23 (p + 48 + k)) → (∀ k, k < 3 → tA Y' m 7 k = tA Y m 23 (p + 50 + 2 * k) ∧ tA Y' m 8 k = tA Y m 23 (p + 51 + 2 * k)) → post Y') : tp_X10_passAll st post Y m := by
  let I1 : TY → Nat → Prop := fun Yc n => ∀ k, k < n → tA Yc m 0 k = tA Y m 23 (p + 3 * k) ∧ tA Yc m 1 k = tA Y m 23 (p + 3 * k + 1) ∧ tA Yc m 2 k = tA Y m 23 (p + 3 * k + 2)
  let I2 : TY → Nat → Prop := fun Yc n => ∀ k, k < n → tA Yc m 3 k = tA Y m 23 (p + 48 + k)
  let I3 : TY → Nat → Prop := fun Yc n => ∀ k, k < n → tA Yc m 7 k = tA Y m 23 (p + 50 + 2 * k) ∧ tA Yc m 8 k = tA Y m 23 (p + 51 + 2 * k)
  have k26 : ∀ {Yc}, MX m scR Y Yc → tI Yc m 26 = 0 := fun mx => ((mx.2.1 26 (by unfold scR; omega)).1).trans e26
  have k23 : ∀ {Yc}, MX m scR Y Yc → tA Yc m 23 = tA Y m 23 := fun mx => (mx.2.1 23 (by unfold scR; omega)).2
  have up : ∀ {Ya Yb : TY}, MX m scI Ya Yb → MX m scR Ya Yb := fun mx => mx.mono (fun t q => by unfold scI at q; unfold scR; omega)
  have l3 : ∀ j k Yc, k + j = 3 → MX m scR Y Yc → I1 Yc 16 → I2 Yc 2 → I3 Yc k → tI Yc m 25 = nI (p + 50 + 2 * k) → tk_X10_passAll_93 st post m (j + 1) Yc (nI k) := by
    intro j
    induction j with
    | zero =>
      intro k Yc hk i0 i1 i2 i3 e
      have : k = 3 := by omega
      subst this
      rw [tk_X10_passAll_93]
      exact ⟨fun _ => hp Yc i0 i1 i2 i3, fun z => absurd (Int32.le_refl _) z⟩
    | succ j ih =>
      intro k Yc hk i0 i1 i2 i3 e
      have hv : vp_in (nI k) 3 := vp_in_nI (by omega) (by omega)
      rw [tk_X10_passAll_93, show (3 : Int32) = nI 3 from rfl, nI_leI (by omega) (by omega), nI_clamp (by omega)]
      refine ⟨fun z => by omega, fun _ => ⟨hv, m_passR (k26 i0) e (by omega) (fun Y4 mx4 q4 => ⟨hv, fun Y6 e6 => ⟨hv, ?_⟩⟩)⟩⟩
      have mxa : MX m scR Y Y6 := i0.trans ((up mx4).trans (by rw [e6]; exact MX.sF (S := scR) (by unfold scR; omega)))
      have q6 : tI Y6 m 25 = nI (p + 50 + 2 * k + 1) := by rw [e6]; exact q4
      refine m_passR (k26 mxa) q6 (by omega) (fun Y7 mx7 q7 => ⟨hv, fun Y9 e9 x ex => ?_⟩)
      rw [k23 i0] at e6
      rw [k23 mxa] at e9
      rw [ex, show nI k + (1 : Int32) = nI (k + 1) from nI_1 k]
      have o4 : ∀ t, t ≠ 25 → tA Y4 m t = tA Yc m t := fun t ht => (mx4.2.1 t ht).2
      have o7 : ∀ t, t ≠ 25 → tA Y7 m t = tA Y6 m t := fun t ht => (mx7.2.1 t ht).2
      have f7 : tA Y9 m 7 = upd (tA Yc m 7) k (tA Y m 23 (p + 50 + 2 * k)) := by rw [e9, tA_other _ _ (by decide), o7 7 (by decide), e6, tA_same, o4 7 (by decide)]
      have f8 : tA Y9 m 8 = upd (tA Yc m 8) k (tA Y m 23 (p + 50 + 2 * k + 1)) := by rw [e9, tA_same, o7 8 (by decide), e6, tA_other _ _ (by decide), o4 8 (by decide)]
      have fo : ∀ t, t ≠ 7 → t ≠ 8 → t ≠ 25 → tA Y9 m t = tA Yc m t := fun t h1 h2 h3 => by rw [e9, tA_other _ _ h2, o7 t h3, e6, tA_other _ _ h1, o4 t h3]
      refine ih (k + 1) Y9 (by omega) (mxa.trans ((up mx7).trans (by rw [e9]; exact MX.sF (S := scR) (by unfold scR; omega)))) (fun k' hk' => ?_) (fun k' hk' => ?_) (fun k' hk' => ?_) (by rw [e9]; show tI Y7 m 25 = _; rw [q7]; congr 1)
      · rw [fo 0 (by decide) (by decide) (by decide), fo 1 (by decide) (by decide) (by decide), fo 2 (by decide) (by decide) (by decide)]
        exact i1 k' hk'
      · rw [fo 3 (by decide) (by decide) (by decide)]
        exact i2 k' hk'
      · rw [f7, f8]
        by_cases c : k' = k
        · subst c
          rw [pk_us, pk_us, show p + 51 + 2 * k' = p + 50 + 2 * k' + 1 by omega]
          exact ⟨rfl, rfl⟩
        · rw [pk_un c, pk_un c]
          exact i3 k' (by omega)
  have l2 : ∀ j k Yc, k + j = 2 → MX m scR Y Yc → I1 Yc 16 → I2 Yc k → tI Yc m 25 = nI (p + 48 + k) → tk_X10_passAll_64 st post m (j + 1) Yc (nI k) := by
    intro j
    induction j with
    | zero =>
      intro k Yc hk i0 i1 i2 e
      have : k = 2 := by omega
      subst this
      rw [tk_X10_passAll_64]
      exact ⟨fun _ => ⟨4, l3 3 0 Yc rfl i0 i1 i2 (fun k hk => absurd hk (Nat.not_lt_zero _)) e⟩, fun z => absurd (Int32.le_refl _) z⟩
    | succ j ih =>
      intro k Yc hk i0 i1 i2 e
      have hv : vp_in (nI k) 2 := vp_in_nI (by omega) (by omega)
      rw [tk_X10_passAll_64, show (2 : Int32) = nI 2 from rfl, nI_leI (by omega) (by omega), nI_clamp (by omega)]
      refine ⟨fun z => by omega, fun _ => ⟨hv, m_passR (k26 i0) e (by omega) (fun Y4 mx4 q4 => ⟨hv, fun Y6 e6 x ex => ?_⟩)⟩⟩
      have mxa : MX m scR Y Y6 := i0.trans ((up mx4).trans (by rw [e6]; exact MX.sF (S := scR) (by unfold scR; omega)))
      rw [k23 i0] at e6
      rw [ex, show nI k + (1 : Int32) = nI (k + 1) from nI_1 k]
      have o4 : ∀ t, t ≠ 25 → tA Y4 m t = tA Yc m t := fun t ht => (mx4.2.1 t ht).2
      have f3 : tA Y6 m 3 = upd (tA Yc m 3) k (tA Y m 23 (p + 48 + k)) := by rw [e6, tA_same, o4 3 (by decide)]
      have fo : ∀ t, t ≠ 3 → t ≠ 25 → tA Y6 m t = tA Yc m t := fun t h1 h3 => by rw [e6, tA_other _ _ h1, o4 t h3]
      refine ih (k + 1) Y6 (by omega) mxa (fun k' hk' => ?_) (fun k' hk' => ?_) (by rw [e6]; exact q4)
      · rw [fo 0 (by decide) (by decide), fo 1 (by decide) (by decide), fo 2 (by decide) (by decide)]
        exact i1 k' hk'
      · rw [f3]
        by_cases c : k' = k
        · subst c
          rw [pk_us]
        · rw [pk_un c]
          exact i2 k' (by omega)
  have l1 : ∀ j k Yc, k + j = 16 → MX m scR Y Yc → I1 Yc k → tI Yc m 25 = nI (p + 3 * k) → tk_X10_passAll_2 st post m (j + 1) Yc (nI k) := by
    intro j
    induction j with
    | zero =>
      intro k Yc hk i0 i1 e
      have : k = 16 := by omega
      subst this
      rw [tk_X10_passAll_2]
      exact ⟨fun _ => ⟨3, l2 2 0 Yc rfl i0 i1 (fun k hk => absurd hk (Nat.not_lt_zero _)) e⟩, fun z => absurd (Int32.le_refl _) z⟩
    | succ j ih =>
      intro k Yc hk i0 i1 e
      have hv : vp_in (nI k) 16 := vp_in_nI (by omega) (by omega)
      rw [tk_X10_passAll_2, show (16 : Int32) = nI 16 from rfl, nI_leI (by omega) (by omega), nI_clamp (by omega)]
      refine ⟨fun z => by omega, fun _ => ⟨hv, m_passR (k26 i0) e (by omega) (fun Y4 mx4 q4 => ⟨hv, fun Y6 e6 => ⟨hv, ?_⟩⟩)⟩⟩
      have mxa : MX m scR Y Y6 := i0.trans ((up mx4).trans (by rw [e6]; exact MX.sF (S := scR) (by unfold scR; omega)))
      have q6 : tI Y6 m 25 = nI (p + 3 * k + 1) := by rw [e6]; exact q4
      refine m_passR (k26 mxa) q6 (by omega) (fun Y7 mx7 q7 => ⟨hv, fun Y9 e9 => ⟨hv, ?_⟩⟩)
      have mxb : MX m scR Y Y9 := mxa.trans ((up mx7).trans (by rw [e9]; exact MX.sF (S := scR) (by unfold scR; omega)))
      have q9 : tI Y9 m 25 = nI (p + 3 * k + 1 + 1) := by rw [e9]; exact q7
      refine m_passR (k26 mxb) q9 (by omega) (fun Y10 mx10 q10 => ⟨hv, fun Y12 e12 x ex => ?_⟩)
      rw [k23 i0] at e6
      rw [k23 mxa] at e9
      rw [k23 mxb] at e12
      rw [ex, show nI k + (1 : Int32) = nI (k + 1) from nI_1 k]
      have o4 : ∀ t, t ≠ 25 → tA Y4 m t = tA Yc m t := fun t ht => (mx4.2.1 t ht).2
      have o7 : ∀ t, t ≠ 25 → tA Y7 m t = tA Y6 m t := fun t ht => (mx7.2.1 t ht).2
      have o10 : ∀ t, t ≠ 25 → tA Y10 m t = tA Y9 m t := fun t ht => (mx10.2.1 t ht).2
      have f0 : tA Y12 m 0 = upd (tA Yc m 0) k (tA Y m 23 (p + 3 * k)) := by rw [e12, tA_other _ _ (by decide), o10 0 (by decide), e9, tA_other _ _ (by decide), o7 0 (by decide), e6, tA_same, o4 0 (by decide)]
      have f1 : tA Y12 m 1 = upd (tA Yc m 1) k (tA Y m 23 (p + 3 * k + 1)) := by rw [e12, tA_other _ _ (by decide), o10 1 (by decide), e9, tA_same, o7 1 (by decide), e6, tA_other _ _ (by decide), o4 1 (by decide)]
      have f2 : tA Y12 m 2 = upd (tA Yc m 2) k (tA Y m 23 (p + 3 * k + 1 + 1)) := by rw [e12, tA_same, o10 2 (by decide), e9, tA_other _ _ (by decide), o7 2 (by decide), e6, tA_other _ _ (by decide), o4 2 (by decide)]
      refine ih (k + 1) Y12 (by omega) (mxb.trans ((up mx10).trans (by rw [e12]; exact MX.sF (S := scR) (by unfold scR; omega)))) (fun k' hk' => ?_) (by rw [e12]; show tI Y10 m 25 = _; rw [q10]; congr 1)
      rw [f0, f1, f2]
      by_cases c : k' = k
      · subst c
        rw [pk_us, pk_us, pk_us]
        exact ⟨rfl, rfl, rfl⟩
      · rw [pk_un c, pk_un c, pk_un c]
        exact i1 k' (by omega)
  exact ⟨17, l1 16 0 Y rfl (MX.refl _ _ _) (fun k hk => absurd hk (Nat.not_lt_zero _)) e25⟩
end PS
