-- THE WHOLE STATE: ways, naps, kept flags, images' ways and naps, how many signs, signs
abbrev GD : Type := (Nat → WD) × ND × (Nat → Bool) × (Nat → Nat → WD) × (Nat → ND) × Nat × (Nat → Nat)
def kd (i : Nat) : Nat := if i = 0 then 9 else if i ≤ 3 then 1 else if i ≤ 9 then 8 else if i ≤ 12 then 2 else if i ≤ 14 then 4 else if i = 15 then 6 else if i = 16 then 3 else if i = 17 then 0 else if i = 18 then 7 else 10
theorem kd_lt (i : Nat) : kd i < 11 ∧ kd i ≠ 5 := by
  unfold kd
  (repeat' split) <;> omega
def SA (st : TS) (A : Nat → Nat) : Prop := (∀ i j, i < 20 → j < 20 → A i = A j → i = j) ∧ st.1 (A 0) 0 = A 1 ∧ st.1 (A 0) 4 = A 16 ∧ st.1 (A 0) 5 = A 17 ∧ st.1 (A 1) 1 = A 10 ∧ st.1 (A 17) 0 = A 10 ∧ st.1 (A 17) 1 = A 18 ∧ (∀ w, w < 2 → st.2 (A 1) 0 w = some (A (4 + w)) ∧ st.2 (A 0) 3 w = some (A (13 + w)) ∧ st.1 (A (13 + w)) 0 = A (4 + w) ∧ st.1 (A (13 + w)) 1 = A 10 ∧ st.1 (A (13 + w)) 2 = A 15) ∧ (∀ n, n < 2 → st.2 (A 0) 1 n = some (A (2 + n)) ∧ st.1 (A (2 + n)) 1 = A (11 + n) ∧ ∀ w, w < 2 → st.2 (A (2 + n)) 0 w = some (A (6 + 2 * n + w)))
def PlS (Y : TY) (A : Nat → Nat) : Prop := (∀ w, w < 2 → (∀ i b, tP Y (A (13 + w)) i = some b → tK Y b = 5) ∧ (∀ i j b, tP Y (A (13 + w)) i = some b → tP Y (A (13 + w)) j = some b → i = j)) ∧ ∀ w u, w < 2 → u < 2 → w ≠ u → ∀ i j b, tP Y (A (13 + w)) i = some b → tP Y (A (13 + u)) j = some b → False
def CI (Y : TY) (A : Nat → Nat) (G : GD) : Prop := (∀ n, n < 2 → tA Y (A 0) 2 n = bI (G.2.2.1 n) ∧ (G.2.2.1 n = true → (∀ w, w < 2 → WayP Y (A (6 + 2 * n + w)) (G.2.2.2.1 n w)) ∧ NapP Y (A (11 + n)) (G.2.2.2.2.1 n))) ∧ PadP Y (A 16) G.2.2.2.2.2.1 G.2.2.2.2.2.2
def Cb (A : Nat → Nat) (Y : TY) (G : GD) : Prop := (∀ i, i < 20 → tK Y (A i) = kd i) ∧ (∀ w, w < 2 → WayP Y (A (4 + w)) (G.1 w)) ∧ NapP Y (A 10) G.2.1 ∧ PlS Y A ∧ CI Y A G
def Cl (A : Nat → Nat) (Y : TY) (G : GD) : Prop := Cb A Y G ∧ ∀ w, w < 2 → PlOK Y (A (13 + w)) (G.1 w) G.2.1
def TP (A : Nat → Nat) (Y : TY) : Nat := cnP Y (A 13) + cnP Y (A 14)
/-- a step of the class: the reference untouched, so many planes made -/
def CS (A : Nat → Nat) (z : Nat) (Y Y' : TY) : Prop := (∀ t, tI Y' (A 19) t = tI Y (A 19) t ∧ tA Y' (A 19) t = tA Y (A 19) t) ∧ TP A Y' = TP A Y + z
theorem CS.refl (A : Nat → Nat) (Y : TY) : CS A 0 Y Y := ⟨fun _ => ⟨rfl, rfl⟩, (Nat.add_zero _).symm⟩
theorem TP_eq {A : Nat → Nat} {Y Y' : TY} (hP : ∀ b, tP Y' b = tP Y b) : TP A Y' = TP A Y := by
  have e1 : cnP Y' (A 13) = cnP Y (A 13) := cnP_eq (fun i _ => by unfold nmB; rw [hP])
  have e2 : cnP Y' (A 14) = cnP Y (A 14) := cnP_eq (fun i _ => by unfold nmB; rw [hP])
  unfold TP
  rw [e1, e2]
theorem CS.trans {A : Nat → Nat} {z u : Nat} {Y Y' Y'' : TY} (h1 : CS A z Y Y') (h2 : CS A u Y' Y'') : CS A (z + u) Y Y'' := ⟨fun t => ⟨(h2.1 t).1.trans (h1.1 t).1, (h2.1 t).2.trans (h1.1 t).2⟩, by rw [h2.2, h1.2, Nat.add_assoc]⟩
def nm (A : Nat → Nat) (I : Nat → Prop) (b : Nat) : Prop := ∃ i, i < 20 ∧ I i ∧ b = A i
section GL
variable {st : TS} {A : Nat → Nat} {Y Y' : TY} {G G' : GD} {I : Nat → Prop}
theorem SA.ne (hS : SA st A) {i j : Nat} (hi : i < 20) (hj : j < 20) (h : i ≠ j) : A i ≠ A j := fun e => h (hS.1 i j hi hj e)
theorem SA.nn (hS : SA st A) {i : Nat} (hi : i < 20) (h : ¬ I i) : ¬ nm A I (A i) := by
  rintro ⟨j, hj, hI, e⟩
  have := hS.1 i j hi hj e
  subst this
  exact h hI
theorem Cb.np (h : Cb A Y G) {b : Nat} (hb : tK Y b = 5) : ¬ nm A I b := by
  rintro ⟨j, hj, hI, e⟩
  have h1 := h.1 j hj
  rw [← e, hb] at h1
  exact (kd_lt j).2 h1.symm
theorem Cb.pc (hS : SA st A) (h : Cb A Y G) {w : Nat} (hw : w < 2) : PC st Y (A (13 + w)) (G.1 w) G.2.1 := by
  obtain ⟨k, hw', hn, pl, ci⟩ := h
  obtain ⟨s1, s2, s3, s4, s5⟩ := hS.2.2.2.2.2.2.2.1 w hw
  unfold PC
  rw [s3, s4, s5]
  refine ⟨?_, ?_, k 10 (by omega), k 15 (by omega), hw' w hw, hn, (pl.1 w hw).1, (pl.1 w hw).2⟩
  · rw [k (13 + w) (by omega)]
    unfold kd
    (repeat' split) <;> omega
  · rw [k (4 + w) (by omega)]
    unfold kd
    (repeat' split) <;> omega
theorem PlOK.keep {p : Nat} {W : WD} {N : ND} (h : PlOK Y p W N) (hP : tP Y' p = tP Y p) (hs : ∀ i b, tP Y p i = some b → (∀ t, tI Y' b t = tI Y b t) ∧ (∀ t, tA Y' b t = tA Y b t)) : PlOK Y' p W N := by
  have fl : ∀ c l h, Fl Y p c l h → Fl Y' p c l h := fun c l h ⟨b, f, h1, h2, h3⟩ => ⟨b, f, by rw [hP]; exact h1, by rw [(hs _ b h1).1]; exact h2, h3⟩
  intro c l b hc hl hb
  rw [hP] at hb
  obtain ⟨f, f1, f2, f3⟩ := h c l b hc hl hb
  refine ⟨f, f1, by rw [(hs _ b hb).1]; exact f2, fun h h1 h2 h3 => ?_⟩
  obtain ⟨g1, g2⟩ := f3 h h1 h2 h3
  exact ⟨fun o ho => by rw [(hs _ b hb).2]; exact g1 o ho, fun l' c' q1 q2 q3 => fl _ _ _ (g2 l' c' q1 q2 q3)⟩
theorem PlOK.frgt {p : Nat} {W : WD} {N : ND} (h48 : hrs W ≤ 48) (h : ∀ i b, i < 125 → tP Y p i = some b → tI Y b 0 = nI 49) : PlOK Y p W N := by
  intro c l b hc hl hb
  exact ⟨49, Nat.le_refl _, h _ b (by omega) hb, fun h h1 h2 => by omega⟩
theorem OX.cs (hS : SA st A) (ox : OX (nm A I) Y Y') (h19 : ¬ I 19) : CS A 0 Y Y' := by
  obtain ⟨o1, o2, o3⟩ := ox.1 (A 19) (hS.nn (by omega) h19)
  refine ⟨fun t => ⟨o1 t, o2 t⟩, ?_⟩
  rw [Nat.add_zero]
  exact TP_eq ox.2.2
theorem PlS.ox (h : PlS Y A) (hK : ∀ b, tK Y' b = tK Y b) (hP : ∀ b, tP Y' b = tP Y b) : PlS Y' A := by
  unfold PlS at h ⊢
  simp only [hK, hP]
  exact h
theorem CI.ox (hS : SA st A) (h : CI Y A G) (ox : OX (nm A I) Y Y') (hI : ∀ i, i < 20 → I i → i = 4 ∨ i = 5 ∨ i = 10 ∨ i = 17 ∨ i = 18) (e : G'.2.2 = G.2.2) : CI Y' A G' := by
  unfold CI at h ⊢
  rw [e]
  have s : ∀ i, i < 20 → ¬ (i = 4 ∨ i = 5 ∨ i = 10 ∨ i = 17 ∨ i = 18) → (∀ t, tI Y' (A i) t = tI Y (A i) t) ∧ (∀ t, tA Y' (A i) t = tA Y (A i) t) := fun i hi q => by
    obtain ⟨o1, o2, o3⟩ := ox.1 (A i) (hS.nn hi (fun z => q (hI i hi z)))
    exact ⟨o1, o2⟩
  refine ⟨fun n hn => ⟨by rw [(s 0 (by omega) (by omega)).2]; exact (h.1 n hn).1, fun hk => ⟨fun w hw => ?_, ?_⟩⟩, h.2.mv (s 16 (by omega) (by omega)).1 (s 16 (by omega) (by omega)).2⟩
  · exact (((h.1 n hn).2 hk).1 w hw).mv (s (6 + 2 * n + w) (by omega) (by omega)).1 (s _ (by omega) (by omega)).2
  · exact ((h.1 n hn).2 hk).2.mv (s (11 + n) (by omega) (by omega)).2
theorem Cb.up (hS : SA st A) (h : Cb A Y G) (ox : OX (nm A I) Y Y') (hw : ∀ w, w < 2 → I (4 + w) → WayP Y' (A (4 + w)) (G'.1 w)) (hw' : ∀ w, w < 2 → ¬ I (4 + w) → G'.1 w = G.1 w) (hn : I 10 → NapP Y' (A 10) G'.2.1) (hn' : ¬ I 10 → G'.2.1 = G.2.1) (hI : CI Y' A G') : Cb A Y' G' := by
  refine ⟨fun i hi => by rw [ox.2.1]; exact h.1 i hi, fun w hw2 => ?_, ?_, h.2.2.2.1.ox ox.2.1 ox.2.2, hI⟩
  · by_cases c : I (4 + w)
    · exact hw w hw2 c
    · rw [hw' w hw2 c]
      exact ox.way (hS.nn (by omega) c) (h.2.1 w hw2)
  · by_cases c : I 10
    · exact hn c
    · rw [hn' c]
      exact ox.nap (hS.nn (by omega) c) h.2.2.1
/-- what plans have is kept, if ways and naps are -/
theorem Cl.ox (hS : SA st A) (h : Cl A Y G) (ox : OX (nm A I) Y Y') (h4 : ¬ I 4) (h5 : ¬ I 5) (h10 : ¬ I 10) (e1 : G'.1 = G.1) (e2 : G'.2.1 = G.2.1) (hI : CI Y' A G') : Cl A Y' G' := by
  refine ⟨h.1.up hS ox (fun w hw q => ?_) (fun w hw q => by rw [e1]) (fun q => absurd q h10) (fun _ => e2) hI, fun w hw => ?_⟩
  · exfalso
    have : w = 0 ∨ w = 1 := by omega
    rcases this with rfl | rfl
    · exact h4 q
    · exact h5 q
  · rw [e1, e2]
    refine (h.2 w hw).keep (ox.2.2 _) (fun i b hb => ?_)
    obtain ⟨o1, o2, o3⟩ := ox.1 b (h.1.np ((h.1.2.2.2.1.1 w hw).1 i b hb))
    exact ⟨o1, o2⟩
theorem Cl.boat (hS : SA st A) (h : Cl A Y G) (ox : OX (nm A (fun i => i = 17 ∨ i = 18)) Y Y') : Cl A Y' G := h.ox hS ox (by omega) (by omega) (by omega) rfl rfl (h.1.2.2.2.2.ox hS ox (fun i _ q => by omega) rfl)
theorem Cb.pf (hS : SA st A) (h : Cb A Y G) {w : Nat} (hw : w < 2) (F : PF st (A (13 + w)) Y Y') (C : PC st Y' (A (13 + w)) (G.1 w) G.2.1) : Cb A Y' G ∧ (∀ u, u < 2 → u ≠ w → tP Y' (A (13 + u)) = tP Y (A (13 + u)) ∧ (PlOK Y (A (13 + u)) (G.1 u) G.2.1 → PlOK Y' (A (13 + u)) (G.1 u) G.2.1)) ∧ (∀ t, tI Y' (A 19) t = tI Y (A 19) t ∧ tA Y' (A 19) t = tA Y (A 19) t) := by
  obtain ⟨k, hw', hn, pl, ci⟩ := id h
  obtain ⟨s1, s2, s3, s4, s5⟩ := hS.2.2.2.2.2.2.2.1 w hw
  obtain ⟨f1, f2, f3, f4, f5, f6⟩ := F
  rw [s5] at f1
  have nopl : ∀ i, i < 20 → ∀ j, tP Y (A (13 + w)) j ≠ some (A i) := fun i hi j e => by
    have := (pl.1 w hw).1 j _ e
    rw [k i hi] at this
    exact (kd_lt i).2 this
  have s : ∀ i, i < 20 → i ≠ 15 → (∀ t, tI Y' (A i) t = tI Y (A i) t) ∧ (∀ t, tA Y' (A i) t = tA Y (A i) t) := fun i hi q => f1 (A i) (by rw [k i hi]; exact (kd_lt i).1) (hS.ne hi (by omega) q) (nopl i hi)
  have oth : ∀ u, u < 2 → u ≠ w → tP Y' (A (13 + u)) = tP Y (A (13 + u)) := fun u hu q => f3 _ (hS.ne (by omega) (by omega) (by omega))
  have keepK : ∀ {b}, tK Y b = 5 → tK Y' b = 5 := fun {b} hb => (f5 b (by rw [hb]; decide)).trans hb
  refine ⟨⟨fun i hi => (f5 _ (by rw [k i hi]; exact (kd_lt i).1)).trans (k i hi), fun u hu => (hw' u hu).mv (s (4 + u) (by omega) (by omega)).1 (s (4 + u) (by omega) (by omega)).2, hn.mv (s 10 (by omega) (by omega)).2, ⟨fun u hu => ?_, fun u v hu hv huv i j b h1 h2 => ?_⟩, ?_⟩, fun u hu q => ⟨oth u hu q, fun ok => ok.keep (oth u hu q) (fun i b hb => ?_)⟩, fun t => ⟨(s 19 (by omega) (by omega)).1 t, (s 19 (by omega) (by omega)).2 t⟩⟩
  · by_cases c : u = w
    · subst c
      exact ⟨C.2.2.2.2.2.2.1, C.2.2.2.2.2.2.2⟩
    · rw [oth u hu c]
      exact ⟨fun i b hb => keepK ((pl.1 u hu).1 i b hb), (pl.1 u hu).2⟩
  · have key : ∀ x, x < 2 → x ≠ w → ∀ i j b, tP Y' (A (13 + w)) i = some b → tP Y' (A (13 + x)) j = some b → False := by
      intro x hx hxw i j b h1 h2
      rw [oth x hx hxw] at h2
      rcases f6 i b h1 with h1 | h1
      · exact pl.2 w x hw hx (Ne.symm hxw) i j b h1 h2
      · exact h1 (by rw [(pl.1 x hx).1 j b h2]; decide)
    by_cases c : u = w
    · subst c
      exact key v hv (Ne.symm huv) i j b h1 h2
    · by_cases c2 : v = w
      · subst c2
        exact key u hu c j i b h2 h1
      · exfalso
        omega
  · refine ⟨fun n hn => ⟨by rw [(s 0 (by omega) (by omega)).2]; exact (ci.1 n hn).1, fun hk => ⟨fun u hu => ?_, ?_⟩⟩, ci.2.mv (s 16 (by omega) (by omega)).1 (s 16 (by omega) (by omega)).2⟩
    · exact (((ci.1 n hn).2 hk).1 u hu).mv (s (6 + 2 * n + u) (by omega) (by omega)).1 (s _ (by omega) (by omega)).2
    · exact ((ci.1 n hn).2 hk).2.mv (s (11 + n) (by omega) (by omega)).2
  · have hb5 := (pl.1 u hu).1 i b hb
    refine f1 b (by rw [hb5]; decide) (fun e => ?_) (fun j e => pl.2 w u hw hu (Ne.symm q) j i b e hb)
    rw [e, k 15 (by omega)] at hb5
    exact absurd hb5 (by decide)
theorem cnP_other {w : Nat} (hw : w < 2) {z : Nat} (ho : ∀ u, u < 2 → u ≠ w → tP Y' (A (13 + u)) = tP Y (A (13 + u))) (hz : cnP Y' (A (13 + w)) = cnP Y (A (13 + w)) + z) : TP A Y' = TP A Y + z := by
  unfold TP
  have : w = 0 ∨ w = 1 := by omega
  rcases this with rfl | rfl
  · have e : cnP Y' (A 14) = cnP Y (A 14) := cnP_eq (fun i _ => by unfold nmB; rw [ho 1 (by omega) (by omega)])
    have hz : cnP Y' (A 13) = cnP Y (A 13) + z := hz
    omega
  · have e : cnP Y' (A 13) = cnP Y (A 13) := cnP_eq (fun i _ => by unfold nmB; rw [ho 0 (by omega) (by omega)])
    have hz : cnP Y' (A 14) = cnP Y (A 14) + z := hz
    omega
/-- a plan was asked -/
theorem Cl.pf (hS : SA st A) (h : Cl A Y G) {w : Nat} (hw : w < 2) (F : PF st (A (13 + w)) Y Y') (C : PC st Y' (A (13 + w)) (G.1 w) G.2.1) (O : PlOK Y' (A (13 + w)) (G.1 w) G.2.1) {z : Nat} (hz : cnP Y' (A (13 + w)) = cnP Y (A (13 + w)) + z) : Cl A Y' G ∧ CS A z Y Y' := by
  obtain ⟨b1, b2, b3⟩ := h.1.pf hS hw F C
  refine ⟨⟨b1, fun u hu => ?_⟩, b3, cnP_other hw (fun u hu q => (b2 u hu q).1) hz⟩
  by_cases c : u = w
  · subst c
    exact O
  · exact (b2 u hu c).2 (h.2 u hu)
theorem cnP_zz {p : Nat} {W : WD} {h b l : Nat} (e : ∀ i, i < 125 → nmB Y' p i = tgB Y p W h b l i) : cnP Y' p = cnP Y p + zzP Y p W h b l := by
  have h1 : cnP Y' p = cnB (tgB Y p W h b l) 125 := by
    unfold cnP
    exact cnB_congr e
  have h2 : cnP Y p ≤ cnB (tgB Y p W h b l) 125 := cnP_le (fun i _ q => by unfold tgB; rw [q]; rfl)
  unfold zzP
  omega
theorem cnP_125 (Y : TY) (p : Nat) : cnP Y p ≤ 125 := by
  unfold cnP
  exact cnB_le
/-- a plan was forgotten -/
theorem Cb.fg (hS : SA st A) (h : Cb A Y G) {w : Nat} (hw : w < 2) (F : PF st (A (13 + w)) Y Y') (hP : tP Y' (A (13 + w)) = tP Y (A (13 + w))) (h49 : ∀ i b, i < 125 → tP Y (A (13 + w)) i = some b → tI Y' b 0 = nI 49) : Cb A Y' G ∧ CS A 0 Y Y' ∧ PlOK Y' (A (13 + w)) (G.1 w) G.2.1 ∧ (∀ u, u < 2 → u ≠ w → PlOK Y (A (13 + u)) (G.1 u) G.2.1 → PlOK Y' (A (13 + u)) (G.1 u) G.2.1) := by
  have C := (h.pc hS hw).same F hP
  obtain ⟨b1, b2, b3⟩ := h.pf hS hw F C
  refine ⟨b1, ⟨b3, cnP_other hw (fun u hu q => (b2 u hu q).1) ?_⟩, PlOK.frgt (h.2.1 w hw).1.2.1 (fun i b hi hb => h49 i b hi (by rw [← hP]; exact hb)), fun u hu q => (b2 u hu q).2⟩
  rw [Nat.add_zero]
  exact cnP_eq (fun i _ => by unfold nmB; rw [hP])
end GL
-- the reference
def KP (Y : TY) (m n : Nat) (W : Nat → WD) (N : ND) : Prop := (∀ w, w < 2 → tA Y m 23 (60 * n + 48 + w) = nI (W w).1 ∧ ∀ k, k < (W w).1 → tA Y m 23 (60 * n + 3 * (8 * w + k)) = nI ((W w).2.1 k) ∧ tA Y m 23 (60 * n + 3 * (8 * w + k) + 1) = nI ((W w).2.2.1 k) ∧ tA Y m 23 (60 * n + 3 * (8 * w + k) + 2) = nI ((W w).2.2.2 k)) ∧ ∀ k, 1 ≤ k → k ≤ 3 → tA Y m 23 (60 * n + 50 + 2 * (k - 1)) = nI (N.1 k) ∧ tA Y m 23 (60 * n + 51 + 2 * (k - 1)) = nI (N.2 k)
def Mo (m : Nat) (Y : TY) (G : GD) : Prop := (∀ w, w < 2 → wfW (G.1 w) ∧ MWP Y m w (G.1 w) ∧ (tA Y m 20 w = 0 ∨ (tA Y m 20 w = 1 ∧ Laid Y m w (G.1 w) G.2.1))) ∧ wfN G.2.1 ∧ MNP Y m G.2.1 ∧ MPP Y m G.2.2.2.2.2.1 G.2.2.2.2.2.2 ∧ ∀ n, n < 2 → tA Y m 24 n = bI (G.2.2.1 n) ∧ (G.2.2.1 n = true → (∀ w, w < 2 → wfW (G.2.2.2.1 n w)) ∧ wfN (G.2.2.2.2.1 n) ∧ KP Y m n (G.2.2.2.1 n) (G.2.2.2.2.1 n))
theorem Laid.mv {Y Y' : TY} {m w : Nat} {W : WD} {N : ND} (h : Laid Y m w W N) (e : tA Y' m 19 = tA Y m 19) : Laid Y' m w W N := by
  unfold Laid at h ⊢
  rw [e]
  exact h
theorem KP.mv {Y Y' : TY} {m n : Nat} {W : Nat → WD} {N : ND} (h : KP Y m n W N) (e : tA Y' m 23 = tA Y m 23) : KP Y' m n W N := by
  unfold KP at h ⊢
  rw [e]
  exact h
theorem Mo.mv {m : Nat} {Y Y' : TY} {G : GD} (h : Mo m Y G) (hI : ∀ t, tI Y' m t = tI Y m t) (hA : ∀ t, tA Y' m t = tA Y m t) : Mo m Y' G := by
  unfold Mo Laid KP MWP MNP MPP at h ⊢
  simp only [hI, hA]
  exact h
/-- a step of the reference: all else untouched -/
def MS (A : Nat → Nat) (Y Y' : TY) : Prop := (∀ b, b ≠ A 19 → (∀ t, tI Y' b t = tI Y b t) ∧ (∀ t, tA Y' b t = tA Y b t)) ∧ (∀ b, tK Y' b = tK Y b) ∧ (∀ b, tP Y' b = tP Y b)
theorem MX.ms {A : Nat → Nat} {S : Nat → Prop} {Y Y' : TY} (h : MX (A 19) S Y Y') : MS A Y Y' := ⟨h.1, h.2.2.1, h.2.2.2.1⟩
theorem MS.refl (A : Nat → Nat) (Y : TY) : MS A Y Y := ⟨fun _ _ => ⟨fun _ => rfl, fun _ => rfl⟩, fun _ => rfl, fun _ => rfl⟩
theorem MS.trans {A : Nat → Nat} {Y Y' Y'' : TY} (h1 : MS A Y Y') (h2 : MS A Y' Y'') : MS A Y Y'' := ⟨fun b hb => ⟨fun t => ((h2.1 b hb).1 t).trans ((h1.1 b hb).1 t), fun t => ((h2.1 b hb).2 t).trans ((h1.1 b hb).2 t)⟩, fun b => (h2.2.1 b).trans (h1.2.1 b), fun b => (h2.2.2 b).trans (h1.2.2 b)⟩
theorem Cl.ms {st : TS} {A : Nat → Nat} {Y Y' : TY} {G : GD} (hS : SA st A) (h : Cl A Y G) (hm : MS A Y Y') : Cl A Y' G ∧ TP A Y' = TP A Y := by
  have s : ∀ i, i < 19 → (∀ t, tI Y' (A i) t = tI Y (A i) t) ∧ (∀ t, tA Y' (A i) t = tA Y (A i) t) := fun i hi => hm.1 _ (hS.ne (by omega) (by omega) (by omega))
  obtain ⟨⟨k, hw, hn, pl, ci⟩, ok⟩ := h
  refine ⟨⟨⟨fun i hi => (hm.2.1 _).trans (k i hi), fun u hu => (hw u hu).mv (s (4 + u) (by omega)).1 (s (4 + u) (by omega)).2, hn.mv (s 10 (by omega)).2, pl.ox hm.2.1 hm.2.2, ⟨fun n hn => ⟨by rw [(s 0 (by omega)).2]; exact (ci.1 n hn).1, fun hk => ⟨fun u hu => ?_, ?_⟩⟩, ci.2.mv (s 16 (by omega)).1 (s 16 (by omega)).2⟩⟩, fun u hu => (ok u hu).keep (hm.2.2 _) (fun i b hb => hm.1 b (fun e => ?_))⟩, ?_⟩
  · exact (((ci.1 n hn).2 hk).1 u hu).mv (s (6 + 2 * n + u) (by omega)).1 (s _ (by omega)).2
  · exact ((ci.1 n hn).2 hk).2.mv (s (11 + n) (by omega)).2
  · have h5 := (pl.1 u hu).1 i b hb
    rw [e, k 19 (by omega)] at h5
    exact absurd h5 (by decide)
  · exact TP_eq hm.2.2
/-- scratch slots alone -/
theorem Mo.mx {m : Nat} {S : Nat → Prop} {Y Y' : TY} {G : GD} (h : Mo m Y G) (hx : MX m S Y Y') (hs : ∀ t, S t → (11 ≤ t ∧ t ≤ 18) ∨ t = 21 ∨ t = 22 ∨ t = 25 ∨ t = 26) : Mo m Y' G := by
  have e : ∀ t, ¬ ((11 ≤ t ∧ t ≤ 18) ∨ t = 21 ∨ t = 22 ∨ t = 25 ∨ t = 26) → tI Y' m t = tI Y m t ∧ tA Y' m t = tA Y m t := fun t q => hx.2.1 t (fun z => q (hs t z))
  obtain ⟨h1, h2, h3, h4, h5⟩ := h
  refine ⟨fun w hw => ?_, h2, hx.mn (fun t q1 q2 z => by have := hs t z; omega) h3, hx.mp (fun t q1 q2 z => by have := hs t z; omega) h4, fun n hn => ?_⟩
  · obtain ⟨a1, a2, a3⟩ := h1 w hw
    refine ⟨a1, hx.mw (fun t q z => by have := hs t z; omega) a2, ?_⟩
    rw [(e 20 (by omega)).2]
    rcases a3 with a3 | ⟨a3, a4⟩
    · exact Or.inl a3
    · exact Or.inr ⟨a3, a4.mv (e 19 (by omega)).2⟩
  · obtain ⟨b1, b2⟩ := h5 n hn
    exact ⟨by rw [(e 24 (by omega)).2]; exact b1, fun hk => ⟨(b2 hk).1, (b2 hk).2.1, (b2 hk).2.2.mv (e 23 (by omega)).2⟩⟩
theorem Mo.bx {A : Nat → Nat} {Y Y' : TY} {G : GD} {w : Nat} (h : Mo (A 19) Y G) (hw : w < 2) (hx : BX Y (A 19) w (G.1 w) G.2.1 Y') : Mo (A 19) Y' G ∧ MS A Y Y' := by
  obtain ⟨h1, h2, h3, h4, h5⟩ := h
  have eI := hx.tI
  have e : ∀ t, t ≠ 19 → t ≠ 20 → tA Y' (A 19) t = tA Y (A 19) t := fun t q1 q2 => hx.tA (Or.inr ⟨q1, q2⟩)
  have i : ∀ b t, tI Y' b t = tI Y b t := fun b t => by unfold tI; rw [eI.2.1]
  refine ⟨⟨fun u hu => ?_, h2, hx.n h3, ?_, fun n hn => ?_⟩, fun b hb => ⟨fun t => i b t, fun t => hx.tA (Or.inl hb)⟩, fun b => by unfold tK; rw [eI.1], fun b => by unfold tP; rw [eI.2.2]⟩
  · obtain ⟨a1, a2, a3⟩ := h1 u hu
    refine ⟨a1, hx.m a2, ?_⟩
    by_cases c : u = w
    · subst c
      exact Or.inr hx.laid
    · exact hx.other (by omega) (by omega) c a1.2.1 a3
  · unfold MPP at h4 ⊢
    rw [i, e 9 (by decide) (by decide)]
    exact h4
  · obtain ⟨b1, b2⟩ := h5 n hn
    exact ⟨by rw [e 24 (by decide) (by decide)]; exact b1, fun hk => ⟨(b2 hk).1, (b2 hk).2.1, (b2 hk).2.2.mv (e 23 (by decide) (by decide))⟩⟩
