-- THE LAW'S LOOP
def LI (st : TS) (A : Nat → Nat) (X : Hp) (kc ks : Nat) : Prop := ∃ aa Y G, Rel st aa Y X ∧ Cl A Y G ∧ Mo (A 19) Y G ∧ kc ≤ 88 + 2 * TP A Y ∧ ks ≤ 260001 + 1031 * TP A Y
section LL
variable {st : TS} {A : Nat → Nat} {X : Hp} {kc ks : Nat} {v1 v2 v3 v4 v5 : Int32}
theorem LI.room (h : LI st A X kc ks) : kc ≤ 600000 ∧ ks ≤ 7302249 := by
  obtain ⟨aa, Y, G, R, hC, hM, h1, h2⟩ := h
  have := TP_250 A Y
  omega
theorem LI.o9 (h : LI st A X kc ks) : ∃ fs, Hs X (A 0) (.inr (9, fs)) := by
  obtain ⟨aa, Y, G, R, hC, hM, h1, h2⟩ := h
  exact ⟨_, ob_9 R (hC.1.1 0 (by omega))⟩
theorem l_leg {P : Hp → Prop} {Q : Int32 → Hp → Prop} (hS : SA st A) (I : LI st A X kc ks) (hp : ∀ X', LI st A X' kc ks → P X') (hQ : ∀ r X1, (∃ fs, Hs X1 (A 19) (.inr (10, fs))) → wp_X10_leg (fun r2 X2 => (r = r2 → P X2) ∧ (¬ r = r2 → False)) X1 (A 19) v1 v2 v3 v4 → Q r X1) : wp_X9_leg Q X (A 0) v1 v2 v3 v4 := by
  obtain ⟨aa, Y, G, R, hC, hM, h1, h2⟩ := I
  refine t_X9_leg (postT := fun r Y' => r = (sLeg G v1 v2 v3 v4).1 ∧ Cl A Y' (sLeg G v1 v2 v3 v4).2 ∧ CS A 0 Y Y') R (hC.1.1 0 (by omega)) (k_leg hS hC (fun Y' h1 h2 => ⟨rfl, h1, h2⟩)) (fun r Y1 X1 hh R1 _ => ?_)
  obtain ⟨e1, hC1, cs⟩ := hh
  have hM1 := hM.mv (fun t => (cs.1 t).1) (fun t => (cs.1 t).2)
  have k19 : tK Y1 (A 19) = 10 := hC1.1.1 19 (by omega)
  refine hQ r X1 ⟨_, ob_10 R1 k19⟩ (t_X10_leg (postT := fun r Y' => r = (sLeg G v1 v2 v3 v4).1 ∧ Mo (A 19) Y' (sLeg G v1 v2 v3 v4).2 ∧ MS A Y1 Y') R1 k19 (j_leg hM1 (fun Y' h1 h2 => ⟨rfl, h1, h2⟩)) (fun r2 Y2 X2 hh R2 _ => ?_))
  obtain ⟨e2, hM2, ms⟩ := hh
  obtain ⟨hC2, tp⟩ := hC1.ms hS ms
  have tp2 := cs.2
  exact ⟨fun _ => hp X2 ⟨_, Y2, _, R2, hC2, hM2, by omega, by omega⟩, fun q => q (e1.trans e2.symm)⟩
theorem l_cut {P : Hp → Prop} {Q : Int32 → Hp → Prop} (hS : SA st A) (I : LI st A X kc ks) (hp : ∀ X', LI st A X' kc ks → P X') (hQ : ∀ r X1, (∃ fs, Hs X1 (A 19) (.inr (10, fs))) → wp_X10_cut (fun r2 X2 => (r = r2 → P X2) ∧ (¬ r = r2 → False)) X1 (A 19) v1 → Q r X1) : wp_X9_cut Q X (A 0) v1 := by
  obtain ⟨aa, Y, G, R, hC, hM, h1, h2⟩ := I
  refine t_X9_cut (postT := fun r Y' => r = (sCut G v1).1 ∧ Cl A Y' (sCut G v1).2 ∧ CS A 0 Y Y') R (hC.1.1 0 (by omega)) (k_cut hS hC (fun Y' h1 h2 => ⟨rfl, h1, h2⟩)) (fun r Y1 X1 hh R1 _ => ?_)
  obtain ⟨e1, hC1, cs⟩ := hh
  have hM1 := hM.mv (fun t => (cs.1 t).1) (fun t => (cs.1 t).2)
  have k19 : tK Y1 (A 19) = 10 := hC1.1.1 19 (by omega)
  refine hQ r X1 ⟨_, ob_10 R1 k19⟩ (t_X10_cut (postT := fun r Y' => r = (sCut G v1).1 ∧ Mo (A 19) Y' (sCut G v1).2 ∧ MS A Y1 Y') R1 k19 (j_cut hM1 (fun Y' h1 h2 => ⟨rfl, h1, h2⟩)) (fun r2 Y2 X2 hh R2 _ => ?_))
  obtain ⟨e2, hM2, ms⟩ := hh
  obtain ⟨hC2, tp⟩ := hC1.ms hS ms
  have tp2 := cs.2
  exact ⟨fun _ => hp X2 ⟨_, Y2, _, R2, hC2, hM2, by omega, by omega⟩, fun q => q (e1.trans e2.symm)⟩
theorem l_about {P : Prop} {Q : Int32 → Prop} (hS : SA st A) (I : LI st A X kc ks) (hp : P) (hQ : ∀ r, (∃ fs, Hs X (A 19) (.inr (10, fs))) → wp_X10_about (fun r2 => (r = r2 → P) ∧ (¬ r = r2 → False)) X (A 19) v1 v2 v3 → Q r) : wp_X9_about Q X (A 0) v1 v2 v3 := by
  obtain ⟨aa, Y, G, R, hC, hM, h1, h2⟩ := I
  have k19 : tK Y (A 19) = 10 := hC.1.1 19 (by omega)
  refine t_X9_about (postT := fun r => r = sAbout G v1 v2 v3) R (hC.1.1 0 (by omega)) (k_about hS hC rfl) (fun r e1 => ?_)
  refine hQ r ⟨_, ob_10 R k19⟩ (t_X10_about (postT := fun r => r = sAbout G v1 v2 v3) R k19 (j_about hM rfl) (fun r2 e2 => ?_))
  exact ⟨fun _ => hp, fun q => q (e1.trans e2.symm)⟩
theorem l_nap {P : Hp → Prop} {Q : Int32 → Hp → Prop} (hS : SA st A) (I : LI st A X kc ks) (hp : ∀ X', LI st A X' kc ks → P X') (hQ : ∀ r X1, (∃ fs, Hs X1 (A 19) (.inr (10, fs))) → wp_X10_nap (fun r2 X2 => (r = r2 → P X2) ∧ (¬ r = r2 → False)) X1 (A 19) v1 v2 v3 → Q r X1) : wp_X9_nap Q X (A 0) v1 v2 v3 := by
  obtain ⟨aa, Y, G, R, hC, hM, h1, h2⟩ := I
  refine t_X9_nap (postT := fun r Y' => r = (sNap G v1 v2 v3).1 ∧ Cl A Y' (sNap G v1 v2 v3).2 ∧ CS A 0 Y Y') R (hC.1.1 0 (by omega)) (k_nap hS hC (fun Y' h1 h2 => ⟨rfl, h1, h2⟩)) (fun r Y1 X1 hh R1 _ => ?_)
  obtain ⟨e1, hC1, cs⟩ := hh
  have hM1 := hM.mv (fun t => (cs.1 t).1) (fun t => (cs.1 t).2)
  have k19 : tK Y1 (A 19) = 10 := hC1.1.1 19 (by omega)
  refine hQ r X1 ⟨_, ob_10 R1 k19⟩ (t_X10_nap (postT := fun r Y' => r = (sNap G v1 v2 v3).1 ∧ Mo (A 19) Y' (sNap G v1 v2 v3).2 ∧ MS A Y1 Y') R1 k19 (j_nap hM1 (fun Y' h1 h2 => ⟨rfl, h1, h2⟩)) (fun r2 Y2 X2 hh R2 _ => ?_))
  obtain ⟨e2, hM2, ms⟩ := hh
  obtain ⟨hC2, tp⟩ := hC1.ms hS ms
  have tp2 := cs.2
  exact ⟨fun _ => hp X2 ⟨_, Y2, _, R2, hC2, hM2, by omega, by omega⟩, fun q => q (e1.trans e2.symm)⟩
theorem l_owed {P : Prop} {Q : Int32 → Prop} (hS : SA st A) (I : LI st A X kc ks) (hp : P) (hQ : ∀ r, (∃ fs, Hs X (A 19) (.inr (10, fs))) → wp_X10_owed (fun r2 => (r = r2 → P) ∧ (¬ r = r2 → False)) X (A 19) v1 v2 v3 v4 → Q r) : wp_X9_owed Q X (A 0) v1 v2 v3 v4 := by
  obtain ⟨aa, Y, G, R, hC, hM, h1, h2⟩ := I
  have k19 : tK Y (A 19) = 10 := hC.1.1 19 (by omega)
  refine t_X9_owed (postT := fun r => r = sOwed G v1 v2 v3 v4) R (hC.1.1 0 (by omega)) (k_owed hS hC rfl) (fun r e1 => ?_)
  refine hQ r ⟨_, ob_10 R k19⟩ (t_X10_owed (postT := fun r => r = sOwed G v1 v2 v3 v4) R k19 (j_owed hM rfl) (fun r2 e2 => ?_))
  exact ⟨fun _ => hp, fun q => q (e1.trans e2.symm)⟩
theorem l_risk {P : Prop} {Q : Int32 → Prop} (hS : SA st A) (I : LI st A X kc ks) (hp : P) (hQ : ∀ r, (∃ fs, Hs X (A 19) (.inr (10, fs))) → wp_X10_risk (fun r2 => (r = r2 → P) ∧ (¬ r = r2 → False)) X (A 19) v1 v2 v3 v4 v5 → Q r) : wp_X9_risk Q X (A 0) v1 v2 v3 v4 v5 := by
  obtain ⟨aa, Y, G, R, hC, hM, h1, h2⟩ := I
  have k19 : tK Y (A 19) = 10 := hC.1.1 19 (by omega)
  refine t_X9_risk (postT := fun r => r = sRisk G v1 v2 v3 v4 v5) R (hC.1.1 0 (by omega)) (k_risk hS hC rfl) (fun r e1 => ?_)
  refine hQ r ⟨_, ob_10 R k19⟩ (t_X10_risk (postT := fun r => r = sRisk G v1 v2 v3 v4 v5) R k19 (j_risk hM rfl) (fun r2 e2 => ?_))
  exact ⟨fun _ => hp, fun q => q (e1.trans e2.symm)⟩
theorem l_say {P : Hp → Prop} {Q : Int32 → Hp → Prop} (hS : SA st A) (I : LI st A X kc ks) (hp : ∀ X', LI st A X' kc ks → P X') (hQ : ∀ r X1, (∃ fs, Hs X1 (A 19) (.inr (10, fs))) → wp_X10_say (fun r2 X2 => (r = r2 → P X2) ∧ (¬ r = r2 → False)) X1 (A 19) v1 → Q r X1) : wp_X9_say Q X (A 0) v1 := by
  obtain ⟨aa, Y, G, R, hC, hM, h1, h2⟩ := I
  refine t_X9_say (postT := fun r Y' => r = (sSay G v1).1 ∧ Cl A Y' (sSay G v1).2 ∧ CS A 0 Y Y') R (hC.1.1 0 (by omega)) (k_say hS hC (fun Y' h1 h2 => ⟨rfl, h1, h2⟩)) (fun r Y1 X1 hh R1 _ => ?_)
  obtain ⟨e1, hC1, cs⟩ := hh
  have hM1 := hM.mv (fun t => (cs.1 t).1) (fun t => (cs.1 t).2)
  have k19 : tK Y1 (A 19) = 10 := hC1.1.1 19 (by omega)
  refine hQ r X1 ⟨_, ob_10 R1 k19⟩ (t_X10_say (postT := fun r Y' => r = (sSay G v1).1 ∧ Mo (A 19) Y' (sSay G v1).2 ∧ MS A Y1 Y') R1 k19 (j_say hM1 (fun Y' h1 h2 => ⟨rfl, h1, h2⟩)) (fun r2 Y2 X2 hh R2 _ => ?_))
  obtain ⟨e2, hM2, ms⟩ := hh
  obtain ⟨hC2, tp⟩ := hC1.ms hS ms
  have tp2 := cs.2
  exact ⟨fun _ => hp X2 ⟨_, Y2, _, R2, hC2, hM2, by omega, by omega⟩, fun q => q (e1.trans e2.symm)⟩
theorem l_wipe {P : Hp → Prop} {Q : Int32 → Hp → Prop} (hS : SA st A) (I : LI st A X kc ks) (hp : ∀ X', LI st A X' kc ks → P X') (hQ : ∀ r X1, (∃ fs, Hs X1 (A 19) (.inr (10, fs))) → wp_X10_wipe (fun r2 X2 => (r = r2 → P X2) ∧ (¬ r = r2 → False)) X1 (A 19) → Q r X1) : wp_X9_wipe Q X (A 0) := by
  obtain ⟨aa, Y, G, R, hC, hM, h1, h2⟩ := I
  refine t_X9_wipe (postT := fun r Y' => r = (sWipe G).1 ∧ Cl A Y' (sWipe G).2 ∧ CS A 0 Y Y') R (hC.1.1 0 (by omega)) (k_wipe hS hC (fun Y' h1 h2 => ⟨rfl, h1, h2⟩)) (fun r Y1 X1 hh R1 _ => ?_)
  obtain ⟨e1, hC1, cs⟩ := hh
  have hM1 := hM.mv (fun t => (cs.1 t).1) (fun t => (cs.1 t).2)
  have k19 : tK Y1 (A 19) = 10 := hC1.1.1 19 (by omega)
  refine hQ r X1 ⟨_, ob_10 R1 k19⟩ (t_X10_wipe (postT := fun r Y' => r = (sWipe G).1 ∧ Mo (A 19) Y' (sWipe G).2 ∧ MS A Y1 Y') R1 k19 (j_wipe hM1 (fun Y' h1 h2 => ⟨rfl, h1, h2⟩)) (fun r2 Y2 X2 hh R2 _ => ?_))
  obtain ⟨e2, hM2, ms⟩ := hh
  obtain ⟨hC2, tp⟩ := hC1.ms hS ms
  have tp2 := cs.2
  exact ⟨fun _ => hp X2 ⟨_, Y2, _, R2, hC2, hM2, by omega, by omega⟩, fun q => q (e1.trans e2.symm)⟩
theorem l_fault {P : Prop} {Q : Int32 → Prop} (hS : SA st A) (I : LI st A X kc ks) (hp : P) (hQ : ∀ r, (∃ fs, Hs X (A 19) (.inr (10, fs))) → wp_X10_fault (fun r2 => (r = r2 → P) ∧ (¬ r = r2 → False)) X (A 19) → Q r) : wp_X9_fault Q X (A 0) := by
  obtain ⟨aa, Y, G, R, hC, hM, h1, h2⟩ := I
  have k19 : tK Y (A 19) = 10 := hC.1.1 19 (by omega)
  refine t_X9_fault (postT := fun r => r = sFault G) R (hC.1.1 0 (by omega)) (k_fault hS hC rfl) (fun r e1 => ?_)
  refine hQ r ⟨_, ob_10 R k19⟩ (t_X10_fault (postT := fun r => r = sFault G) R k19 (j_fault hM rfl) (fun r2 e2 => ?_))
  exact ⟨fun _ => hp, fun q => q (e1.trans e2.symm)⟩
theorem l_judge {P : Hp → Prop} {Q : Int32 → Hp → Prop} (hS : SA st A) (I : LI st A X kc ks) (hp : ∀ X', LI st A X' kc ks → P X') (hQ : ∀ r X1, (∃ fs, Hs X1 (A 19) (.inr (10, fs))) → wp_X10_judge (fun r2 X2 => (r = r2 → P X2) ∧ (¬ r = r2 → False)) X1 (A 19) v1 v2 v3 v4 → Q r X1) : wp_X9_judge Q X (A 0) v1 v2 v3 v4 := by
  obtain ⟨aa, Y, G, R, hC, hM, h1, h2⟩ := I
  refine t_X9_judge (postT := fun r Y' => r = sJudge G v1 v2 v3 v4 ∧ Cl A Y' G ∧ CS A 0 Y Y') R (hC.1.1 0 (by omega)) (k_judge hS hC (fun Y' h1 h2 => ⟨rfl, h1, h2⟩)) (fun r Y1 X1 hh R1 _ => ?_)
  obtain ⟨e1, hC1, cs⟩ := hh
  have hM1 := hM.mv (fun t => (cs.1 t).1) (fun t => (cs.1 t).2)
  have k19 : tK Y1 (A 19) = 10 := hC1.1.1 19 (by omega)
  refine hQ r X1 ⟨_, ob_10 R1 k19⟩ (t_X10_judge (postT := fun r Y' => r = sJudge G v1 v2 v3 v4 ∧ Mo (A 19) Y' G ∧ MS A Y1 Y') R1 k19 (j_judge hM1 (fun Y' h1 h2 => ⟨rfl, h1, h2⟩)) (fun r2 Y2 X2 hh R2 _ => ?_))
  obtain ⟨e2, hM2, ms⟩ := hh
  obtain ⟨hC2, tp⟩ := hC1.ms hS ms
  have tp2 := cs.2
  exact ⟨fun _ => hp X2 ⟨_, Y2, _, R2, hC2, hM2, by omega, by omega⟩, fun q => q (e1.trans e2.symm)⟩
theorem l_best {P : Nat → Nat → Hp → Prop} {Q : Nat → Nat → Int32 → Hp → Prop} (hS : SA st A) (I : LI st A X kc ks) (hp : ∀ X' kc' ks', LI st A X' kc' ks' → P kc' ks' X') (hQ : ∀ m1 m2 r X1, kc + m1 ≤ 600000 → ks + m2 ≤ 7302249 → (∃ fs, Hs X1 (A 19) (.inr (10, fs))) → wp_X10_best (fun r2 X2 => (r = r2 → P (kc + m1) (ks + m2) X2) ∧ (¬ r = r2 → False)) X1 (A 19) v1 v2 v3 v4 v5 → Q m1 m2 r X1) : ∃ m1 m2 : Nat, kc + m1 ≤ 600000 ∧ ks + m2 ≤ 7302249 ∧ wp_X9_best (Q m1 m2) m1 m2 X (A 0) v1 v2 v3 v4 v5 := by
  obtain ⟨aa, Y, G, R, hC, hM, h1, h2⟩ := I
  have zl : TP A Y + zBest A Y G v1 v2 v3 v4 v5 ≤ 250 := zBest_le
  have r1 : kc + 2 * zBest A Y G v1 v2 v3 v4 v5 ≤ 600000 := by omega
  have r2 : ks + 1031 * zBest A Y G v1 v2 v3 v4 v5 ≤ 7302249 := by omega
  refine ⟨2 * zBest A Y G v1 v2 v3 v4 v5, 1031 * zBest A Y G v1 v2 v3 v4 v5, r1, r2, ?_⟩
  refine t_X9_best (postT := fun r Y' => r = sBest G v1 v2 v3 v4 v5 ∧ Cl A Y' G ∧ CS A (zBest A Y G v1 v2 v3 v4 v5) Y Y') R (hC.1.1 0 (by omega)) (k_best hS hC (Nat.le_refl _) (Nat.le_refl _) (fun Y' h1 h2 => ⟨rfl, h1, h2⟩)) (fun r Y1 X1 aa1 hh R1 _ => ?_)
  obtain ⟨e1, hC1, cs⟩ := hh
  have hM1 := hM.mv (fun t => (cs.1 t).1) (fun t => (cs.1 t).2)
  have k19 : tK Y1 (A 19) = 10 := hC1.1.1 19 (by omega)
  refine hQ _ _ r X1 r1 r2 ⟨_, ob_10 R1 k19⟩ (t_X10_best (postT := fun r Y' => r = sBest G v1 v2 v3 v4 v5 ∧ Mo (A 19) Y' G ∧ MS A Y1 Y') R1 k19 (j_best hM1 (fun Y' h1 h2 => ⟨rfl, h1, h2⟩)) (fun r2 Y2 X2 hh R2 _ => ?_))
  obtain ⟨e2, hM2, ms⟩ := hh
  obtain ⟨hC2, tp⟩ := hC1.ms hS ms
  have tp2 := cs.2
  exact ⟨fun _ => hp X2 _ _ ⟨_, Y2, _, R2, hC2, hM2, by omega, by omega⟩, fun q => q (e1.trans e2.symm)⟩
theorem l_does {P : Nat → Nat → Hp → Prop} {Q : Nat → Nat → Int32 → Hp → Prop} (hS : SA st A) (I : LI st A X kc ks) (hp : ∀ X' kc' ks', LI st A X' kc' ks' → P kc' ks' X') (hQ : ∀ m1 m2 r X1, kc + m1 ≤ 600000 → ks + m2 ≤ 7302249 → (∃ fs, Hs X1 (A 19) (.inr (10, fs))) → wp_X10_does (fun r2 X2 => (r = r2 → P (kc + m1) (ks + m2) X2) ∧ (¬ r = r2 → False)) X1 (A 19) v1 v2 v3 v4 v5 → Q m1 m2 r X1) : ∃ m1 m2 : Nat, kc + m1 ≤ 600000 ∧ ks + m2 ≤ 7302249 ∧ wp_X9_does (Q m1 m2) m1 m2 X (A 0) v1 v2 v3 v4 v5 := by
  obtain ⟨aa, Y, G, R, hC, hM, h1, h2⟩ := I
  have zl : TP A Y + zBest A Y G v1 v2 v3 v4 v5 ≤ 250 := zBest_le
  have r1 : kc + 2 * zBest A Y G v1 v2 v3 v4 v5 ≤ 600000 := by omega
  have r2 : ks + 1031 * zBest A Y G v1 v2 v3 v4 v5 ≤ 7302249 := by omega
  refine ⟨2 * zBest A Y G v1 v2 v3 v4 v5, 1031 * zBest A Y G v1 v2 v3 v4 v5, r1, r2, ?_⟩
  refine t_X9_does (postT := fun r Y' => r = sDoes G v1 v2 v3 v4 v5 ∧ Cl A Y' G ∧ CS A (zBest A Y G v1 v2 v3 v4 v5) Y Y') R (hC.1.1 0 (by omega)) (k_does hS hC (Nat.le_refl _) (Nat.le_refl _) (fun Y' h1 h2 => ⟨rfl, h1, h2⟩)) (fun r Y1 X1 aa1 hh R1 _ => ?_)
  obtain ⟨e1, hC1, cs⟩ := hh
  have hM1 := hM.mv (fun t => (cs.1 t).1) (fun t => (cs.1 t).2)
  have k19 : tK Y1 (A 19) = 10 := hC1.1.1 19 (by omega)
  refine hQ _ _ r X1 r1 r2 ⟨_, ob_10 R1 k19⟩ (t_X10_does (postT := fun r Y' => r = sDoes G v1 v2 v3 v4 v5 ∧ Mo (A 19) Y' G ∧ MS A Y1 Y') R1 k19 (j_does hM1 (fun Y' h1 h2 => ⟨rfl, h1, h2⟩)) (fun r2 Y2 X2 hh R2 _ => ?_))
  obtain ⟨e2, hM2, ms⟩ := hh
  obtain ⟨hC2, tp⟩ := hC1.ms hS ms
  have tp2 := cs.2
  exact ⟨fun _ => hp X2 _ _ ⟨_, Y2, _, R2, hC2, hM2, by omega, by omega⟩, fun q => q (e1.trans e2.symm)⟩
theorem l_logged {P : Nat → Nat → Hp → Prop} {Q : Nat → Nat → Int32 → Hp → Prop} (hS : SA st A) (I : LI st A X kc ks) (hp : ∀ X' kc' ks', LI st A X' kc' ks' → P kc' ks' X') (hQ : ∀ m1 m2 r X1, kc + m1 ≤ 600000 → ks + m2 ≤ 7302249 → (∃ fs, Hs X1 (A 19) (.inr (10, fs))) → wp_X10_logged (fun r2 X2 => (r = r2 → P (kc + m1) (ks + m2) X2) ∧ (¬ r = r2 → False)) X1 (A 19) v1 v2 v3 v4 → Q m1 m2 r X1) : ∃ m1 m2 : Nat, kc + m1 ≤ 600000 ∧ ks + m2 ≤ 7302249 ∧ wp_X9_logged (Q m1 m2) m1 m2 X (A 0) v1 v2 v3 v4 := by
  obtain ⟨aa, Y, G, R, hC, hM, h1, h2⟩ := I
  have zl : TP A Y + zLogged A Y G v1 v2 v3 ≤ 250 := zLogged_le
  have r1 : kc + 2 * zLogged A Y G v1 v2 v3 ≤ 600000 := by omega
  have r2 : ks + 1031 * zLogged A Y G v1 v2 v3 ≤ 7302249 := by omega
  refine ⟨2 * zLogged A Y G v1 v2 v3, 1031 * zLogged A Y G v1 v2 v3, r1, r2, ?_⟩
  refine t_X9_logged (postT := fun r Y' => r = sLogged G v1 v2 v3 v4 ∧ Cl A Y' G ∧ CS A (zLogged A Y G v1 v2 v3) Y Y') R (hC.1.1 0 (by omega)) (k_logged hS hC (Nat.le_refl _) (Nat.le_refl _) (fun Y' h1 h2 => ⟨rfl, h1, h2⟩)) (fun r Y1 X1 aa1 hh R1 _ => ?_)
  obtain ⟨e1, hC1, cs⟩ := hh
  have hM1 := hM.mv (fun t => (cs.1 t).1) (fun t => (cs.1 t).2)
  have k19 : tK Y1 (A 19) = 10 := hC1.1.1 19 (by omega)
  refine hQ _ _ r X1 r1 r2 ⟨_, ob_10 R1 k19⟩ (t_X10_logged (postT := fun r Y' => r = sLogged G v1 v2 v3 v4 ∧ Mo (A 19) Y' G ∧ MS A Y1 Y') R1 k19 (j_logged hM1 (fun Y' h1 h2 => ⟨rfl, h1, h2⟩)) (fun r2 Y2 X2 hh R2 _ => ?_))
  obtain ⟨e2, hM2, ms⟩ := hh
  obtain ⟨hC2, tp⟩ := hC1.ms hS ms
  have tp2 := cs.2
  exact ⟨fun _ => hp X2 _ _ ⟨_, Y2, _, R2, hC2, hM2, by omega, by omega⟩, fun q => q (e1.trans e2.symm)⟩
theorem l_thumb {P : Nat → Nat → Hp → Prop} {Q : Nat → Nat → Int32 → Hp → Prop} (hS : SA st A) (I : LI st A X kc ks) (hp : ∀ X' kc' ks', LI st A X' kc' ks' → P kc' ks' X') (hQ : ∀ m1 m2 r X1, kc + m1 ≤ 600000 → ks + m2 ≤ 7302249 → (∃ fs, Hs X1 (A 19) (.inr (10, fs))) → wp_X10_thumb (fun r2 X2 => (r = r2 → P (kc + m1) (ks + m2) X2) ∧ (¬ r = r2 → False)) X1 (A 19) v1 v2 v3 v4 → Q m1 m2 r X1) : ∃ m1 m2 : Nat, kc + m1 ≤ 600000 ∧ ks + m2 ≤ 7302249 ∧ wp_X9_thumb (Q m1 m2) m1 m2 X (A 0) v1 v2 v3 v4 := by
  obtain ⟨aa, Y, G, R, hC, hM, h1, h2⟩ := I
  have zl : TP A Y + zThumb A Y G v1 v2 v3 v4 ≤ 250 := zThumb_le
  have r1 : kc + 2 * zThumb A Y G v1 v2 v3 v4 ≤ 600000 := by omega
  have r2 : ks + 1031 * zThumb A Y G v1 v2 v3 v4 ≤ 7302249 := by omega
  refine ⟨2 * zThumb A Y G v1 v2 v3 v4, 1031 * zThumb A Y G v1 v2 v3 v4, r1, r2, ?_⟩
  refine t_X9_thumb (postT := fun r Y' => r = sThumb G v1 v2 v3 v4 ∧ Cl A Y' G ∧ CS A (zThumb A Y G v1 v2 v3 v4) Y Y') R (hC.1.1 0 (by omega)) (k_thumb hS hC (Nat.le_refl _) (Nat.le_refl _) (fun Y' h1 h2 => ⟨rfl, h1, h2⟩)) (fun r Y1 X1 aa1 hh R1 _ => ?_)
  obtain ⟨e1, hC1, cs⟩ := hh
  have hM1 := hM.mv (fun t => (cs.1 t).1) (fun t => (cs.1 t).2)
  have k19 : tK Y1 (A 19) = 10 := hC1.1.1 19 (by omega)
  refine hQ _ _ r X1 r1 r2 ⟨_, ob_10 R1 k19⟩ (t_X10_thumb (postT := fun r Y' => r = sThumb G v1 v2 v3 v4 ∧ Mo (A 19) Y' G ∧ MS A Y1 Y') R1 k19 (j_thumb hM1 (fun Y' h1 h2 => ⟨rfl, h1, h2⟩)) (fun r2 Y2 X2 hh R2 _ => ?_))
  obtain ⟨e2, hM2, ms⟩ := hh
  obtain ⟨hC2, tp⟩ := hC1.ms hS ms
  have tp2 := cs.2
  exact ⟨fun _ => hp X2 _ _ ⟨_, Y2, _, R2, hC2, hM2, by omega, by omega⟩, fun q => q (e1.trans e2.symm)⟩
theorem l_worth {P : Nat → Nat → Hp → Prop} {Q : Nat → Nat → Int32 → Hp → Prop} (hS : SA st A) (I : LI st A X kc ks) (hp : ∀ X' kc' ks', LI st A X' kc' ks' → P kc' ks' X') (hQ : ∀ m1 m2 r X1, kc + m1 ≤ 600000 → ks + m2 ≤ 7302249 → (∃ fs, Hs X1 (A 19) (.inr (10, fs))) → wp_X10_worth (fun r2 X2 => (r = r2 → P (kc + m1) (ks + m2) X2) ∧ (¬ r = r2 → False)) X1 (A 19) v1 v2 v3 v4 → Q m1 m2 r X1) : ∃ m1 m2 : Nat, kc + m1 ≤ 600000 ∧ ks + m2 ≤ 7302249 ∧ wp_X9_worth (Q m1 m2) m1 m2 X (A 0) v1 v2 v3 v4 := by
  obtain ⟨aa, Y, G, R, hC, hM, h1, h2⟩ := I
  have zl : TP A Y + zWorth A Y G v1 v2 v3 v4 ≤ 250 := zWorth_le
  have r1 : kc + 2 * zWorth A Y G v1 v2 v3 v4 ≤ 600000 := by omega
  have r2 : ks + 1031 * zWorth A Y G v1 v2 v3 v4 ≤ 7302249 := by omega
  refine ⟨2 * zWorth A Y G v1 v2 v3 v4, 1031 * zWorth A Y G v1 v2 v3 v4, r1, r2, ?_⟩
  refine t_X9_worth (postT := fun r Y' => r = sWorth G v1 v2 v3 v4 ∧ Cl A Y' G ∧ CS A (zWorth A Y G v1 v2 v3 v4) Y Y') R (hC.1.1 0 (by omega)) (k_worth hS hC (Nat.le_refl _) (Nat.le_refl _) (fun Y' h1 h2 => ⟨rfl, h1, h2⟩)) (fun r Y1 X1 aa1 hh R1 _ => ?_)
  obtain ⟨e1, hC1, cs⟩ := hh
  have hM1 := hM.mv (fun t => (cs.1 t).1) (fun t => (cs.1 t).2)
  have k19 : tK Y1 (A 19) = 10 := hC1.1.1 19 (by omega)
  refine hQ _ _ r X1 r1 r2 ⟨_, ob_10 R1 k19⟩ (t_X10_worth (postT := fun r Y' => r = sWorth G v1 v2 v3 v4 ∧ Mo (A 19) Y' G ∧ MS A Y1 Y') R1 k19 (j_worth hM1 (fun Y' h1 h2 => ⟨rfl, h1, h2⟩)) (fun r2 Y2 X2 hh R2 _ => ?_))
  obtain ⟨e2, hM2, ms⟩ := hh
  obtain ⟨hC2, tp⟩ := hC1.ms hS ms
  have tp2 := cs.2
  exact ⟨fun _ => hp X2 _ _ ⟨_, Y2, _, R2, hC2, hM2, by omega, by omega⟩, fun q => q (e1.trans e2.symm)⟩
theorem l_round {P : Nat → Nat → Hp → Prop} {Q : Nat → Nat → Int32 → Hp → Prop} (hS : SA st A) (I : LI st A X kc ks) (hp : ∀ X' kc' ks', LI st A X' kc' ks' → P kc' ks' X') (hQ : ∀ m1 m2 r X1, kc + m1 ≤ 600000 → ks + m2 ≤ 7302249 → (∃ fs, Hs X1 (A 19) (.inr (10, fs))) → wp_X10_round (fun r2 X2 => (r = r2 → P (kc + m1) (ks + m2) X2) ∧ (¬ r = r2 → False)) X1 (A 19) v1 v2 → Q m1 m2 r X1) : ∃ m1 m2 : Nat, kc + m1 ≤ 600000 ∧ ks + m2 ≤ 7302249 ∧ wp_X9_round (Q m1 m2) m1 m2 X (A 0) v1 v2 := by
  obtain ⟨aa, Y, G, R, hC, hM, h1, h2⟩ := I
  have zl : TP A Y + zRound A Y G v1 v2 ≤ 250 := zRound_le
  have r1 : kc + 2 * zRound A Y G v1 v2 ≤ 600000 := by omega
  have r2 : ks + 1031 * zRound A Y G v1 v2 ≤ 7302249 := by omega
  refine ⟨2 * zRound A Y G v1 v2, 1031 * zRound A Y G v1 v2, r1, r2, ?_⟩
  refine t_X9_round (postT := fun r Y' => r = sRound G v1 v2 ∧ Cl A Y' G ∧ CS A (zRound A Y G v1 v2) Y Y') R (hC.1.1 0 (by omega)) (k_round hS hC (Nat.le_refl _) (Nat.le_refl _) (fun Y' h1 h2 => ⟨rfl, h1, h2⟩)) (fun r Y1 X1 aa1 hh R1 _ => ?_)
  obtain ⟨e1, hC1, cs⟩ := hh
  have hM1 := hM.mv (fun t => (cs.1 t).1) (fun t => (cs.1 t).2)
  have k19 : tK Y1 (A 19) = 10 := hC1.1.1 19 (by omega)
  refine hQ _ _ r X1 r1 r2 ⟨_, ob_10 R1 k19⟩ (t_X10_round (postT := fun r Y' => r = sRound G v1 v2 ∧ Mo (A 19) Y' G ∧ MS A Y1 Y') R1 k19 (j_round hM1 (fun Y' h1 h2 => ⟨rfl, h1, h2⟩)) (fun r2 Y2 X2 hh R2 _ => ?_))
  obtain ⟨e2, hM2, ms⟩ := hh
  obtain ⟨hC2, tp⟩ := hC1.ms hS ms
  have tp2 := cs.2
  exact ⟨fun _ => hp X2 _ _ ⟨_, Y2, _, R2, hC2, hM2, by omega, by omega⟩, fun q => q (e1.trans e2.symm)⟩
theorem l_soonest {P : Nat → Nat → Hp → Prop} {Q : Nat → Nat → Int32 → Hp → Prop} (hS : SA st A) (I : LI st A X kc ks) (hp : ∀ X' kc' ks', LI st A X' kc' ks' → P kc' ks' X') (hQ : ∀ m1 m2 r X1, kc + m1 ≤ 600000 → ks + m2 ≤ 7302249 → (∃ fs, Hs X1 (A 19) (.inr (10, fs))) → wp_X10_soonest (fun r2 X2 => (r = r2 → P (kc + m1) (ks + m2) X2) ∧ (¬ r = r2 → False)) X1 (A 19) v1 v2 v3 v4 → Q m1 m2 r X1) : ∃ m1 m2 : Nat, kc + m1 ≤ 600000 ∧ ks + m2 ≤ 7302249 ∧ wp_X9_soonest (Q m1 m2) m1 m2 X (A 0) v1 v2 v3 v4 := by
  obtain ⟨aa, Y, G, R, hC, hM, h1, h2⟩ := I
  have zl : TP A Y + zSoon A Y G v1 v2 v3 v4 ≤ 250 := zSoon_le
  have r1 : kc + 2 * zSoon A Y G v1 v2 v3 v4 ≤ 600000 := by omega
  have r2 : ks + 1031 * zSoon A Y G v1 v2 v3 v4 ≤ 7302249 := by omega
  refine ⟨2 * zSoon A Y G v1 v2 v3 v4, 1031 * zSoon A Y G v1 v2 v3 v4, r1, r2, ?_⟩
  refine t_X9_soonest (postT := fun r Y' => r = sSoon G v1 v2 v3 v4 ∧ Cl A Y' G ∧ CS A (zSoon A Y G v1 v2 v3 v4) Y Y') R (hC.1.1 0 (by omega)) (k_soonest hS hC (Nat.le_refl _) (Nat.le_refl _) (fun Y' h1 h2 => ⟨rfl, h1, h2⟩)) (fun r Y1 X1 aa1 hh R1 _ => ?_)
  obtain ⟨e1, hC1, cs⟩ := hh
  have hM1 := hM.mv (fun t => (cs.1 t).1) (fun t => (cs.1 t).2)
  have k19 : tK Y1 (A 19) = 10 := hC1.1.1 19 (by omega)
  refine hQ _ _ r X1 r1 r2 ⟨_, ob_10 R1 k19⟩ (t_X10_soonest (postT := fun r Y' => r = sSoon G v1 v2 v3 v4 ∧ Mo (A 19) Y' G ∧ MS A Y1 Y') R1 k19 (j_soonest hM1 (fun Y' h1 h2 => ⟨rfl, h1, h2⟩)) (fun r2 Y2 X2 hh R2 _ => ?_))
  obtain ⟨e2, hM2, ms⟩ := hh
  obtain ⟨hC2, tp⟩ := hC1.ms hS ms
  have tp2 := cs.2
  exact ⟨fun _ => hp X2 _ _ ⟨_, Y2, _, R2, hC2, hM2, by omega, by omega⟩, fun q => q (e1.trans e2.symm)⟩
theorem l_two {P : Hp → Prop} {Q : Int32 → Hp → Prop} (hS : SA st A) (I : LI st A X kc ks) (hp : ∀ X', LI st A X' kc ks → P X') (hQ : ∀ r X1, (∃ fs, Hs X1 (A 19) (.inr (10, fs))) → wp_X10_two (fun r2 X2 => (r = r2 → P X2) ∧ (¬ r = r2 → False)) X1 (A 19) v1 v2 v3 → Q r X1) : wp_X9_two Q X (A 0) v1 v2 v3 := by
  obtain ⟨aa, Y, G, R, hC, hM, h1, h2⟩ := I
  refine t_X9_two (postT := fun r Y' => r = sTwo G v1 v2 v3 ∧ Cl A Y' G ∧ CS A 0 Y Y') R (hC.1.1 0 (by omega)) (k_two hS hC (fun Y' h1 h2 => ⟨rfl, h1, h2⟩)) (fun r Y1 X1 hh R1 _ => ?_)
  obtain ⟨e1, hC1, cs⟩ := hh
  have hM1 := hM.mv (fun t => (cs.1 t).1) (fun t => (cs.1 t).2)
  have k19 : tK Y1 (A 19) = 10 := hC1.1.1 19 (by omega)
  refine hQ r X1 ⟨_, ob_10 R1 k19⟩ (t_X10_two (postT := fun r Y' => r = sTwo G v1 v2 v3 ∧ Mo (A 19) Y' G ∧ MS A Y1 Y') R1 k19 (j_two hM1 (fun Y' h1 h2 => ⟨rfl, h1, h2⟩)) (fun r2 Y2 X2 hh R2 _ => ?_))
  obtain ⟨e2, hM2, ms⟩ := hh
  obtain ⟨hC2, tp⟩ := hC1.ms hS ms
  have tp2 := cs.2
  exact ⟨fun _ => hp X2 ⟨_, Y2, _, R2, hC2, hM2, by omega, by omega⟩, fun q => q (e1.trans e2.symm)⟩
theorem l_share {P : Hp → Prop} {Q : Int32 → Hp → Prop} (hS : SA st A) (I : LI st A X kc ks) (hp : ∀ X', LI st A X' kc ks → P X') (hQ : ∀ r X1, (∃ fs, Hs X1 (A 19) (.inr (10, fs))) → wp_X10_share (fun r2 X2 => (r = r2 → P X2) ∧ (¬ r = r2 → False)) X1 (A 19) v1 v2 → Q r X1) : wp_X9_share Q X (A 0) v1 v2 := by
  obtain ⟨aa, Y, G, R, hC, hM, h1, h2⟩ := I
  refine t_X9_share (postT := fun r Y' => r = sShare G v1 v2 ∧ Cl A Y' G ∧ CS A 0 Y Y') R (hC.1.1 0 (by omega)) (k_share hS hC (fun Y' h1 h2 => ⟨rfl, h1, h2⟩)) (fun r Y1 X1 hh R1 _ => ?_)
  obtain ⟨e1, hC1, cs⟩ := hh
  have hM1 := hM.mv (fun t => (cs.1 t).1) (fun t => (cs.1 t).2)
  have k19 : tK Y1 (A 19) = 10 := hC1.1.1 19 (by omega)
  refine hQ r X1 ⟨_, ob_10 R1 k19⟩ (t_X10_share (postT := fun r Y' => r = sShare G v1 v2 ∧ Mo (A 19) Y' G ∧ MS A Y1 Y') R1 k19 (j_share hM1 (fun Y' h1 h2 => ⟨rfl, h1, h2⟩)) (fun r2 Y2 X2 hh R2 _ => ?_))
  obtain ⟨e2, hM2, ms⟩ := hh
  obtain ⟨hC2, tp⟩ := hC1.ms hS ms
  have tp2 := cs.2
  exact ⟨fun _ => hp X2 ⟨_, Y2, _, R2, hC2, hM2, by omega, by omega⟩, fun q => q (e1.trans e2.symm)⟩
theorem l_up {P : Prop} {Q : Int32 → Prop} (hS : SA st A) (I : LI st A X kc ks) (hp : P) (hQ : ∀ r, (∃ fs, Hs X (A 19) (.inr (10, fs))) → wp_X10_up (fun r2 => (r = r2 → P) ∧ (¬ r = r2 → False)) X (A 19) v1 v2 v3 → Q r) : wp_X9_up Q X (A 0) v1 v2 v3 := by
  obtain ⟨aa, Y, G, R, hC, hM, h1, h2⟩ := I
  have k19 : tK Y (A 19) = 10 := hC.1.1 19 (by omega)
  refine t_X9_up (postT := fun r => r = sUp v1 v2 v3) R (hC.1.1 0 (by omega)) (k_up rfl) (fun r e1 => ?_)
  refine hQ r ⟨_, ob_10 R k19⟩ (t_X10_up (postT := fun r => r = sUp v1 v2 v3) R k19 (j_up rfl) (fun r2 e2 => ?_))
  exact ⟨fun _ => hp, fun q => q (e1.trans e2.symm)⟩
theorem l_trust {P : Prop} {Q : Int32 → Prop} (hS : SA st A) (I : LI st A X kc ks) (hp : P) (hQ : ∀ r, (∃ fs, Hs X (A 19) (.inr (10, fs))) → wp_X10_trust (fun r2 => (r = r2 → P) ∧ (¬ r = r2 → False)) X (A 19) v1 v2 → Q r) : wp_X9_trust Q X (A 0) v1 v2 := by
  obtain ⟨aa, Y, G, R, hC, hM, h1, h2⟩ := I
  have k19 : tK Y (A 19) = 10 := hC.1.1 19 (by omega)
  refine t_X9_trust (postT := fun r => r = sTrust v1 v2) R (hC.1.1 0 (by omega)) (k_trust rfl) (fun r e1 => ?_)
  refine hQ r ⟨_, ob_10 R k19⟩ (t_X10_trust (postT := fun r => r = sTrust v1 v2) R k19 (j_trust rfl) (fun r2 e2 => ?_))
  exact ⟨fun _ => hp, fun q => q (e1.trans e2.symm)⟩
theorem l_draw {P : Hp → Prop} {Q : Int32 → Hp → Prop} (hS : SA st A) (I : LI st A X kc ks) (hp : ∀ X', LI st A X' kc ks → P X') (hQ : ∀ r X1, (∃ fs, Hs X1 (A 19) (.inr (10, fs))) → wp_X10_draw (fun r2 X2 => (r = r2 → P X2) ∧ (¬ r = r2 → False)) X1 (A 19) v1 v2 v3 v4 → Q r X1) : wp_X9_draw Q X (A 0) v1 v2 v3 v4 := by
  obtain ⟨aa, Y, G, R, hC, hM, h1, h2⟩ := I
  refine t_X9_draw (postT := fun r Y' => r = sDraw G v1 v2 v3 v4 ∧ Cl A Y' G ∧ CS A 0 Y Y') R (hC.1.1 0 (by omega)) (k_draw hS hC (fun Y' h1 h2 => ⟨rfl, h1, h2⟩)) (fun r Y1 X1 hh R1 _ => ?_)
  obtain ⟨e1, hC1, cs⟩ := hh
  have hM1 := hM.mv (fun t => (cs.1 t).1) (fun t => (cs.1 t).2)
  have k19 : tK Y1 (A 19) = 10 := hC1.1.1 19 (by omega)
  refine hQ r X1 ⟨_, ob_10 R1 k19⟩ (t_X10_draw (postT := fun r Y' => r = sDraw G v1 v2 v3 v4 ∧ Mo (A 19) Y' G ∧ MS A Y1 Y') R1 k19 (j_draw hM1 (fun Y' h1 h2 => ⟨rfl, h1, h2⟩)) (fun r2 Y2 X2 hh R2 _ => ?_))
  obtain ⟨e2, hM2, ms⟩ := hh
  obtain ⟨hC2, tp⟩ := hC1.ms hS ms
  have tp2 := cs.2
  exact ⟨fun _ => hp X2 ⟨_, Y2, _, R2, hC2, hM2, by omega, by omega⟩, fun q => q (e1.trans e2.symm)⟩
theorem l_image {P : Hp → Prop} {Q : Int32 → Hp → Prop} (hS : SA st A) (I : LI st A X kc ks) (hp : ∀ X', LI st A X' kc ks → P X') (hQ : ∀ r X1, (∃ fs, Hs X1 (A 19) (.inr (10, fs))) → wp_X10_image (fun r2 X2 => (r = r2 → P X2) ∧ (¬ r = r2 → False)) X1 (A 19) v1 → Q r X1) : wp_X9_image Q X (A 0) v1 := by
  obtain ⟨aa, Y, G, R, hC, hM, h1, h2⟩ := I
  refine t_X9_image (postT := fun r Y' => r = (sImage G v1).1 ∧ Cl A Y' (sImage G v1).2 ∧ CS A 0 Y Y') R (hC.1.1 0 (by omega)) (k_image hS hC (fun Y' h1 h2 => ⟨rfl, h1, h2⟩)) (fun r Y1 X1 hh R1 _ => ?_)
  obtain ⟨e1, hC1, cs⟩ := hh
  have hM1 := hM.mv (fun t => (cs.1 t).1) (fun t => (cs.1 t).2)
  have k19 : tK Y1 (A 19) = 10 := hC1.1.1 19 (by omega)
  refine hQ r X1 ⟨_, ob_10 R1 k19⟩ (t_X10_image (postT := fun r Y' => r = (sImage G v1).1 ∧ Mo (A 19) Y' (sImage G v1).2 ∧ MS A Y1 Y') R1 k19 (j_image hM1 (fun Y' h1 h2 => ⟨rfl, h1, h2⟩)) (fun r2 Y2 X2 hh R2 _ => ?_))
  obtain ⟨e2, hM2, ms⟩ := hh
  obtain ⟨hC2, tp⟩ := hC1.ms hS ms
  have tp2 := cs.2
  exact ⟨fun _ => hp X2 ⟨_, Y2, _, R2, hC2, hM2, by omega, by omega⟩, fun q => q (e1.trans e2.symm)⟩
theorem l_restore {P : Hp → Prop} {Q : Int32 → Hp → Prop} (hS : SA st A) (I : LI st A X kc ks) (hp : ∀ X', LI st A X' kc ks → P X') (hQ : ∀ r X1, (∃ fs, Hs X1 (A 19) (.inr (10, fs))) → wp_X10_restore (fun r2 X2 => (r = r2 → P X2) ∧ (¬ r = r2 → False)) X1 (A 19) v1 → Q r X1) : wp_X9_restore Q X (A 0) v1 := by
  obtain ⟨aa, Y, G, R, hC, hM, h1, h2⟩ := I
  refine t_X9_restore (postT := fun r Y' => r = (sRestore G v1).1 ∧ Cl A Y' (sRestore G v1).2 ∧ CS A 0 Y Y') R (hC.1.1 0 (by omega)) (k_restore hS hC (fun Y' h1 h2 => ⟨rfl, h1, h2⟩)) (fun r Y1 X1 hh R1 _ => ?_)
  obtain ⟨e1, hC1, cs⟩ := hh
  have hM1 := hM.mv (fun t => (cs.1 t).1) (fun t => (cs.1 t).2)
  have k19 : tK Y1 (A 19) = 10 := hC1.1.1 19 (by omega)
  refine hQ r X1 ⟨_, ob_10 R1 k19⟩ (t_X10_restore (postT := fun r Y' => r = (sRestore G v1).1 ∧ Mo (A 19) Y' (sRestore G v1).2 ∧ MS A Y1 Y') R1 k19 (j_restore hM1 (fun Y' h1 h2 => ⟨rfl, h1, h2⟩)) (fun r2 Y2 X2 hh R2 _ => ?_))
  obtain ⟨e2, hM2, ms⟩ := hh
  obtain ⟨hC2, tp⟩ := hC1.ms hS ms
  have tp2 := cs.2
  exact ⟨fun _ => hp X2 ⟨_, Y2, _, R2, hC2, hM2, by omega, by omega⟩, fun q => q (e1.trans e2.symm)⟩
theorem l_told {P : Prop} {Q : Int32 → Prop} (hS : SA st A) (I : LI st A X kc ks) (hp : P) (hQ : ∀ r, (∃ fs, Hs X (A 19) (.inr (10, fs))) → wp_X10_told (fun r2 => (r = r2 → P) ∧ (¬ r = r2 → False)) X (A 19) v1 → Q r) : wp_X9_told Q X (A 0) v1 := by
  obtain ⟨aa, Y, G, R, hC, hM, h1, h2⟩ := I
  have k19 : tK Y (A 19) = 10 := hC.1.1 19 (by omega)
  refine t_X9_told (postT := fun r => r = sTold G v1) R (hC.1.1 0 (by omega)) (k_told hS hC rfl) (fun r e1 => ?_)
  refine hQ r ⟨_, ob_10 R k19⟩ (t_X10_told (postT := fun r => r = sTold G v1) R k19 (j_told hM rfl) (fun r2 e2 => ?_))
  exact ⟨fun _ => hp, fun q => q (e1.trans e2.symm)⟩
end LL
