set_option maxRecDepth 100000 in
set_option maxHeartbeats 8000000 in
theorem law_loop {st : TS} {A : Nat → Nat} {L : Nat} {xs : Nat → Int32} (hS : SA st A) (hL : L ≤ 3072) : ∀ (n j : Nat) (X : Hp) (kc ks : Nat), L ≤ j + 6 * n + 5 → j ≤ 3078 → LI st A X kc ks → bk_L_law_18 L xs (n + 1) X kc ks (A 0) (A 19) (nI j) := by
  have e6 : nI L - (6 : Int32) = iI ((L : Int) - 6) := i_sub (L : Int) 6
  have lt : ∀ j : Nat, j ≤ 3078 → (nI L - (6 : Int32) < nI j) = ((L : Int) - 6 < (j : Int)) := fun j hj => by
    rw [e6, i_nI]
    exact i_lt (by omega) (by omega) (by omega) (by omega)
  intro n
  induction n with
  | zero =>
    intro j X kc ks h1 h2 I
    rw [bk_L_law_18, lt j h2]
    exact ⟨fun _ => I.room, fun q => absurd (show (L : Int) - 6 < (j : Int) by omega) q⟩
  | succ n ih =>
    intro j X kc ks h1 h2 I
    obtain ⟨rc, rs⟩ := I.room
    obtain ⟨f9, o9⟩ := I.o9
    rw [bk_L_law_18, lt j h2]
    refine ⟨fun _ => I.room, fun q => ?_⟩
    have hj : j + 6 ≤ L := by omega
    have nx : ∀ X' kc' ks', LI st A X' kc' ks' → bk_L_law_1173 L xs (bk_L_law_18 L xs (n + 1)) X' kc' ks' (A 0) (A 19) (nI j) := by
      intro X' kc' ks' I'
      unfold bk_L_law_1173
      intro x ex
      have e : nI j + (6 : Int32) = nI (j + 6) := nI_add j 6
      rw [ex, e]
      exact ih (j + 6) X' kc' ks' (by omega) (by omega) I'
    have iw : ∀ k : Nat, k < 6 → vp_in (nI j + nI k) L := fun k hk => by
      rw [nI_add]
      exact vp_in_nI (by omega) (by omega)
    have i0 : vp_in (nI j) L := vp_in_nI (by omega) (by omega)
    have i1 : vp_in (nI j + (1 : Int32)) L := iw 1 (by omega)
    have i2 : vp_in (nI j + (2 : Int32)) L := iw 2 (by omega)
    have i3 : vp_in (nI j + (3 : Int32)) L := iw 3 (by omega)
    have i4 : vp_in (nI j + (4 : Int32)) L := iw 4 (by omega)
    have i5 : vp_in (nI j + (5 : Int32)) L := iw 5 (by omega)
    clear iw ih lt e6
    refine ⟨i0, fun _ => ?_, fun _ => ?_, fun _ => ?_, fun _ => ?_, fun _ => ?_, fun _ => ?_, fun _ => ?_, fun _ => ?_, fun _ => ?_, fun _ => ?_, fun _ => ?_, fun _ => ?_, fun _ => ?_, fun _ => ?_, fun _ => ?_, fun _ => ?_, fun _ => ?_, fun _ => ?_, fun _ => ?_, fun _ => ?_, fun _ => ?_, fun _ => ?_, fun _ => ?_, fun _ => ?_, fun _ => ?_, fun _ => nx X kc ks I⟩
    · exact ⟨i1, i2, i3, i4, f9, o9, rc, rs, l_leg (P := fun X' => bk_L_law_1173 L xs (bk_L_law_18 L xs (n + 1)) X' kc ks (A 0) (A 19) (nI j)) hS I (fun X' I' => nx X' kc ks I') (fun r X1 ⟨fs, o⟩ w => ⟨i1, i2, i3, i4, fs, o, rc, rs, w⟩)⟩
    · exact ⟨i1, f9, o9, rc, rs, l_cut (P := fun X' => bk_L_law_1173 L xs (bk_L_law_18 L xs (n + 1)) X' kc ks (A 0) (A 19) (nI j)) hS I (fun X' I' => nx X' kc ks I') (fun r X1 ⟨fs, o⟩ w => ⟨i1, fs, o, rc, rs, w⟩)⟩
    · exact ⟨i1, i2, i3, f9, o9, rc, rs, l_about (P := bk_L_law_1173 L xs (bk_L_law_18 L xs (n + 1)) X kc ks (A 0) (A 19) (nI j)) hS I (nx X kc ks I) (fun r ⟨fs, o⟩ w => ⟨i1, i2, i3, fs, o, rc, rs, w⟩)⟩
    · exact ⟨i1, i2, i3, f9, o9, rc, rs, l_nap (P := fun X' => bk_L_law_1173 L xs (bk_L_law_18 L xs (n + 1)) X' kc ks (A 0) (A 19) (nI j)) hS I (fun X' I' => nx X' kc ks I') (fun r X1 ⟨fs, o⟩ w => ⟨i1, i2, i3, fs, o, rc, rs, w⟩)⟩
    · exact ⟨i1, i2, i3, i4, f9, o9, rc, rs, l_owed (P := bk_L_law_1173 L xs (bk_L_law_18 L xs (n + 1)) X kc ks (A 0) (A 19) (nI j)) hS I (nx X kc ks I) (fun r ⟨fs, o⟩ w => ⟨i1, i2, i3, i4, fs, o, rc, rs, w⟩)⟩
    · exact ⟨i1, i2, i3, i4, i5, f9, o9, rc, rs, l_risk (P := bk_L_law_1173 L xs (bk_L_law_18 L xs (n + 1)) X kc ks (A 0) (A 19) (nI j)) hS I (nx X kc ks I) (fun r ⟨fs, o⟩ w => ⟨i1, i2, i3, i4, i5, fs, o, rc, rs, w⟩)⟩
    · exact ⟨i1, f9, o9, rc, rs, l_say (P := fun X' => bk_L_law_1173 L xs (bk_L_law_18 L xs (n + 1)) X' kc ks (A 0) (A 19) (nI j)) hS I (fun X' I' => nx X' kc ks I') (fun r X1 ⟨fs, o⟩ w => ⟨i1, fs, o, rc, rs, w⟩)⟩
    · exact ⟨f9, o9, rc, rs, l_wipe (P := fun X' => bk_L_law_1173 L xs (bk_L_law_18 L xs (n + 1)) X' kc ks (A 0) (A 19) (nI j)) hS I (fun X' I' => nx X' kc ks I') (fun r X1 ⟨fs, o⟩ w => ⟨fs, o, rc, rs, w⟩)⟩
    · exact ⟨f9, o9, rc, rs, l_fault (P := bk_L_law_1173 L xs (bk_L_law_18 L xs (n + 1)) X kc ks (A 0) (A 19) (nI j)) hS I (nx X kc ks I) (fun r ⟨fs, o⟩ w => ⟨fs, o, rc, rs, w⟩)⟩
    · exact ⟨i1, i2, i3, i4, f9, o9, rc, rs, l_judge (P := fun X' => bk_L_law_1173 L xs (bk_L_law_18 L xs (n + 1)) X' kc ks (A 0) (A 19) (nI j)) hS I (fun X' I' => nx X' kc ks I') (fun r X1 ⟨fs, o⟩ w => ⟨i1, i2, i3, i4, fs, o, rc, rs, w⟩)⟩
    · exact ⟨i1, i2, i3, i4, i5, f9, o9, l_best (P := fun kc' ks' X' => bk_L_law_1173 L xs (bk_L_law_18 L xs (n + 1)) X' kc' ks' (A 0) (A 19) (nI j)) hS I nx (fun m1 m2 r X1 a b ⟨fs, o⟩ w => ⟨i1, i2, i3, i4, i5, fs, o, a, b, w⟩)⟩
    · exact ⟨i1, i2, i3, i4, i5, f9, o9, l_does (P := fun kc' ks' X' => bk_L_law_1173 L xs (bk_L_law_18 L xs (n + 1)) X' kc' ks' (A 0) (A 19) (nI j)) hS I nx (fun m1 m2 r X1 a b ⟨fs, o⟩ w => ⟨i1, i2, i3, i4, i5, fs, o, a, b, w⟩)⟩
    · exact ⟨i1, i2, i3, i4, f9, o9, l_logged (P := fun kc' ks' X' => bk_L_law_1173 L xs (bk_L_law_18 L xs (n + 1)) X' kc' ks' (A 0) (A 19) (nI j)) hS I nx (fun m1 m2 r X1 a b ⟨fs, o⟩ w => ⟨i1, i2, i3, i4, fs, o, a, b, w⟩)⟩
    · exact ⟨i1, i2, i3, i4, f9, o9, l_thumb (P := fun kc' ks' X' => bk_L_law_1173 L xs (bk_L_law_18 L xs (n + 1)) X' kc' ks' (A 0) (A 19) (nI j)) hS I nx (fun m1 m2 r X1 a b ⟨fs, o⟩ w => ⟨i1, i2, i3, i4, fs, o, a, b, w⟩)⟩
    · exact ⟨i1, i2, i3, i4, f9, o9, l_worth (P := fun kc' ks' X' => bk_L_law_1173 L xs (bk_L_law_18 L xs (n + 1)) X' kc' ks' (A 0) (A 19) (nI j)) hS I nx (fun m1 m2 r X1 a b ⟨fs, o⟩ w => ⟨i1, i2, i3, i4, fs, o, a, b, w⟩)⟩
    · exact ⟨i1, i2, f9, o9, l_round (P := fun kc' ks' X' => bk_L_law_1173 L xs (bk_L_law_18 L xs (n + 1)) X' kc' ks' (A 0) (A 19) (nI j)) hS I nx (fun m1 m2 r X1 a b ⟨fs, o⟩ w => ⟨i1, i2, fs, o, a, b, w⟩)⟩
    · exact ⟨i1, i2, i3, i4, f9, o9, l_soonest (P := fun kc' ks' X' => bk_L_law_1173 L xs (bk_L_law_18 L xs (n + 1)) X' kc' ks' (A 0) (A 19) (nI j)) hS I nx (fun m1 m2 r X1 a b ⟨fs, o⟩ w => ⟨i1, i2, i3, i4, fs, o, a, b, w⟩)⟩
    · exact ⟨i1, i2, i3, f9, o9, rc, rs, l_two (P := fun X' => bk_L_law_1173 L xs (bk_L_law_18 L xs (n + 1)) X' kc ks (A 0) (A 19) (nI j)) hS I (fun X' I' => nx X' kc ks I') (fun r X1 ⟨fs, o⟩ w => ⟨i1, i2, i3, fs, o, rc, rs, w⟩)⟩
    · exact ⟨i1, i2, f9, o9, rc, rs, l_share (P := fun X' => bk_L_law_1173 L xs (bk_L_law_18 L xs (n + 1)) X' kc ks (A 0) (A 19) (nI j)) hS I (fun X' I' => nx X' kc ks I') (fun r X1 ⟨fs, o⟩ w => ⟨i1, i2, fs, o, rc, rs, w⟩)⟩
    · exact ⟨i1, i2, i3, f9, o9, rc, rs, l_up (P := bk_L_law_1173 L xs (bk_L_law_18 L xs (n + 1)) X kc ks (A 0) (A 19) (nI j)) hS I (nx X kc ks I) (fun r ⟨fs, o⟩ w => ⟨i1, i2, i3, fs, o, rc, rs, w⟩)⟩
    · exact ⟨i1, i2, f9, o9, rc, rs, l_trust (P := bk_L_law_1173 L xs (bk_L_law_18 L xs (n + 1)) X kc ks (A 0) (A 19) (nI j)) hS I (nx X kc ks I) (fun r ⟨fs, o⟩ w => ⟨i1, i2, fs, o, rc, rs, w⟩)⟩
    · exact ⟨i1, i2, i3, i4, f9, o9, rc, rs, l_draw (P := fun X' => bk_L_law_1173 L xs (bk_L_law_18 L xs (n + 1)) X' kc ks (A 0) (A 19) (nI j)) hS I (fun X' I' => nx X' kc ks I') (fun r X1 ⟨fs, o⟩ w => ⟨i1, i2, i3, i4, fs, o, rc, rs, w⟩)⟩
    · exact ⟨i1, f9, o9, rc, rs, l_image (P := fun X' => bk_L_law_1173 L xs (bk_L_law_18 L xs (n + 1)) X' kc ks (A 0) (A 19) (nI j)) hS I (fun X' I' => nx X' kc ks I') (fun r X1 ⟨fs, o⟩ w => ⟨i1, fs, o, rc, rs, w⟩)⟩
    · exact ⟨i1, f9, o9, rc, rs, l_restore (P := fun X' => bk_L_law_1173 L xs (bk_L_law_18 L xs (n + 1)) X' kc ks (A 0) (A 19) (nI j)) hS I (fun X' I' => nx X' kc ks I') (fun r X1 ⟨fs, o⟩ w => ⟨i1, fs, o, rc, rs, w⟩)⟩
    · exact ⟨i1, f9, o9, rc, rs, l_told (P := bk_L_law_1173 L xs (bk_L_law_18 L xs (n + 1)) X kc ks (A 0) (A 19) (nI j)) hS I (nx X kc ks I) (fun r ⟨fs, o⟩ w => ⟨i1, fs, o, rc, rs, w⟩)⟩
