def spF (st : TS) (Y : TY) (p : Nat) (h b l : Int32) : Int32 := if (tI Y (st.1 p 0) 1 - h + l) ≤ b then (tI Y (st.1 p 0) 1 - h + l) else b
def spOK (c l : Int32) : Prop := 0 ≤ c ∧ c ≤ 24 ∧ 0 ≤ l ∧ l ≤ 4
def spI (c l : Int32) : Nat := (c * (5 : Int32) + l).toNatClampNeg
def tp_X4_planeOf (st : TS) (post : Option Nat → TY → Prop) (mc ms : Nat) (Y : TY) (v0 : Nat) (v1 v2 v3 : Int32) : Prop :=
  (spOK (spF st Y v0 v1 v2 v3) v3 → (∀ b, tP Y v0 (spI (spF st Y v0 v1 v2 v3) v3) = some b → post (some b) Y) ∧ (tP Y v0 (spI (spF st Y v0 v1 v2 v3) v3) = none → 2 ≤ mc ∧ 1031 ≤ ms ∧ ∀ q, ¬ tK Y q < 11 → post (some q) (sN Y v0 (spI (spF st Y v0 v1 v2 v3) v3) q))) ∧ (¬ spOK (spF st Y v0 v1 v2 v3) v3 → post none Y)
theorem spI_in {c l : Int32} (h : spOK c l) : vp_in (c * (5 : Int32) + l) 125 := by
  obtain ⟨h1, h2, h3, h4⟩ := h
  obtain ⟨j, hj, rfl⟩ := nI_of2 (M := 24) (n := 24) (by decide) (by rw [Int32.not_lt]; exact h1) h2
  obtain ⟨k, hk, rfl⟩ := nI_of2 (M := 4) (n := 4) (by decide) (by rw [Int32.not_lt]; exact h3) h4
  have e : nI j * (5 : Int32) + nI k = nI (j * 5 + k) := by
    rw [show (5 : Int32) = nI 5 from rfl, pk_mul, nI_add]
  rw [e]
  exact vp_in_nI (by omega) (by omega)
section NP
variable {st : TS} {aa : Nat → Nat → Nat} {Y : TY} {X X2 : Hp} {a i q q3 : Nat}
theorem tK_sN (Y : TY) (a i q b : Nat) : tK (sN Y a i q) b = if b = q then 5 else tK Y b := rfl
theorem tP_sN (Y : TY) (a i q b j : Nat) : tP (sN Y a i q) b j = if b = a ∧ j = i then some q else tP Y b j := by
  by_cases h : b = a
  · subst h
    by_cases h2 : j = i
    · simp [tP, sN, va_up, h2]
    · simp [tP, sN, va_up, h2]
  · simp [tP, sN, va_up, h]
theorem tI_sN {b : Nat} (h : b ≠ q) (t : Nat) : tI (sN Y a i q) b t = tI Y b t := by simp [tI, sN, va_up, h]
theorem tA_sN {b : Nat} (h : b ≠ q) (t : Nat) : tA (sN Y a i q) b t = tA Y b t := by simp [tA, sN, va_up, h]
theorem tI_sNq (t : Nat) : tI (sN Y a i q) q t = if t = 0 then 49 else 0 := by simp [tI, sN, va_up, upd]
theorem tA_sNq (t : Nat) : tA (sN Y a i q) q t = fun _ => 0 := by simp [tA, sN, va_up]
theorem Rel.newP (R : Rel st aa Y X) (hk : tK Y a = 4) (hq : q ∉ X.1) (hq3 : q3 ∉ X.1) (hne : q ≠ q3) (h1 : Hs X2 q (.inr (5, [.int 49, .ref q3]))) (h2 : Hs X2 q3 (.inl (0, 1029, .inl (fun _ => 0)))) (h3 : Hs X2 (aa a 3) (.inl (4, 125, qA (va_up (tP Y a) i (some q))))) (h4 : ∀ b e, b ≠ aa a 3 → Hs X b e → Hs X2 b e) : Rel st (fun b s => if b = q then q3 else aa b s) (sN Y a i q) X2 := by
  have kq : ¬ tK Y q < 11 := fun z => hq (R.1 q z).1
  have hnq : ∀ b, tK Y b < 11 → b ≠ q := fun b hb e => kq (by rw [← e]; exact hb)
  have hka : tK Y a < 11 := by rw [hk]; decide
  have haq : a ≠ q := hnq a hka
  refine ⟨fun b hb => ?_, fun b s hb => ?_, fun b s c t hb hc e => ?_, ?_⟩
  · by_cases h : b = q
    · subst h
      have e1 : tob st (fun b' s => if b' = b then q3 else aa b' s) (sN Y a i b) b = .inr (5, [.int 49, .ref q3]) := by
        unfold tob
        rw [tK_sN, if_pos rfl]
        simp [tI_sNq]
      rw [e1]
      exact h1
    · rw [tK_sN, if_neg h] at hb
      have e1 : tob st (fun b s => if b = q then q3 else aa b s) (sN Y a i q) b = tob st aa Y b := by
        unfold tob
        rw [tK_sN, if_neg h]
        simp only [tI_sN h, if_neg h]
        rfl
      rw [e1]
      exact h4 b _ (fun z => R.apart hb (by rw [hk]; decide) z.symm) (R.1 b hb)
  · by_cases h : b = q
    · subst h
      rw [tK_sN, if_pos rfl] at hb
      have hs : s = 1 := by
        simp [isA] at hb
        exact hb
      subst hs
      have e1 : tar st (sN Y a i b) b 1 = .inl (0, 1029, .inl (fun _ => 0)) := by
        unfold tar
        rw [tK_sN, if_pos rfl]
        simp [tA_sNq]
      rw [e1]
      simp only [if_true]
      exact h2
    · rw [tK_sN, if_neg h] at hb
      simp only [if_neg h]
      by_cases h5 : b = a ∧ s = 3
      · obtain ⟨rfl, rfl⟩ := h5
        have e1 : tar st (sN Y b i q) b 3 = .inl (4, 125, qA (va_up (tP Y b) i (some q))) := by
          unfold tar
          rw [tK_sN, if_neg h, hk]
          show Sum.inl (4, 125, qA (tP (sN Y b i q) b)) = _
          congr 3
          congr 1
          funext j
          rw [tP_sN]
          by_cases hj : j = i
          · simp [va_up, hj]
          · simp [va_up, hj]
        rw [e1]
        exact h3
      · have e1 : tar st (sN Y a i q) b s = tar st Y b s := by
          by_cases h6 : b = a
          · subst h6
            rw [hk] at hb
            have hs : s = 3 := by
              simp [isA] at hb
              exact hb
            exact absurd ⟨rfl, hs⟩ h5
          · have e2 : tP (sN Y a i q) b = tP Y b := by
              funext j
              rw [tP_sN, if_neg (fun z => h6 z.1)]
            unfold tar
            rw [tK_sN, if_neg h]
            simp only [tA_sN h, e2]
        rw [e1]
        exact h4 _ _ (fun z => h5 (R.2.2.1 b s a 3 hb (by rw [hk]; decide) z)) (R.2.1 b s hb)
  · by_cases h : b = q
    · by_cases h5 : c = q
      · subst h; subst h5
        rw [tK_sN, if_pos rfl] at hb hc
        simp [isA] at hb hc
        exact ⟨rfl, hb.trans hc.symm⟩
      · rw [tK_sN, if_neg h5] at hc
        simp only [if_pos h, if_neg h5] at e
        exact absurd (by rw [e]; exact (R.2.1 c t hc).1) hq3
    · rw [tK_sN, if_neg h] at hb
      by_cases h5 : c = q
      · simp only [if_neg h, if_pos h5] at e
        exact absurd (by rw [← e]; exact (R.2.1 b s hb).1) hq3
      · rw [tK_sN, if_neg h5] at hc
        simp only [if_neg h, if_neg h5] at e
        exact R.2.2.1 b s c t hb hc e
  · have up : ∀ {b k : Nat}, tK Y b = k → k < 11 → tK (sN Y a i q) b = k := fun {b k} e hk2 => by
      rw [tK_sN, if_neg (hnq b (by rw [e]; exact hk2))]
      exact e
    have dn : ∀ {b k : Nat}, tK (sN Y a i q) b = k → k ≠ 5 → tK Y b = k := fun {b k} e hk2 => by
      rw [tK_sN] at e
      by_cases h : b = q
      · rw [if_pos h] at e
        exact absurd e.symm hk2
      · rw [if_neg h] at e
        exact e
    obtain ⟨w0, w1, w4, w9⟩ := R.2.2.2
    refine ⟨fun b hb => ?_, fun b hb => ?_, fun b hb => ?_, fun b hb => ?_⟩
    · obtain ⟨z1, z2, z3⟩ := w0 b (dn hb (by decide))
      exact ⟨up z1 (by decide), up z2 (by decide), fun c hc => up (z3 c hc) (by decide)⟩
    · obtain ⟨z1, z2⟩ := w1 b (dn hb (by decide))
      exact ⟨fun j c hc => up (z1 j c hc) (by decide), up z2 (by decide)⟩
    · obtain ⟨z1, z2, z3, z4⟩ := w4 b (dn hb (by decide))
      refine ⟨up z1 (by decide), up z2 (by decide), up z3 (by decide), fun j c hc => ?_⟩
      rw [tP_sN] at hc
      by_cases h : b = a ∧ j = i
      · rw [if_pos h] at hc
        cases hc
        rw [tK_sN, if_pos rfl]
      · rw [if_neg h] at hc
        exact up (z4 j c hc) (by decide)
    · obtain ⟨z1, z2, z3, z4, z5⟩ := w9 b (dn hb (by decide))
      exact ⟨up z1 (by decide), fun j c hc => up (z2 j c hc) (by decide), fun j c hc => up (z3 j c hc) (by decide), up z4 (by decide), up z5 (by decide)⟩
end NP
theorem Hs_add {X : Hp} {a b : Nat} {e e' : AE} (h : Hs X b e') (hn : a ∉ X.1) : Hs (hadd X a e) b e' := by
  have hne : b ≠ a := fun z => hn (by rw [← z]; exact h.1)
  exact ⟨List.mem_append_left _ h.1, by simp [hadd, va_up, hne]; exact h.2⟩
theorem Hs_self {X : Hp} {a : Nat} {e : AE} : Hs (hadd X a e) a e := ⟨List.mem_append_right _ List.mem_cons_self, by simp [hadd, va_up]⟩
set_option maxHeartbeats 4000000 in
set_option maxRecDepth 100000 in
theorem t_X4_planeOf {st : TS} {aa : Nat → Nat → Nat} {Y : TY} {X : Hp} {postT : Option Nat → TY → Prop} {post : Option Nat → Hp → Prop} {mc ms : Nat} {v0 : Nat} {v1 : Int32} {v2 : Int32} {v3 : Int32} (R : Rel st aa Y X) (hk_v0 : tK Y v0 = 4) (h : tp_X4_planeOf st postT mc ms Y v0 v1 v2 v3) (hp : ∀ (r : Option Nat) (Y' : TY) (X' : Hp) (aa' : Nat → Nat → Nat), postT r Y' → Rel st aa' Y' X' → (∀ a, tK Y a < 11 → tK Y' a = tK Y a) → (∀ b : Nat, r = some b → tK Y' b = 5) → post r X') : wp_X4_planeOf post mc ms X v0 v1 v2 v3 := by
  unfold tp_X4_planeOf at h
  unfold wp_X4_planeOf
  have z0 : ∀ n : Nat, 0 ≤ n := Nat.zero_le
  have hnone : ¬ spOK (spF st Y v0 v1 v2 v3) v3 → bk_X4_planeOf_29 post mc ms v0 v1 v2 v3 X 0 0 := fun hn => ⟨z0 _, z0 _, hp _ _ _ _ (h.2 hn) R (fun _ _ => rfl) (fun _ q => by cases q)⟩
  refine ⟨_, ob_4 R hk_v0, z0 _, z0 _, t_X4_spendable (postT := fun r => r = spF st Y v0 v1 v2 v3) R hk_v0 ?_ (fun r1 hr => ?_)⟩
  · unfold tp_X4_spendable
    intro x ex
    refine ⟨fun c => ?_, fun c => ?_⟩
    · rw [ex] at c ⊢
      show _ = spF st Y v0 v1 v2 v3
      unfold spF
      rw [if_pos c]
    · rw [ex] at c
      show _ = spF st Y v0 v1 v2 v3
      unfold spF
      rw [if_neg c]
  subst hr
  generalize hc : spF st Y v0 v1 v2 v3 = c at h hnone ⊢
  refine ⟨z0 _, z0 _, ?_⟩
  unfold wp_X9_within
  refine ⟨fun c1 => ⟨fun _ => hnone (fun q => absurd q.1 (Int32.not_le.mpr c1)), fun q => absurd rfl q⟩, fun c1 => ⟨fun c2 => ⟨fun _ => hnone (fun q => absurd q.2.1 (Int32.not_le.mpr c2)), fun q => absurd rfl q⟩, fun c2 => ⟨fun q => absurd q (by decide), fun _ => ⟨z0 _, z0 _, ?_⟩⟩⟩⟩
  refine ⟨fun c3 => ⟨fun q => absurd rfl q, fun _ => hnone (fun q => absurd q.2.2.1 (Int32.not_le.mpr c3))⟩, fun c3 => ⟨fun c4 => ⟨fun q => absurd rfl q, fun _ => hnone (fun q => absurd q.2.2.2 (Int32.not_le.mpr c4))⟩, fun c4 => ⟨fun _ x6 e6 => ?_, fun q => absurd q (by decide)⟩⟩⟩
  have hok : spOK c v3 := ⟨Int32.not_lt.mp c1, Int32.not_lt.mp c2, Int32.not_lt.mp c3, Int32.not_lt.mp c4⟩
  have hin : vp_in x6 125 := by rw [e6]; exact spI_in hok
  have hI : x6.toNatClampNeg = spI c v3 := by rw [e6]; rfl
  obtain ⟨hs, hn⟩ := h.1 hok
  rw [← hI] at hs hn
  have fin : ∀ (Y' : TY) (X' : Hp) (aa' : Nat → Nat → Nat) (kc ks : Nat) (b : Nat), kc ≤ mc → ks ≤ ms → Rel st aa' Y' X' → tK Y' v0 = 4 → tP Y' v0 x6.toNatClampNeg = some b → postT (some b) Y' → (∀ a, tK Y a < 11 → tK Y' a = tK Y a) → bk_X4_planeOf_63 post mc ms v0 v1 v2 v3 X' kc ks x6 := by
    intro Y' X' aa' kc ks b h1 h2 R' hk' hb hpo hE
    unfold bk_X4_planeOf_63
    refine ⟨_, _, ob_4 R' hk', rfl, _, _, ar_4_3 R' hk', hin, fun q => ?_, fun y hy => ?_⟩
    · rw [hb] at q
      cases q
    · rw [hb] at hy
      cases hy
      exact ⟨h1, h2, hp _ _ _ _ hpo R' hE (fun _ q => by cases q; exact wf_4_3 R' hk' hb)⟩
  refine ⟨_, _, ob_4 R hk_v0, rfl, _, _, ar_4_3 R hk_v0, hin, fun c5 => ?_, fun b c5 => ?_⟩
  · obtain ⟨hm, hms, hnew⟩ := hn c5
    refine ⟨_, _, ob_4 R hk_v0, rfl, by omega, by omega, fun q hq X15 e15 => ⟨1, 1029, by omega, by omega, ?_⟩⟩
    have s15 : Hs X15 q (.inr (5, [.int 0, .null])) := by rw [e15]; exact Hs_self
    have o15 : ∀ b e, Hs X b e → Hs X15 b e := fun b e hb => by rw [e15]; exact Hs_add hb hq
    unfold wp_X5_init
    refine ⟨_, s15, (by decide : 0 < 2), fun X2 e2 => ⟨by omega, by omega, fun q3 hq3 X4 e4 => ?_⟩⟩
    have m15 : ∀ b, b ∈ X.1 → b ∈ X2.1 := fun b hb => by rw [e2, e15]; exact List.mem_append_left _ hb
    have q2 : q ∈ X2.1 := by rw [e2]; exact s15.1
    have hq3X : q3 ∉ X.1 := fun z => hq3 (m15 _ z)
    have hne : q ≠ q3 := fun z => hq3 (by rw [← z]; exact q2)
    have s2 : Hs X2 q (.inr (5, [.int 49, .null])) := by rw [e2]; exact Hs_up s15.1
    have s4 : Hs X4 q (.inr (5, [.int 49, .null])) := by rw [e4]; exact Hs_add s2 hq3
    have t4 : Hs X4 q3 (.inl (0, 1029, .inl (fun _ => 0))) := by rw [e4]; exact Hs_self
    have bq : ∀ b e, Hs X b e → b ≠ q := fun b e hb z => hq (by rw [← z]; exact hb.1)
    have o4 : ∀ b e, Hs X b e → Hs X4 b e := fun b e hb => by
      rw [e4]
      refine Hs_add ?_ hq3
      rw [e2]
      exact Hs_ne (o15 b e hb) (bq b e hb)
    refine ⟨_, s4, (by decide : 1 < 2), fun X6 e6' => ⟨by omega, by omega, ?_⟩⟩
    have s6 : Hs X6 q (.inr (5, [.int 49, .ref q3])) := by rw [e6']; exact Hs_up s4.1
    have t6 : Hs X6 q3 (.inl (0, 1029, .inl (fun _ => 0))) := by rw [e6']; exact Hs_ne t4 (fun z => hne z.symm)
    have o6 : ∀ b e, Hs X b e → Hs X6 b e := fun b e hb => by
      rw [e6']
      exact Hs_ne (o4 b e hb) (bq b e hb)
    have a6 := o6 _ _ (ar_4_3 R hk_v0)
    refine ⟨_, _, _, a6, s6, hin, fun X22 e22 => ?_⟩
    have R2 : Rel st (fun b s => if b = q then q3 else aa b s) (sN Y v0 x6.toNatClampNeg q) X22 := by
      refine R.newP hk_v0 hq hq3X hne ?_ ?_ ?_ ?_
      · rw [e22]
        exact Hs_ne s6 (fun z => bq _ _ (ar_4_3 R hk_v0) z.symm)
      · rw [e22]
        exact Hs_ne t6 (fun z => hq3X (by rw [z]; exact (ar_4_3 R hk_v0).1))
      · rw [e22]
        exact Hs_up a6.1
      · intro b e hb hbe
        rw [e22]
        exact Hs_ne (o6 b e hbe) hb
    have kq : ¬ tK Y q < 11 := fun z => hq (R.1 q z).1
    have hv0q : v0 ≠ q := fun z => kq (by rw [← z, hk_v0]; decide)
    refine fin _ _ _ _ _ q (by omega) (by omega) R2 (by rw [tK_sN, if_neg hv0q]; exact hk_v0) (by rw [tP_sN, if_pos ⟨rfl, rfl⟩]) (hnew q kq) (fun a ha => ?_)
    rw [tK_sN, if_neg (fun z => kq (by rw [← z]; exact ha))]
  · exact fin _ _ _ _ _ b (z0 _) (z0 _) R hk_v0 c5 (hs b c5) (fun _ _ => rfl)
