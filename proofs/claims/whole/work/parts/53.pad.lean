theorem dW {lo k hi : Nat} (h1 : lo < 2147483648) (h2 : k < 2147483648) (h3 : hi < 2147483648) : decide (nI lo ≤ nI k ∧ nI k ≤ nI hi) = decide (lo ≤ k ∧ k ≤ hi) := by
  apply decide_eq_decide.mpr
  rw [nI_leI h1 h2, nI_leI h2 h3]
def gvN (N : ND) (k v : Nat) : ND := (va_up N.1 k v, N.2)
def dpN (N : ND) (k v : Nat) : ND := (N.1, va_up N.2 k v)
theorem gvN_wf {N : ND} (hN : wfN N) {k v : Nat} (hv : v ≤ 9) : wfN (gvN N k v) := by
  intro i h1 h2
  show va_up N.1 k v i ≤ 9 ∧ N.2 i ≤ 1000
  by_cases c : i = k
  · subst c
    rw [va_up_self]
    exact ⟨hv, (hN i h1 h2).2⟩
  · rw [va_up_ne _ _ c]
    exact hN i h1 h2
theorem dpN_wf {N : ND} (hN : wfN N) {k v : Nat} (hv : v ≤ 1000) : wfN (dpN N k v) := by
  intro i h1 h2
  show N.1 i ≤ 9 ∧ va_up N.2 k v i ≤ 1000
  by_cases c : i = k
  · subst c
    rw [va_up_self]
    exact ⟨(hN i h1 h2).1, hv⟩
  · rw [va_up_ne _ _ c]
    exact hN i h1 h2
section NC
variable {st : TS} {Y : TY} {n : Nat} {N : ND}
theorem c_changeGive {post : Int32 → TY → Prop} (hn : NapP Y n N) {k v : Nat} (h1 : 1 ≤ k) (h3 : k ≤ 3) (hv : v ≤ 9) (hp : ∀ Y', OX (· = n) Y Y' → NapP Y' n (gvN N k v) → post (nI (N.1 k)) Y') : tp_X2_changeGive st post Y n (nI k) (nI v) := by
  unfold tp_X2_changeGive
  refine p_within ?_
  rw [show (1 : Int32) = nI 1 from rfl, show (3 : Int32) = nI 3 from rfl, dW (by omega) (by omega) (by omega), decide_eq_true (show 1 ≤ k ∧ k ≤ 3 from ⟨h1, h3⟩)]
  refine bI_el (fun _ => ⟨vp_in_nI (by omega) (by omega), fun x ex => ⟨vp_in_nI (by omega) (by omega), fun Y4 e4 => ?_⟩⟩) (fun q => by cases q)
  rw [nI_clamp (by omega)] at ex e4
  rw [ex, (hn.2 k h1 h3).1]
  refine hp Y4 (by rw [e4]; exact OX.sF (D := (· = n)) rfl) ⟨gvN_wf hn.1 hv, fun i q1 q2 => ?_⟩
  show tA Y4 n 0 i = nI (va_up N.1 k v i) ∧ tA Y4 n 1 i = nI (N.2 i)
  rw [e4, tA_same, tA_other _ _ (by decide)]
  by_cases c : i = k
  · subst c
    rw [pk_us, va_up_self]
    exact ⟨rfl, (hn.2 i q1 q2).2⟩
  · rw [pk_un c, va_up_ne _ _ c]
    exact hn.2 i q1 q2
theorem c_changeDeep {post : Int32 → TY → Prop} (hn : NapP Y n N) {k v : Nat} (h1 : 1 ≤ k) (h3 : k ≤ 3) (hv : v ≤ 1000) (hp : ∀ Y', OX (· = n) Y Y' → NapP Y' n (dpN N k v) → post (nI (N.2 k)) Y') : tp_X2_changeDeep st post Y n (nI k) (nI v) := by
  unfold tp_X2_changeDeep
  refine p_within ?_
  rw [show (1 : Int32) = nI 1 from rfl, show (3 : Int32) = nI 3 from rfl, dW (by omega) (by omega) (by omega), decide_eq_true (show 1 ≤ k ∧ k ≤ 3 from ⟨h1, h3⟩)]
  refine bI_el (fun _ => ⟨vp_in_nI (by omega) (by omega), fun x ex => ⟨vp_in_nI (by omega) (by omega), fun Y4 e4 => ?_⟩⟩) (fun q => by cases q)
  rw [nI_clamp (by omega)] at ex e4
  rw [ex, (hn.2 k h1 h3).2]
  refine hp Y4 (by rw [e4]; exact OX.sF (D := (· = n)) rfl) ⟨dpN_wf hn.1 hv, fun i q1 q2 => ?_⟩
  show tA Y4 n 0 i = nI (N.1 i) ∧ tA Y4 n 1 i = nI (va_up N.2 k v i)
  rw [e4, tA_same, tA_other _ _ (by decide)]
  by_cases c : i = k
  · subst c
    rw [pk_us, va_up_self]
    exact ⟨(hn.2 i q1 q2).1, rfl⟩
  · rw [pk_un c, va_up_ne _ _ c]
    exact hn.2 i q1 q2
theorem c_napCopy {post : TY → Prop} {b : Nat} {N2 : ND} (hn : NapP Y b N2) (hb : b ≠ n) (hp : ∀ Y', OX (· = n) Y Y' → NapP Y' n N2 → post Y') : tp_X2_copy st post Y n b := by
  unfold tp_X2_copy
  have z0 : ¬ (0 : Int32) < 0 := by decide
  have c4 : (nI 4).toNatClampNeg = 4 := rfl
  have c0 : (0 : Int32).toNatClampNeg = 0 := rfl
  refine ⟨z0, z0, by decide, by decide, by decide, fun Y1 e1 => ⟨z0, z0, by decide, by decide, by decide, fun Y2 e2 => ?_⟩⟩
  refine hp Y2 ?_ ⟨hn.1, fun k q1 q2 => ⟨?_, ?_⟩⟩
  · rw [e2, e1]
    exact (OX.sF (D := (· = n)) rfl).trans (OX.sF (D := (· = n)) rfl)
  · rw [e2, tA_other _ _ (by decide), e1, tA_same, c0, c4, pk_cpy_in (by omega) (by omega), show 0 + (k - 0) = k by omega]
    exact (hn.2 k q1 q2).1
  · rw [e2, tA_same, c0, c4, pk_cpy_in (by omega) (by omega), e1, tA_obj _ _ hb, show 0 + (k - 0) = k by omega]
    exact (hn.2 k q1 q2).2
theorem c_chartCopy {post : TY → Prop} {c d w0 w1 u0 u1 : Nat} {W0 W1 : WD} (e0 : st.2 c 0 0 = some w0) (e1 : st.2 c 0 1 = some w1) (f0 : st.2 d 0 0 = some u0) (f1 : st.2 d 0 1 = some u1) (h0 : WayP Y u0 W0) (h1 : WayP Y u1 W1) (hn : NapP Y (st.1 d 1) N) (n1 : u0 ≠ w0) (n2 : u1 ≠ w0) (n3 : u1 ≠ w1) (n4 : w0 ≠ w1) (n5 : st.1 d 1 ≠ w0) (n6 : st.1 d 1 ≠ w1) (n7 : w0 ≠ st.1 c 1) (n8 : w1 ≠ st.1 c 1) (n9 : st.1 d 1 ≠ st.1 c 1)
    (hp : ∀ Y', OX (fun x => x = w0 ∨ x = w1 ∨ x = st.1 c 1) Y Y' → WayP Y' w0 W0 → WayP Y' w1 W1 → NapP Y' (st.1 c 1) N → post Y') : tp_X1_copy st post Y c d := by
  unfold tp_X1_copy
  refine ⟨3, ?_⟩
  rw [tk_X1_copy_2]
  refine ⟨fun q => absurd q (by decide), fun _ => ⟨(show vp_in (nI 0) 2 from vp_in_nI (by decide) (by decide)), w0, e0, (show vp_in (nI 0) 2 from vp_in_nI (by decide) (by decide)), u0, f0, ?_⟩⟩
  refine c_wayCopy h0 n1 (fun Y1 o1 p1 x ex => ?_)
  rw [ex, tk_X1_copy_2]
  refine ⟨fun q => absurd q (by decide), fun _ => ⟨(show vp_in (nI 1) 2 from vp_in_nI (by decide) (by decide)), w1, e1, (show vp_in (nI 1) 2 from vp_in_nI (by decide) (by decide)), u1, f1, ?_⟩⟩
  refine c_wayCopy (o1.way n2 h1) n3 (fun Y2 o2 p2 x2 ex2 => ?_)
  rw [ex2, tk_X1_copy_2]
  refine ⟨fun _ => ?_, fun q => absurd (by decide) q⟩
  refine c_napCopy (o2.nap n6 (o1.nap n5 hn)) n9 (fun Y3 o3 p3 => ?_)
  exact hp Y3 ((o1.mono (fun b h => Or.inl h)).trans ((o2.mono (fun b h => Or.inr (Or.inl h))).trans (o3.mono (fun b h => Or.inr (Or.inr h))))) (o3.way n7 (o2.way n4 p1)) (o3.way n8 p2) p3
end NC
-- THE PAD
def PadP (Y : TY) (a n : Nat) (sg : Nat → Nat) : Prop := n ≤ 60 ∧ (∀ k, k < n → 33 ≤ sg k ∧ sg k ≤ 126) ∧ tI Y a 0 = nI n ∧ ∀ k, k < n → tA Y a 1 k = nI (sg k)
def thN (c : Nat) : Nat := if c = 49 then 1 else if c = 50 then 2 else if c = 51 then 3 else if c = 108 then 4 else if c = 119 then 0 else 9
def thI (c : Nat) : Int32 := if thN c = 9 then -6 else nI (thN c)
def wtN (w c : Nat) : Nat := if w = 2 then (if c = 46 then 0 else 3) else if c = 33 then (if w = 0 then 1 else 3) else if thN c = 9 then 3 else if thN c = 0 ∧ w = 1 then 3 else if thN c = 3 then 2 else 0
def ftF (sg : Nat → Nat) : Nat → Nat → Nat → Int32
  | 0, k, w => if w = 0 then -6 else nI k
  | j + 1, k, w => if wtN w (sg k) = 3 then nI k else ftF sg j (k + 1) (wtN w (sg k))
theorem PadP.mv {Y Y' : TY} {a n : Nat} {sg : Nat → Nat} (h : PadP Y a n sg) (hI : ∀ t, tI Y' a t = tI Y a t) (hA : ∀ t, tA Y' a t = tA Y a t) : PadP Y' a n sg := by
  unfold PadP at h ⊢
  simp only [hI, hA]
  exact h
theorem thN_c (c : Nat) : thN c = 9 ∨ thN c ≤ 4 := by
  unfold thN
  (repeat' split) <;> omega
theorem wtN_le (w c : Nat) : wtN w c ≤ 3 := by
  unfold wtN
  (repeat' split) <;> omega
section PD
variable {st : TS} {Y : TY} {a n : Nat} {sg : Nat → Nat}
theorem c_thingOf {post : Int32 → Prop} {c : Nat} (hc : c ≤ 126) (hp : post (thI c)) : tp_X3_thingOf st post Y (nI c) := by
  unfold tp_X3_thingOf
  rw [show (49 : Int32) = nI 49 from rfl, show (50 : Int32) = nI 50 from rfl, show (51 : Int32) = nI 51 from rfl, show (108 : Int32) = nI 108 from rfl, show (119 : Int32) = nI 119 from rfl, eqn (by omega) (by omega), eqn (by omega) (by omega), eqn (by omega) (by omega), eqn (by omega) (by omega), eqn (by omega) (by omega)]
  refine ⟨fun q => ?_, fun q => ?_, fun q => ?_, fun q => ?_, fun q => ?_, fun q => ?_⟩
  · subst q
    exact hp
  · subst q
    exact hp
  · subst q
    exact hp
  · subst q
    exact hp
  · subst q
    exact hp
  · obtain ⟨q1, q2, q3, q4, q5⟩ := q
    have : thN c = 9 := by simp only [thN, if_neg q1, if_neg q2, if_neg q3, if_neg q4, if_neg q5]
    unfold thI at hp
    rw [if_pos this] at hp
    exact hp
theorem c_wantedBehind {post : Int32 → Prop} {w c : Nat} (hw : w ≤ 2) (hc : c ≤ 126) (hp : post (nI (wtN w c))) : tp_X3_wantedBehind st post Y (nI w) (nI c) := by
  unfold tp_X3_wantedBehind
  rw [show (33 : Int32) = nI 33 from rfl, show (46 : Int32) = nI 46 from rfl, show (1 : Int32) = nI 1 from rfl, show (0 : Int32) = nI 0 from rfl, show (2 : Int32) = nI 2 from rfl, eqn (by omega) (by omega), eqn (by omega) (by omega), eqn (by omega) (by omega), eqn (by omega) (by omega), eqn (by omega) (by omega)]
  refine ⟨fun q1 => ⟨fun q2 => c_thingOf hc ?_, fun q2 => ⟨fun q3 => ?_, fun q3 => ?_⟩⟩, fun q1 => ⟨fun q2 => ?_, fun q2 => ?_⟩⟩
  · rcases thN_c c with h9 | h4
    · rw [show thI c = -6 by simp [thI, h9]]
      refine ⟨fun _ => ?_, fun q => absurd rfl q⟩
      rw [show wtN w c = 3 by simp [wtN, q1, q2, h9]] at hp
      exact hp
    · have h9 : ¬ thN c = 9 := by omega
      rw [show thI c = nI (thN c) by simp [thI, h9], eqn (by omega) (by omega)]
      refine ⟨fun q => ?_, fun _ => ?_⟩
      · simp (disch := omega) only [i_nI, i_lit, i_neg, i_eq] at q
        omega
      · have key : ¬ (thN c = 0 ∧ w = 1) → tk_X3_wantedBehind_55 st post Y (nI w) (nI c) (nI (thN c)) := by
          intro q5
          unfold tk_X3_wantedBehind_55
          rw [show (3 : Int32) = nI 3 from rfl, eqn (by omega) (by omega)]
          refine ⟨fun q6 => ?_, fun q6 => ?_⟩
          · rw [show wtN w c = 0 by simp only [wtN, if_neg q1, if_neg q2, if_neg h9, if_neg q5, if_neg q6]] at hp
            exact hp
          · rw [show wtN w c = 2 by simp only [wtN, if_neg q1, if_neg q2, if_neg h9, if_neg q5, if_pos q6]] at hp
            exact hp
        refine ⟨fun q3 => key (fun q => q3 q.1), fun q3 => ⟨fun q4 => key (fun q => q4 q.2), fun q4 => ?_⟩⟩
        rw [show wtN w c = 3 by simp only [wtN, if_neg q1, if_neg q2, if_neg h9, if_pos (And.intro q3 q4)]] at hp
        exact hp
  · rw [show wtN w c = 3 by simp [wtN, q1, q2, q3]] at hp
    exact hp
  · rw [show wtN w c = 1 by simp [wtN, q2, q3]] at hp
    exact hp
  · rw [show wtN w c = 3 by simp [wtN, q1, q2]] at hp
    exact hp
  · rw [show wtN w c = 0 by simp [wtN, q1, q2]] at hp
    exact hp
theorem c_fault {post : Int32 → Prop} (hP : PadP Y a n sg) (hp : post (ftF sg n 0 0)) : tp_X3_faultPlace st post Y a := by
  obtain ⟨h60, hs, hc, hg⟩ := hP
  have key : ∀ j k w, k + j = n → w ≤ 2 → post (ftF sg j k w) → tk_X3_faultPlace_4 st post Y a (j + 1) (nI w) (nI k) := by
    intro j
    induction j with
    | zero =>
      intro k w hk hw hpo
      have : k = n := by omega
      subst this
      rw [tk_X3_faultPlace_4, hc, show (0 : Int32) = nI 0 from rfl, eqn (by omega) (by omega)]
      refine ⟨fun _ => ⟨fun q => ?_, fun q => ?_⟩, fun q => absurd (Int32.le_refl _) q⟩
      · unfold ftF at hpo
        rw [if_neg q] at hpo
        exact hpo
      · unfold ftF at hpo
        rw [if_pos q] at hpo
        exact hpo
    | succ j ih =>
      intro k w hk hw hpo
      rw [tk_X3_faultPlace_4, hc, nI_leI (by omega) (by omega), nI_clamp (by omega), hg k (by omega)]
      have := hs k (by omega)
      have w3 := wtN_le w (sg k)
      refine ⟨fun q => by omega, fun _ => ⟨vp_in_nI (by omega) (by omega), c_wantedBehind hw (by omega) ?_⟩⟩
      rw [show (3 : Int32) = nI 3 from rfl, eqn (by omega) (by omega)]
      unfold ftF at hpo
      refine ⟨fun q x ex => ?_, fun q => ?_⟩
      · rw [if_neg q] at hpo
        rw [ex, show nI k + (1 : Int32) = nI (k + 1) from nI_1 k]
        exact ih (k + 1) _ (by omega) (by omega) hpo
      · rw [if_pos q] at hpo
        exact hpo
  exact ⟨n + 1, key n 0 0 (by omega) (by omega) hp⟩
theorem c_write {post : Int32 → TY → Prop} (hP : PadP Y a n sg) {c : Nat} (h1 : 33 ≤ c) (h2 : c ≤ 126) (hp : ∀ Y', n < 60 → OX (· = a) Y Y' → PadP Y' a (n + 1) (va_up sg n c) → post 1 Y') (h0 : n = 60 → post 0 Y) : tp_X3_write st post Y a (nI c) := by
  obtain ⟨h60, hs, hc, hg⟩ := hP
  unfold tp_X3_write
  rw [hc, show (60 : Int32) = nI 60 from rfl, nI_ltI (by omega) (by omega), nI_clamp (by omega)]
  refine ⟨fun q => ⟨vp_in_nI (by omega) (by omega), fun Y2 e2 Y3 e3 => ?_⟩, fun q => h0 (by omega)⟩
  have i2 : tI Y2 a 0 = nI n := by rw [e2]; exact hc
  rw [i2, show nI n + (1 : Int32) = nI (n + 1) from nI_1 n] at e3
  refine hp Y3 q ?_ ⟨by omega, fun k hk => ?_, ?_, fun k hk => ?_⟩
  · rw [e3, e2]
    exact (OX.sF (D := (· = a)) rfl).trans (OX.sI (D := (· = a)) rfl)
  · by_cases e : k = n
    · subst e
      rw [va_up_self]
      exact ⟨h1, h2⟩
    · rw [va_up_ne _ _ e]
      exact hs k (by omega)
  · rw [e3, tI_sI, if_pos ⟨rfl, rfl⟩]
  · rw [e3, tA_sI, e2, tA_same]
    by_cases e : k = n
    · subst e
      rw [pk_us, va_up_self]
    · rw [pk_un e, va_up_ne _ _ e]
      exact hg k (by omega)
end PD
