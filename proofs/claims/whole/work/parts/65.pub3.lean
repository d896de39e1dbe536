def gP (G : GD) (n : Nat) (s : Nat → Nat) : GD := (G.1, G.2.1, G.2.2.1, G.2.2.2.1, G.2.2.2.2.1, n, s)
theorem inB_nI {lo hi k : Nat} (h1 : lo < 2147483648) (h2 : k < 2147483648) (h3 : hi < 2147483648) : inB lo hi (nI k) = decide (lo ≤ k ∧ k ≤ hi) := dW h1 h2 h3
theorem inB_sub {a b c d : Nat} {v : Int32} (hb : b < 1000000000) (ha : a < 1000000000) (hd : d < 1000000000) (h1 : c ≤ a) (h2 : b ≤ d) (h : inB c d v = false) : inB a b v = false := by
  cases e : inB a b v
  · rfl
  · obtain ⟨w, w1, w2, rfl⟩ := rgN ha hb e
    rw [inB_nI (by omega) (by omega) (by omega)] at h
    have := of_decide_eq_false h
    omega
section P5
variable {st : TS} {A : Nat → Nat} {Y Y' : TY} {G : GD}
-- say, wipe, fault
theorem Cl.pad (hS : SA st A) (h : Cl A Y G) (ox : OX (· = A 16) Y Y') {n : Nat} {s : Nat → Nat} (P : PadP Y' (A 16) n s) : Cl A Y' (gP G n s) ∧ CS A 0 Y Y' := by
  have oxn : OX (nm A (fun i => i = 16)) Y Y' := ox.mono (fun b e => ⟨16, by omega, rfl, e⟩)
  have ci := h.1.2.2.2.2
  have sm : ∀ i, i < 20 → i ≠ 16 → (∀ t, tI Y' (A i) t = tI Y (A i) t) ∧ (∀ t, tA Y' (A i) t = tA Y (A i) t) := fun i hi q => by
    obtain ⟨o1, o2, o3⟩ := oxn.1 (A i) (hS.nn hi q)
    exact ⟨o1, o2⟩
  refine ⟨h.ox hS oxn (by omega) (by omega) (by omega) rfl rfl ⟨fun m hm => ⟨?_, fun hk => ⟨fun w hw => ?_, ?_⟩⟩, P⟩, oxn.cs hS (by omega)⟩
  · rw [(sm 0 (by omega) (by omega)).2]
    exact (ci.1 m hm).1
  · exact (((ci.1 m hm).2 hk).1 w hw).mv (sm (6 + 2 * m + w) (by omega) (by omega)).1 (sm _ (by omega) (by omega)).2
  · exact ((ci.1 m hm).2 hk).2.mv (sm (11 + m) (by omega) (by omega)).2
theorem Mo.pad {m : Nat} (hM : Mo m Y G) (mx : MX m (fun t => t = 9 ∨ t = 10) Y Y') {n : Nat} {s : Nat → Nat} (P : MPP Y' m n s) : Mo m Y' (gP G n s) := by
  obtain ⟨h1, h2, h3, h4, h5⟩ := hM
  refine ⟨fun w hw => ⟨(h1 w hw).1, mx.mw (fun t q z => by omega) (h1 w hw).2.1, ?_⟩, h2, mx.mn (fun t q1 q2 z => by omega) h3, P, fun n hn => ?_⟩
  · rw [(mx.2.1 20 (by omega)).2]
    rcases (h1 w hw).2.2 with a | ⟨a, b⟩
    · exact Or.inl a
    · exact Or.inr ⟨a, b.mv (mx.2.1 19 (by omega)).2⟩
  · obtain ⟨b1, b2⟩ := h5 n hn
    exact ⟨by rw [(mx.2.1 24 (by omega)).2]; exact b1, fun hk => ⟨(b2 hk).1, (b2 hk).2.1, (b2 hk).2.2.mv (mx.2.1 23 (by omega)).2⟩⟩
def sSay (G : GD) (v : Int32) : Int32 × GD := cond (inB 33 126 v) (cond (decide (G.2.2.2.2.2.1 = 60)) (-4, G) (nI (G.2.2.2.2.2.1 + 1), gP G (G.2.2.2.2.2.1 + 1) (va_up G.2.2.2.2.2.2 G.2.2.2.2.2.1 (cN v)))) (-2, G)
theorem k_say {post : Int32 → TY → Prop} {v : Int32} (hS : SA st A) (hC : Cl A Y G) (hp : ∀ Y', Cl A Y' (sSay G v).2 → CS A 0 Y Y' → post (sSay G v).1 Y') : tp_X9_say st post Y (A 0) v := by
  unfold tp_X9_say
  unfold sSay at hp
  rw [hS.2.2.1]
  refine q_within 33 126 (bI_el (fun c => ?_) (fun c => ?_))
  · obtain ⟨k, k1, k2, rfl⟩ := rgN (by omega) (by omega) c
    rw [c, cN_nI (by omega)] at hp
    refine c_write hC.1.2.2.2.2.2 k1 k2 (fun Y1 hn ox P => ⟨fun q => absurd q (by decide), fun _ => ?_⟩) (fun hn => ⟨fun _ => ?_, fun q => absurd rfl q⟩)
    · rw [decide_eq_false (show ¬ G.2.2.2.2.2.1 = 60 by omega)] at hp
      obtain ⟨d1, d2⟩ := hC.pad hS ox P
      rw [P.2.2.1]
      exact hp Y1 d1 d2
    · rw [decide_eq_true hn] at hp
      exact hp Y hC (CS.refl A Y)
  · rw [c] at hp
    exact hp Y hC (CS.refl A Y)
theorem j_say {post : Int32 → TY → Prop} {v : Int32} (hM : Mo (A 19) Y G) (hp : ∀ Y', Mo (A 19) Y' (sSay G v).2 → MS A Y Y' → post (sSay G v).1 Y') : tp_X10_say st post Y (A 19) v := by
  obtain ⟨p1, p2, p3, p4⟩ := hM.2.2.2.1
  unfold tp_X10_say
  unfold sSay at hp
  refine q_in 33 126 (bI_el (fun c => ?_) (fun c => ?_))
  · obtain ⟨k, k1, k2, rfl⟩ := rgN (by omega) (by omega) c
    rw [c, cN_nI (by omega)] at hp
    rw [p3, show (60 : Int32) = nI 60 from rfl, eqn (by omega) (by omega)]
    refine ⟨fun q => ⟨vp_in_nI (by omega) (by omega), fun Y4 e4 Y5 e5 => ?_⟩, fun q => ?_⟩
    · rw [decide_eq_false q] at hp
      rw [nI_clamp (by omega)] at e4
      have i4 : tI Y4 (A 19) 10 = nI G.2.2.2.2.2.1 := by rw [e4]; exact p3
      rw [i4, show nI G.2.2.2.2.2.1 + (1 : Int32) = nI (G.2.2.2.2.2.1 + 1) from nI_1 _] at e5
      have i5 : tI Y5 (A 19) 10 = nI (G.2.2.2.2.2.1 + 1) := by rw [e5, tI_sI, if_pos ⟨rfl, rfl⟩]
      have mx : MX (A 19) (fun t => t = 9 ∨ t = 10) Y Y5 := by
        rw [e5, e4]
        exact (MX.sF (S := fun t => t = 9 ∨ t = 10) (Or.inl rfl)).trans (MX.sI (S := fun t => t = 9 ∨ t = 10) (Or.inr rfl))
      rw [i5]
      refine hp Y5 (hM.pad mx ⟨by omega, fun i hi => ?_, i5, fun i hi => ?_⟩) mx.ms
      · by_cases e : i = G.2.2.2.2.2.1
        · subst e
          rw [va_up_self]
          exact ⟨k1, k2⟩
        · rw [va_up_ne _ _ e]
          exact p2 i (by omega)
      · rw [e5, tA_sI, e4, tA_same]
        by_cases e : i = G.2.2.2.2.2.1
        · subst e
          rw [pk_us, va_up_self]
        · rw [pk_un e, va_up_ne _ _ e]
          exact p4 i (by omega)
    · rw [decide_eq_true q] at hp
      exact hp Y hM (MS.refl A Y)
  · rw [c] at hp
    exact hp Y hM (MS.refl A Y)
def sWipe (G : GD) : Int32 × GD := (nI G.2.2.2.2.2.1, gP G 0 G.2.2.2.2.2.2)
theorem k_wipe {post : Int32 → TY → Prop} (hS : SA st A) (hC : Cl A Y G) (hp : ∀ Y', Cl A Y' (sWipe G).2 → CS A 0 Y Y' → post (sWipe G).1 Y') : tp_X9_wipe st post Y (A 0) := by
  unfold tp_X9_wipe
  rw [hS.2.2.1]
  intro Y2 e2
  rw [hC.1.2.2.2.2.2.2.2.1]
  obtain ⟨d1, d2⟩ := hC.pad (Y' := Y2) (n := 0) (s := G.2.2.2.2.2.2) hS (by rw [e2]; exact OX.sI (D := (· = A 16)) rfl) ⟨Nat.zero_le _, fun k hk => absurd hk (Nat.not_lt_zero _), by rw [e2, tI_sI, if_pos ⟨rfl, rfl⟩]; rfl, fun k hk => absurd hk (Nat.not_lt_zero _)⟩
  exact hp Y2 d1 d2
theorem j_wipe {post : Int32 → TY → Prop} (hM : Mo (A 19) Y G) (hp : ∀ Y', Mo (A 19) Y' (sWipe G).2 → MS A Y Y' → post (sWipe G).1 Y') : tp_X10_wipe st post Y (A 19) := by
  unfold tp_X10_wipe
  intro Y1 e1
  have mx : MX (A 19) (fun t => t = 9 ∨ t = 10) Y Y1 := by
    rw [e1]
    exact MX.sI (S := fun t => t = 9 ∨ t = 10) (Or.inr rfl)
  rw [hM.2.2.2.1.2.2.1]
  exact hp Y1 (hM.pad mx ⟨Nat.zero_le _, fun k hk => absurd hk (Nat.not_lt_zero _), by rw [e1, tI_sI, if_pos ⟨rfl, rfl⟩]; rfl, fun k hk => absurd hk (Nat.not_lt_zero _)⟩) mx.ms
def sFault (G : GD) : Int32 := ftF G.2.2.2.2.2.2 G.2.2.2.2.2.1 0 0
theorem k_fault {post : Int32 → Prop} (hS : SA st A) (hC : Cl A Y G) (hp : post (sFault G)) : tp_X9_fault st post Y (A 0) := by
  unfold tp_X9_fault
  rw [hS.2.2.1]
  exact c_fault hC.1.2.2.2.2.2 hp
theorem j_fault {post : Int32 → Prop} (hM : Mo (A 19) Y G) (hp : post (sFault G)) : tp_X10_fault st post Y (A 19) := m_fault hM.2.2.2.1 hp
-- told
def tdN (G : GD) (k : Nat) : Int32 := if k = 0 then nI G.2.2.2.2.2.1 else if k ≤ 2 then nI (G.1 (k - 1)).1 else if k ≤ 4 then nI (hrs (G.1 (k - 3))) else if k ≤ 7 then nI (G.2.1.1 (k - 4)) else nI (G.2.1.2 (k - 7))
def sTold (G : GD) (v : Int32) : Int32 := cond (inB 0 10 v) (tdN G (cN v)) (-2)
theorem k_told {post : Int32 → Prop} {v : Int32} (hS : SA st A) (hC : Cl A Y G) (hp : post (sTold G v)) : tp_X9_told st post Y (A 0) v := by
  unfold tp_X9_told
  unfold sTold at hp
  rw [hS.2.1, hS.2.2.1, hS.2.2.2.2.1]
  refine q_within 0 10 (bI_el (fun c => ?_) (fun c => ?_))
  rotate_left
  · rw [c] at hp
    exact hp
  obtain ⟨k, k1, k2, rfl⟩ := rgN (by omega) (by omega) c
  rw [c, cN_nI (by omega)] at hp
  have hp : post (tdN G k) := hp
  have e0 : (nI k = 0) = (k = 0) := by rw [show (0 : Int32) = nI 0 from rfl, eqn (by omega) (by omega)]
  rw [e0, show (2 : Int32) = nI 2 from rfl, show (4 : Int32) = nI 4 from rfl, show (7 : Int32) = nI 7 from rfl, nI_ltI (by omega) (by omega), nI_ltI (by omega) (by omega), nI_ltI (by omega) (by omega)]
  unfold tdN at hp
  refine ⟨fun c0 => ⟨fun c2 => ⟨fun c4 => ⟨fun c7 => ?_, fun c7 => ?_⟩, fun c4 => ?_⟩, fun c2 => ?_⟩, fun c0 => ?_⟩
  · rw [if_neg c0, if_neg (by omega), if_neg (by omega), if_neg (by omega)] at hp
    rw [pk_sub (by omega), nI_clamp (by omega), (hC.1.2.2.1.2 (k - 7) (by omega) (by omega)).2]
    exact ⟨vp_in_nI (by omega) (by omega), hp⟩
  · rw [if_neg c0, if_neg (by omega), if_neg (by omega), if_pos (by omega)] at hp
    rw [pk_sub (by omega), nI_clamp (by omega), (hC.1.2.2.1.2 (k - 4) (by omega) (by omega)).1]
    exact ⟨vp_in_nI (by omega) (by omega), hp⟩
  · rw [if_neg c0, if_neg (by omega), if_pos (by omega)] at hp
    rw [show (3 : Int32) = nI 3 from rfl, pk_sub (by omega), nI_clamp (by omega)]
    refine ⟨vp_in_nI (by omega) (by omega), _, (hS.2.2.2.2.2.2.2.1 (k - 3) (by omega)).1, ?_⟩
    rw [(hC.1.2.1 (k - 3) (by omega)).2.2.1]
    exact hp
  · rw [if_neg c0, if_pos (by omega)] at hp
    rw [show nI k - (1 : Int32) = nI (k - 1) from pk_sub (b := 1) (by omega), nI_clamp (by omega)]
    refine ⟨vp_in_nI (by omega) (by omega), _, (hS.2.2.2.2.2.2.2.1 (k - 1) (by omega)).1, ?_⟩
    rw [(hC.1.2.1 (k - 1) (by omega)).2.1]
    exact hp
  · rw [if_pos c0] at hp
    rw [hC.1.2.2.2.2.2.2.2.1]
    exact hp
theorem j_told {post : Int32 → Prop} {v : Int32} (hM : Mo (A 19) Y G) (hp : post (sTold G v)) : tp_X10_told st post Y (A 19) v := by
  unfold tp_X10_told
  unfold sTold at hp
  cases c : inB 0 10 v
  · rw [c] at hp
    refine q_in 1 2 ?_
    rw [inB_sub (by omega) (by omega) (by omega) (by omega) (by omega) c]
    refine ⟨fun _ => q_in 3 4 ?_, fun q => absurd rfl q⟩
    rw [inB_sub (by omega) (by omega) (by omega) (by omega) (by omega) c]
    refine ⟨fun _ => q_in 5 7 ?_, fun q => absurd rfl q⟩
    rw [inB_sub (by omega) (by omega) (by omega) (by omega) (by omega) c]
    refine ⟨fun _ => q_in 8 10 ?_, fun q => absurd rfl q⟩
    rw [inB_sub (by omega) (by omega) (by omega) (by omega) (by omega) c]
    refine ⟨fun _ => ⟨fun _ => hp, fun q => ?_⟩, fun q => absurd rfl q⟩
    subst q
    exact absurd c (by decide)
  · obtain ⟨k, k1, k2, rfl⟩ := rgN (by omega) (by omega) c
    rw [c, cN_nI (by omega)] at hp
    have hp : post (tdN G k) := hp
    unfold tdN at hp
    have e0 : (nI k = 0) = (k = 0) := by rw [show (0 : Int32) = nI 0 from rfl, eqn (by omega) (by omega)]
    refine q_in 1 2 ?_
    rw [inB_nI (by omega) (by omega) (by omega)]
    refine bI_el' (fun c1 => q_in 3 4 ?_) (fun c1 => ?_)
    · have c1 := of_decide_eq_false c1
      rw [inB_nI (by omega) (by omega) (by omega)]
      refine bI_el' (fun c2 => q_in 5 7 ?_) (fun c2 => ?_)
      · have c2 := of_decide_eq_false c2
        rw [inB_nI (by omega) (by omega) (by omega)]
        refine bI_el' (fun c3 => q_in 8 10 ?_) (fun c3 => ?_)
        · have c3 := of_decide_eq_false c3
          rw [inB_nI (by omega) (by omega) (by omega), e0]
          refine bI_el' (fun c4 => ⟨fun q => ?_, fun q => ?_⟩) (fun c4 => ?_)
          · have c4 := of_decide_eq_false c4
            omega
          · rw [if_pos q] at hp
            rw [hM.2.2.2.1.2.2.1]
            exact hp
          · have c4 := of_decide_eq_true c4
            rw [if_neg (by omega), if_neg (by omega), if_neg (by omega), if_neg (by omega)] at hp
            have := (hM.2.2.1 (k - 7) (by omega) (by omega)).2
            rw [show (8 : Int32) = nI 8 from rfl, pk_sub (by omega), nI_clamp (by omega)]
            rw [show k - 7 - 1 = k - 8 by omega] at this
            rw [this]
            exact ⟨vp_in_nI (by omega) (by omega), hp⟩
        · have c3 := of_decide_eq_true c3
          rw [if_neg (by omega), if_neg (by omega), if_neg (by omega), if_pos (by omega)] at hp
          have := (hM.2.2.1 (k - 4) (by omega) (by omega)).1
          rw [show (5 : Int32) = nI 5 from rfl, pk_sub (by omega), nI_clamp (by omega)]
          rw [show k - 4 - 1 = k - 5 by omega] at this
          rw [this]
          exact ⟨vp_in_nI (by omega) (by omega), hp⟩
      · have c2 := of_decide_eq_true c2
        rw [if_neg (by omega), if_neg (by omega), if_pos (by omega)] at hp
        rw [show (3 : Int32) = nI 3 from rfl, pk_sub (by omega), nI_clamp (by omega), (hM.1 (k - 3) (by omega)).2.1.2.1]
        exact ⟨vp_in_nI (by omega) (by omega), hp⟩
    · have c1 := of_decide_eq_true c1
      rw [if_neg (by omega), if_pos (by omega)] at hp
      rw [show nI k - (1 : Int32) = nI (k - 1) from pk_sub (b := 1) (by omega), nI_clamp (by omega), (hM.1 (k - 1) (by omega)).2.1.1]
      exact ⟨vp_in_nI (by omega) (by omega), hp⟩
-- up, trust
def guB (g c o : Nat) : Bool := decide (1000 * (1 + 10 * o) ≤ g * c)
theorem c_getsUp {post : Int32 → Prop} {g c o : Nat} (hg : g ≤ 1001) (hc : c ≤ 10000) (ho : o ≤ 20) (hp : post (bI (guB g c o))) : tp_X9_getsUp st post Y (nI g) (nI c) (nI o) := by
  have hm : g * c ≤ 1001 * 10000 := Nat.mul_le_mul hg hc
  unfold tp_X9_getsUp
  rw [show (1000 : Int32) = nI 1000 from rfl, show (10 : Int32) = nI 10 from rfl, show (1 : Int32) = nI 1 from rfl, pk_mul, pk_mul, nI_add, pk_mul, nI_ltI (by omega) (by omega)]
  exact ⟨fun q => bI_f hp (decide_eq_false (by omega)), fun q => bI_t hp (decide_eq_true (by omega))⟩
theorem m_getsUp {post : Int32 → Prop} {g c o : Nat} (hg : g ≤ 1001) (hc : c ≤ 10000) (ho : o ≤ 20) (hp : post (bI (guB g c o))) : tp_X10_getsUp st post Y (nI g) (nI c) (nI o) := by
  have hm : g * c ≤ 1001 * 10000 := Nat.mul_le_mul hg hc
  unfold tp_X10_getsUp
  rw [show (1000 : Int32) = nI 1000 from rfl, show (10 : Int32) = nI 10 from rfl, show (1 : Int32) = nI 1 from rfl, pk_mul, pk_mul, nI_add, pk_mul, Nat.mul_comm c g, nI_ltI (by omega) (by omega)]
  exact ⟨fun q => bI_f hp (decide_eq_false (by omega)), fun q => bI_t hp (decide_eq_true (by omega))⟩
def sUp (v1 v2 v3 : Int32) : Int32 := cond (inB 0 1000 v1 && inB 0 10000 v2 && inB 0 20 v3) (bI (guB (cN v1) (cN v2) (cN v3))) (-2)
theorem k_up {post : Int32 → Prop} {v1 v2 v3 : Int32} (hp : post (sUp v1 v2 v3)) : tp_X9_up st post Y (A 0) v1 v2 v3 := by
  unfold tp_X9_up
  unfold sUp at hp
  refine q_within 0 1000 (bI_el' (fun c1 => ?_) (fun c1 => q_within 0 10000 (bI_el' (fun c2 => ?_) (fun c2 => q_cOwed (bI_el (fun c3 => ?_) (fun c3 => ?_))))))
  · rw [c1] at hp
    exact hp
  · rw [c1, c2] at hp
    exact hp
  · obtain ⟨g, g1, g2, rfl⟩ := rgN (by omega) (by omega) c1
    obtain ⟨c, d1, d2, rfl⟩ := rgN (by omega) (by omega) c2
    obtain ⟨o, o1, o2, rfl⟩ := rgN (by omega) (by omega) c3
    rw [c1, c2, c3, cN_nI (by omega), cN_nI (by omega), cN_nI (by omega)] at hp
    refine c_getsUp (by omega) d2 o2 (bI_el' (fun q => ?_) (fun q => ?_))
    · rw [q] at hp
      exact hp
    · rw [q] at hp
      exact hp
  · rw [c1, c2, c3] at hp
    exact hp
theorem j_up {post : Int32 → Prop} {v1 v2 v3 : Int32} (hp : post (sUp v1 v2 v3)) : tp_X10_up st post Y (A 19) v1 v2 v3 := by
  unfold tp_X10_up
  unfold sUp at hp
  refine q_in 0 1000 (bI_el' (fun c1 => ?_) (fun c1 => q_in 0 10000 (bI_el' (fun c2 => ?_) (fun c2 => q_isOwed (bI_el (fun c3 => ?_) (fun c3 => ?_))))))
  · rw [c1] at hp
    exact hp
  · rw [c1, c2] at hp
    exact hp
  · obtain ⟨g, g1, g2, rfl⟩ := rgN (by omega) (by omega) c1
    obtain ⟨c, d1, d2, rfl⟩ := rgN (by omega) (by omega) c2
    obtain ⟨o, o1, o2, rfl⟩ := rgN (by omega) (by omega) c3
    rw [c1, c2, c3, cN_nI (by omega), cN_nI (by omega), cN_nI (by omega)] at hp
    refine m_getsUp (by omega) d2 o2 (bI_el' (fun q => ?_) (fun q => ?_))
    · rw [q] at hp
      exact hp
    · rw [q] at hp
      exact hp
  · rw [c1, c2, c3] at hp
    exact hp
def sTrust (v1 v2 : Int32) : Int32 := cond (inB 0 10000 v1 && inB 0 20 v2) (nI (fsF (fun g => guB g (cN v1) (cN v2)) 1001 0)) (-2)
theorem k_trust {post : Int32 → Prop} {v1 v2 : Int32} (hp : post (sTrust v1 v2)) : tp_X9_trust st post Y (A 0) v1 v2 := by
  unfold tp_X9_trust
  unfold sTrust at hp
  refine q_within 0 10000 (bI_el' (fun c1 => ?_) (fun c1 => q_cOwed (bI_el (fun c2 => ?_) (fun c2 => ?_))))
  · rw [c1] at hp
    exact hp
  · obtain ⟨c, d1, d2, rfl⟩ := rgN (by omega) (by omega) c1
    obtain ⟨o, o1, o2, rfl⟩ := rgN (by omega) (by omega) c2
    rw [c1, c2, cN_nI (by omega), cN_nI (by omega)] at hp
    have hp : post (nI (fsF (fun g => guB g c o) 1001 0)) := hp
    have key : ∀ j g, g + j = 1001 → post (nI (fsF (fun g => guB g c o) j g)) → tk_X9_trust_23 st post Y (A 0) (nI c) (nI o) (j + 1) (nI g) := by
      intro j
      induction j with
      | zero =>
        intro g hg hpo
        have : g = 1001 := by omega
        subst this
        rw [tk_X9_trust_23]
        exact ⟨fun _ => hpo, fun q => absurd (by decide) q⟩
      | succ j ih =>
        intro g hg hpo
        rw [tk_X9_trust_23, show (1000 : Int32) = nI 1000 from rfl, nI_ltI (by omega) (by omega)]
        unfold fsF at hpo
        refine ⟨fun q => by omega, fun _ => c_getsUp (by omega) d2 o2 (bI_el' (fun q x ex => ?_) (fun q => ?_))⟩
        · rw [ex, show nI g + (1 : Int32) = nI (g + 1) from nI_1 g]
          rw [if_neg (by rw [q]; decide)] at hpo
          exact ih (g + 1) (by omega) hpo
        · rw [if_pos q] at hpo
          exact hpo
    exact ⟨1002, key 1001 0 rfl hp⟩
  · rw [c1, c2] at hp
    exact hp
theorem j_trust {post : Int32 → Prop} {v1 v2 : Int32} (hp : post (sTrust v1 v2)) : tp_X10_trust st post Y (A 19) v1 v2 := by
  unfold tp_X10_trust
  unfold sTrust at hp
  refine q_in 0 10000 (bI_el' (fun c1 => ?_) (fun c1 => q_isOwed (bI_el (fun c2 => ?_) (fun c2 => ?_))))
  · rw [c1] at hp
    exact hp
  · obtain ⟨c, d1, d2, rfl⟩ := rgN (by omega) (by omega) c1
    obtain ⟨o, o1, o2, rfl⟩ := rgN (by omega) (by omega) c2
    rw [c1, c2, cN_nI (by omega), cN_nI (by omega)] at hp
    have hp : post (nI (fsF (fun g => guB g c o) 1001 0)) := hp
    have key : ∀ j g, g + j = 1001 → post (nI (fsF (fun g => guB g c o) j g)) → tk_X10_trust_24 st post Y (A 19) (nI c) (nI o) (j + 1) (nI g) := by
      intro j
      induction j with
      | zero =>
        intro g hg hpo
        have : g = 1001 := by omega
        subst this
        rw [tk_X10_trust_24]
        exact ⟨fun _ => hpo, fun q => absurd (by decide) q⟩
      | succ j ih =>
        intro g hg hpo
        rw [tk_X10_trust_24, show (1000 : Int32) = nI 1000 from rfl, nI_ltI (by omega) (by omega)]
        unfold fsF at hpo
        refine ⟨fun q => by omega, fun _ => m_getsUp (by omega) d2 o2 (bI_el (fun q => ?_) (fun q x ex => ?_))⟩
        · rw [if_pos q] at hpo
          exact hpo
        · rw [ex, show nI g + (1 : Int32) = nI (g + 1) from nI_1 g]
          rw [if_neg (by rw [q]; decide)] at hpo
          exact ih (g + 1) (by omega) hpo
    exact ⟨1002, key 1001 0 rfl hp⟩
  · rw [c1, c2] at hp
    exact hp
end P5
