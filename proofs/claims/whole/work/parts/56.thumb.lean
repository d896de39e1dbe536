-- THUMBS AND TURNS
def saB (W : WD) (r h o : Nat) : Bool := if r = 1 then decide (8 ≤ o) else if r = 2 then decide (4 ≤ o) && decide (shp W h < 50) else decide (1 ≤ o) && nigB h
def tuN (W : WD) (r h o : Nat) : Nat := if r = 0 then (if h % 2 = 1 ∧ letB W h 1 = true then 1 else 0) else if saB W r h o = true then (if letB W h 3 = true then 3 else if letB W h 2 = true then 2 else 0) else 0
def taF (W : WD) (N : ND) (r : Nat) : Nat → QD → QD
  | 0, Q => Q
  | j + 1, Q => if hrs W ≤ Q.1 then Q else taF W N r j (ddQ W N Q (tuN W r Q.1 Q.2.1) 0)
theorem tuN_ok {W : WD} {r h o : Nat} (hh : h < hrs W) : tuN W r h o ≤ 3 ∧ letB W h (tuN W r h o) = true := by
  have z : letB W h 0 = true := by simp [letB, hh]
  unfold tuN
  split
  · split
    · rename_i c
      exact ⟨by omega, c.2⟩
    · exact ⟨by omega, z⟩
  · split
    · split
      · rename_i c
        exact ⟨by omega, c⟩
      · split
        · rename_i c
          exact ⟨by omega, c⟩
        · exact ⟨by omega, z⟩
    · exact ⟨by omega, z⟩
theorem bat_even (t : Nat) : bat (2 * t + 0) = 0 := by
  unfold bat
  rw [if_pos (by omega)]
theorem hof_T {t : Nat} (ht : t ≤ 3) : hof t = if t = 3 then 2 else 1 := by
  unfold hof
  rw [if_neg (by omega)]
/-- a thumb's thing can be -/
theorem tu_step {W : WD} {N : ND} {r : Nat} {Q : QD} (hq : wfQ W Q) (hh : Q.1 < hrs W) : dcQ W Q (tuN W r Q.1 Q.2.1) 0 = true ∧ wfQ W (ddQ W N Q (tuN W r Q.1 Q.2.1) 0) ∧ Q.1 + (if tuN W r Q.1 Q.2.1 = 3 then 2 else 1) = (ddQ W N Q (tuN W r Q.1 Q.2.1) 0).1 ∧ (ddQ W N Q (tuN W r Q.1 Q.2.1) 0).2.2.2.1 = Q.2.2.2.1 + (if tuN W r Q.1 Q.2.1 = 3 then 2 else 1) := by
  obtain ⟨t3, tl⟩ := tuN_ok (r := r) (o := Q.2.1) hh
  have hd : dcQ W Q (tuN W r Q.1 Q.2.1) 0 = true := by
    simp only [dcQ, Bool.and_eq_true, decide_eq_true_eq]
    exact ⟨tl, by rw [bat_even]; exact Nat.zero_le _⟩
  refine ⟨hd, ddQ_wf hq hd, ?_, ddT_1 W N Q _ 0⟩
  show _ = Q.1 + hof _
  rw [hof_T t3]
section TH
variable {st : TS} {Y : TY} {a b : Nat} {W : WD} {N : ND} {Q : QD}
theorem c_saidBy {post : Int32 → Prop} (hB : BoP st Y b a W N Q) (hh : Q.1 < hrs W) (ho : Q.2.1 ≤ 20) {r : Nat} (h1 : 1 ≤ r) (h3 : r ≤ 3) (hp : post (bI (saB W r Q.1 Q.2.1))) : tp_X0_saidByThumb st post Y b (nI r) := by
  obtain ⟨k1, k2, k3, k4, w1, w2, w3, w4, i3, i4, i5⟩ := id hB
  have h48 := w2.1.2.1
  have hs := shp_le w2.1 Q.1
  unfold tp_X0_saidByThumb
  rw [i3, i4, show (8 : Int32) = nI 8 from rfl, show (4 : Int32) = nI 4 from rfl, show (2 : Int32) = nI 2 from rfl, show (1 : Int32) = nI 1 from rfl, eqn (by omega) (by omega), eqn (by omega) (by omega), nI_ltI (by omega) (by omega), nI_ltI (by omega) (by omega), nI_ltI (by omega) (by omega)]
  unfold saB at hp
  refine ⟨fun c => ?_, fun c => ?_, fun c => ?_⟩
  · rw [if_pos c] at hp
    exact ⟨fun q => bI_f hp (decide_eq_false (by omega)), fun q => bI_t hp (decide_eq_true (by omega))⟩
  · rw [if_neg (by omega), if_pos c] at hp
    refine ⟨fun q => bI_f hp (by rw [decide_eq_false (by omega)]; rfl), fun q => ⟨fun z => (by rw [w1] at z; cases z), fun y hy => ?_⟩⟩
    rw [w1] at hy
    cases hy
    refine p_shipsAt w2 (by omega) ?_
    rw [if_pos hh, show (50 : Int32) = nI 50 from rfl, nI_leI (by omega) (by omega)]
    exact ⟨fun z => bI_f hp (by rw [decide_eq_true (show 4 ≤ Q.2.1 by omega), decide_eq_false (show ¬ shp W Q.1 < 50 by omega)]; rfl), fun z => bI_t hp (by rw [decide_eq_true (show 4 ≤ Q.2.1 by omega), decide_eq_true (show shp W Q.1 < 50 by omega)]; rfl)⟩
  · rw [if_neg c.1, if_neg c.2] at hp
    refine ⟨fun q => bI_f hp (by rw [decide_eq_false (by omega)]; rfl), fun q => p_night (by omega) (bI_el' (fun z => bI_f hp (by rw [z]; simp)) (fun z => bI_t hp (by rw [z, decide_eq_true (show 1 ≤ Q.2.1 by omega)]; rfl)))⟩
theorem c_thingBy {post : Int32 → Prop} (hB : BoP st Y b a W N Q) (hh : Q.1 < hrs W) (ho : Q.2.1 ≤ 20) {r : Nat} (h3 : r ≤ 3) (hp : post (nI (tuN W r Q.1 Q.2.1))) : tp_X0_thingByThumb st post Y b (nI r) := by
  obtain ⟨k1, k2, k3, k4, w1, w2, w3, w4, i3, i4, i5⟩ := id hB
  have h48 := w2.1.2.1
  unfold tp_X0_thingByThumb
  rw [i3, show (2 : Int32) = nI 2 from rfl, pk_rem (by omega) (by omega) (by omega)]
  have e0 : (nI r = 0) = (r = 0) := by rw [show (0 : Int32) = nI 0 from rfl, eqn (by omega) (by omega)]
  have e1 : (nI (Q.1 % 2) = (1 : Int32)) = (Q.1 % 2 = 1) := by rw [show (1 : Int32) = nI 1 from rfl, eqn (by omega) (by omega)]
  have no : ∀ {A : Prop}, tW Y b = none → A := fun z => by rw [w1] at z; cases z
  rw [e0, e1]
  unfold tuN at hp
  refine ⟨fun c => c_saidBy hB hh ho (by omega) h3 (bI_el (fun s => ⟨fun z => no z, fun y hy => ?_⟩) (fun s => ?_)), fun c => ⟨fun s => ?_, fun s => ⟨fun z => no z, fun y hy => ?_⟩⟩⟩
  · rw [w1] at hy
    cases hy
    rw [if_neg c, if_pos s] at hp
    refine p_lets (t := 3) w2 (by omega) (by omega) (bI_el' (fun l3 => ⟨fun z => no z, fun y8 hy8 => ?_⟩) (fun l3 => ?_))
    · rw [w1] at hy8
      cases hy8
      rw [if_neg (by rw [l3]; decide)] at hp
      refine p_lets (t := 2) w2 (by omega) (by omega) (bI_el' (fun l2 => ?_) (fun l2 => ?_))
      · rw [if_neg (by rw [l2]; decide)] at hp
        exact hp
      · rw [if_pos l2] at hp
        exact hp
    · rw [if_pos l3] at hp
      exact hp
  · rw [if_neg c, if_neg (by rw [s]; decide)] at hp
    exact hp
  · rw [if_pos c, if_neg (fun z => s z.1)] at hp
    exact hp
  · rw [w1] at hy
    cases hy
    rw [if_pos c] at hp
    refine p_lets (t := 1) w2 (by omega) (by omega) (bI_el' (fun l3 => ?_) (fun l3 => ?_))
    · rw [if_neg (fun z => absurd z.2 (by rw [l3]; decide))] at hp
      exact hp
    · rw [if_pos ⟨s, l3⟩] at hp
      exact hp
theorem c_sailByThumb {post : TY → Prop} (hB : BoP st Y b a W N Q) (hq : wfQ W Q) (hT : Q.2.2.2.1 ≤ Q.1) {r : Nat} (h3 : r ≤ 3) (hp : ∀ Y', OX (boD st b) Y Y' → BoP st Y' b a W N (taF W N r 48 Q) → post Y') : tp_X0_sailByThumb st post Y b (nI r) := by
  have hpz := hp
  clear hp
  have h48 := hB.2.2.2.2.2.1.1.2.1
  have key : ∀ j i Q Yc, i + j = 48 → hrs W - Q.1 ≤ j → Q.2.2.2.1 ≤ Q.1 → wfQ W Q → OX (boD st b) Y Yc → BoP st Yc b a W N Q → (∀ Y', OX (boD st b) Y Y' → BoP st Y' b a W N (taF W N r j Q) → post Y') → tk_X0_sailByThumb_10 st post b (nI r) (j + 1) Yc (nI i) := by
    intro j
    induction j with
    | zero =>
      intro i Q Yc hi hj hT hq ox hB hp
      have : i = 48 := by omega
      subst this
      rw [tk_X0_sailByThumb_10]
      exact ⟨fun _ => hp Yc ox hB, fun q => absurd (Int32.le_refl _) q⟩
    | succ j ih =>
      intro i Q Yc hi hj hT hq ox hB hp
      obtain ⟨k1, k2, k3, k4, w1, w2, w3, w4, i3, i4, i5⟩ := id hB
      rw [tk_X0_sailByThumb_10, show (48 : Int32) = nI 48 from rfl, nI_leI (by omega) (by omega)]
      refine ⟨fun q => by omega, fun _ => ⟨fun z => (by rw [w1] at z; cases z), fun y hy => ?_⟩⟩
      rw [w1] at hy
      cases hy
      have hq1 := hq.1
      rw [w2.2.2.1, i3, nI_leI (by omega) (by omega)]
      unfold taF at hp
      refine ⟨fun q => ?_, fun q => ?_⟩
      · rw [if_pos q] at hp
        exact hp Yc ox hB
      · rw [if_neg q] at hp
        obtain ⟨s1, s2, s3, s4⟩ := tu_step (N := N) (r := r) hq (show Q.1 < hrs W by omega)
        refine c_thingBy hB (by omega) hq.2.1 h3 ?_
        rw [show (2 : Int32) = nI 2 from rfl, pk_mul]
        have t3 := (tuN_ok (r := r) (o := Q.2.1) (show Q.1 < hrs W by omega)).1
        refine c_doDeed (e := 0) hB hq (by omega) (by omega) ?_ (fun _ Y5 ox5 B5 x ex => ?_) (fun hd => by rw [s1] at hd; cases hd)
        · have := s2.1
          omega
        · rw [ex, show nI i + (1 : Int32) = nI (i + 1) from nI_1 i]
          refine ih (i + 1) _ Y5 (by omega) ?_ ?_ s2 (ox.trans ox5) B5 hp
          · have : 1 ≤ (if tuN W r Q.1 Q.2.1 = 3 then 2 else 1) := by split <;> omega
            omega
          · omega
  unfold tp_X0_sailByThumb
  obtain ⟨k1, k2, k3, k4, w1, -⟩ := id hB
  exact ⟨fun z => (by rw [w1] at z; cases z), fun y hy => ⟨49, key 48 0 Q Y rfl (by omega) hT hq (OX.refl _ _) hB hpz⟩⟩
def tuO (W : WD) (N : ND) (h o : Nat) (f : Bool) : Nat := if f then owB W N h o 0 else o - 2
def twL (sq ow : Bool) (o1 o2 : Nat) : Nat := if sq then min o1 o2 else if ow then o1 else o2
def sqb (W : WD) (h : Nat) : Bool := decide (sql W h = 1)
def owb (u h : Nat) : Bool := decide (h / u % 2 = 0)
def twS (W : WD) (N : ND) (u : Nat) : Nat → Nat → Nat → Nat → TD → TD
  | 0, _, _, _, T => T
  | j + 1, h, o1, o2, T => twS W N u j (h + 1) (tuO W N h o1 (sqb W h || owb u h)) (tuO W N h o2 (sqb W h || !owb u h)) (psT T (shp W h) (blB N 0 0 (twL (sqb W h) (owb u h) o1 o2)))
theorem tuO_le {W : WD} {N : ND} {h o : Nat} {f : Bool} (ho : o ≤ 20) : tuO W N h o f ≤ 20 := by
  unfold tuO
  split
  · exact owB_le ho
  · omega
theorem twL_le {s w : Bool} {o1 o2 : Nat} (h1 : o1 ≤ 20) (h2 : o2 ≤ 20) : twL s w o1 o2 ≤ 20 := by
  unfold twL
  split
  · omega
  · split <;> omega
theorem c_turn82 {post : Int32 → TY → Prop} {v2 v3 : Int32} (hw : WayP Y a W) (hn : NapP Y (st.1 b 0) N) {T : TD} (hT : TrP Y (st.1 b 1) T) (n1 : a ≠ st.1 b 1) (n2 : st.1 b 0 ≠ st.1 b 1) (h60 : T.1 < 60) {h o1 o2 ls : Nat} {sq ow : Bool} (hh : h < hrs W) (h1 : o1 ≤ 20) (h2 : o2 ≤ 20) (hl : ls ≤ 20) {r17 : TY → Int32 → Int32 → Int32 → Prop} (hp : ∀ Y', OX (· = st.1 b 1) Y Y' → TrP Y' (st.1 b 1) (psT T (shp W h) (blB N 0 0 ls)) → r17 Y' (nI (tuO W N h o1 (sq || ow))) (nI (tuO W N h o2 (sq || !ow))) (nI (h + 1))) : tk_X0_safeByTurns_82 st post b a v2 v3 r17 Y (nI o1) (nI o2) (nI h) (bI sq) (bI ow) (nI ls) := by
  have h48 := hw.1.2.1
  have mxo : ∀ o : Nat, o ≤ 20 → (if (0 : Int32) < nI o - (2 : Int32) then nI o - (2 : Int32) else (0 : Int32)) = nI (o - 2) := by
    intro o ho
    simp (disch := omega) only [i_nI, i_lit, i_sub, i_lt, i_ite]
    congr 1
    split <;> omega
  unfold tk_X0_safeByTurns_82
  refine p_shipsAt hw (by omega) ?_
  rw [if_pos hh]
  refine c_blindOf (t := 0) (b := 0) hn hl (by omega) (by omega) ?_
  refine c_pass hT h60 (shp_le hw.1 h) (blB_le hl) (fun Y' ox tr => ?_)
  have hw' := ox.way n1 hw
  have hn' := ox.nap n2 hn
  have hp := hp Y' ox tr
  have k177 : ∀ u v, u = tuO W N h o1 (sq || ow) → v = tuO W N h o2 (sq || !ow) → tk_X0_safeByTurns_177 st post b a v2 v3 r17 Y' (nI u) (nI h) (nI v) := by
    intro u v eu ev
    unfold tk_X0_safeByTurns_177
    intro x ex
    rw [ex, show nI h + (1 : Int32) = nI (h + 1) from nI_1 h, eu, ev]
    exact hp
  have k141 : ∀ u, u = tuO W N h o1 (sq || ow) → tk_X0_safeByTurns_141 st post b a v2 v3 r17 Y' (nI o2) (nI h) (bI sq) (bI ow) (nI u) := by
    intro u eu
    unfold tk_X0_safeByTurns_141 tk_X0_safeByTurns_153
    rw [mxo o2 h2]
    refine bI_el (fun q => c_owedBehind (t := 0) hw' hn' (by omega) h2 (by omega) (k177 _ _ eu (by rw [q]; rfl))) (fun q => bI_el (fun q2 => k177 _ _ eu (by rw [q, q2]; rfl)) (fun q2 => c_owedBehind (t := 0) hw' hn' (by omega) h2 (by omega) (k177 _ _ eu (by rw [q, q2]; rfl))))
  unfold tk_X0_safeByTurns_117
  rw [mxo o1 h1]
  refine bI_el (fun q => c_owedBehind (t := 0) hw' hn' (by omega) h1 (by omega) (k141 _ (by rw [q]; rfl))) (fun q => bI_el' (fun q2 => k141 _ (by rw [q, q2]; rfl)) (fun q2 => c_owedBehind (t := 0) hw' hn' (by omega) h1 (by omega) (k141 _ (by rw [q, q2]; rfl))))
theorem c_turn53 {post : Int32 → TY → Prop} {v2 v3 : Int32} (hw : WayP Y a W) (hn : NapP Y (st.1 b 0) N) {T : TD} (hT : TrP Y (st.1 b 1) T) (n1 : a ≠ st.1 b 1) (n2 : st.1 b 0 ≠ st.1 b 1) (h60 : T.1 < 60) {h o1 o2 : Nat} {sq ow : Bool} (hh : h < hrs W) (h1 : o1 ≤ 20) (h2 : o2 ≤ 20) {r17 : TY → Int32 → Int32 → Int32 → Prop} (hp : ∀ Y', OX (· = st.1 b 1) Y Y' → TrP Y' (st.1 b 1) (psT T (shp W h) (blB N 0 0 (twL sq ow o1 o2))) → r17 Y' (nI (tuO W N h o1 (sq || ow))) (nI (tuO W N h o2 (sq || !ow))) (nI (h + 1))) : tk_X0_safeByTurns_53 st post b a v2 v3 r17 Y (nI o1) (nI o2) (nI h) (bI sq) (bI ow) := by
  have key : ∀ ls, ls = twL sq ow o1 o2 → tk_X0_safeByTurns_82 st post b a v2 v3 r17 Y (nI o1) (nI o2) (nI h) (bI sq) (bI ow) (nI ls) := by
    intro ls e
    subst e
    exact c_turn82 hw hn hT n1 n2 h60 hh h1 h2 (twL_le h1 h2) hp
  unfold tk_X0_safeByTurns_53
  have em : (if nI o2 < nI o1 then nI o2 else nI o1) = nI (min o1 o2) := by
    by_cases c : o2 < o1
    · rw [if_pos ((nI_ltI (by omega) (by omega)).mpr c), Nat.min_eq_right (by omega)]
    · rw [if_neg (fun q => c ((nI_ltI (by omega) (by omega)).mp q)), Nat.min_eq_left (by omega)]
  rw [em]
  refine bI_el' (fun q => bI_el' (fun q2 => key _ (by rw [q, q2]; rfl)) (fun q2 => key _ (by rw [q, q2]; rfl))) (fun q => key _ (by rw [q]; rfl))
theorem c_turns {post : Int32 → TY → Prop} (hw : WayP Y a W) (hn : NapP Y (st.1 b 0) N) (n1 : a ≠ st.1 b 1) (n2 : st.1 b 0 ≠ st.1 b 1) {o u : Nat} (ho : o ≤ 20) (hu : 1 ≤ u) (hu6 : u ≤ 6) (hp : ∀ Y', OX (· = st.1 b 1) Y Y' → post (nI (sfF (twS W N u (hrs W) 0 o o T0) (twS W N u (hrs W) 0 o o T0).1 1000000)) Y') : tp_X0_safeByTurns st post Y b a (nI o) (nI u) := by
  have h48 := hw.1.2.1
  have hpz := hp
  clear hp
  have key : ∀ j h o1 o2 T Yc, h + j = hrs W → T.1 = h → o1 ≤ 20 → o2 ≤ 20 → OX (· = st.1 b 1) Y Yc → TrP Yc (st.1 b 1) T → (∀ Y', OX (· = st.1 b 1) Y Y' → post (nI (sfF (twS W N u j h o1 o2 T) (twS W N u j h o1 o2 T).1 1000000)) Y') → tk_X0_safeByTurns_17 st post b a (nI o) (nI u) (j + 1) Yc (nI o1) (nI o2) (nI h) := by
    intro j
    induction j with
    | zero =>
      intro h o1 o2 T Yc hj eT h1 h2 ox tr hp
      rw [tk_X0_safeByTurns_17, (ox.way n1 hw).2.2.1, nI_leI (by omega) (by omega)]
      exact ⟨fun _ => c_safe tr (hp Yc ox), fun q => by omega⟩
    | succ j ih =>
      intro h o1 o2 T Yc hj eT h1 h2 ox tr hp
      have hw' := ox.way n1 hw
      have hn' := ox.nap n2 hn
      rw [tk_X0_safeByTurns_17, hw'.2.2.1, nI_leI (by omega) (by omega)]
      refine ⟨fun q => by omega, fun _ => p_squallAt hw' (by omega) ?_⟩
      have es : (decide (h < hrs W) && decide (sql W h = 1)) = sqb W h := by
        rw [decide_eq_true (show h < hrs W by omega)]
        rfl
      have hdu := Nat.div_le_self h u
      rw [es, show (1 : Int32) = nI 1 from rfl, nI_ltI (by omega) (by omega), show (2 : Int32) = nI 2 from rfl, pk_div (by omega) (by omega) (by omega), pk_rem (by omega) (by omega) (by omega)]
      have e0 : (nI (h / u % 2) = 0) = (h / u % 2 = 0) := by rw [show (0 : Int32) = nI 0 from rfl, eqn (by omega) (by omega)]
      have e1 : (nI u = 0) = (u = 0) := by rw [show (0 : Int32) = nI 0 from rfl, eqn (by omega) (by omega)]
      rw [e0, e1]
      have nx := fun (q : owb u h = true ∨ owb u h = false) => c_turn53 (st := st) (post := post) (b := b) (v2 := nI o) (v3 := nI u) (sq := sqb W h) (ow := owb u h) (r17 := tk_X0_safeByTurns_17 st post b a (nI o) (nI u) (j + 1)) hw' hn' tr n1 n2 (by omega) (show h < hrs W by omega) h1 h2 (fun Y' ox' tr' => ih (h + 1) _ _ _ Y' (by omega) (by show T.1 + 1 = h + 1; omega) (tuO_le h1) (tuO_le h2) (ox.trans ox') tr' hp)
      refine ⟨fun q => by omega, fun _ => ⟨by omega, fun q => ?_, fun q => ?_⟩⟩
      · have eo : owb u h = false := decide_eq_false q
        have nx := nx (Or.inr eo)
        rw [eo] at nx
        exact nx
      · have eo : owb u h = true := decide_eq_true q
        have nx := nx (Or.inl eo)
        rw [eo] at nx
        exact nx
  unfold tp_X0_safeByTurns
  intro Y2 e2
  have ox : OX (· = st.1 b 1) Y Y2 := by
    rw [e2]
    exact OX.sI (D := (· = st.1 b 1)) rfl
  refine ⟨hrs W + 1, key (hrs W) 0 o o T0 Y2 (by omega) rfl ho ho ox ⟨Nat.zero_le _, fun k hk => absurd hk (Nat.not_lt_zero _), ?_, fun k hk => absurd hk (Nat.not_lt_zero _)⟩ hpz⟩
  rw [e2, tI_sI, if_pos ⟨rfl, rfl⟩]
  rfl
end TH
