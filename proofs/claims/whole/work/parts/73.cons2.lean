-- CONSTRUCTORS THAT MAKE OTHER OBJECTS: naps, chart, plan, boat
def cgF : Nat → Int32 := (upd (upd (upd (upd (fun _ => 0) (0 : Int32).toNatClampNeg (0 : Int32)) (1 : Int32).toNatClampNeg (1 : Int32)) (2 : Int32).toNatClampNeg (2 : Int32)) (3 : Int32).toNatClampNeg (6 : Int32))
def cdF : Nat → Int32 := (upd (upd (upd (upd (fun _ => 0) (0 : Int32).toNatClampNeg (0 : Int32)) (1 : Int32).toNatClampNeg (200 : Int32)) (2 : Int32).toNatClampNeg (500 : Int32)) (3 : Int32).toNatClampNeg (800 : Int32))
def nwF (s : Nat) : Nat → Int32 := if s = 0 then cgF else cdF
def NewW (Y : TY) (w : Nat) : Prop := tK Y w = 8 ∧ (∀ t, tI Y w t = 0) ∧ (∀ s, tA Y w s = fun _ => 0)
def NewN (Y : TY) (n : Nat) : Prop := tK Y n = 2 ∧ tA Y n 0 = cgF ∧ tA Y n 1 = cdF
def NewD (Y : TY) (w : Nat) : Prop := tK Y w = 3 ∧ (∀ t, tI Y w t = 0) ∧ (∀ s, tA Y w s = fun _ => 0)
def NewC (st : TS) (Y : TY) (c w0 w1 n : Nat) : Prop := tK Y c = 1 ∧ st.2 c 0 0 = some w0 ∧ st.2 c 0 1 = some w1 ∧ st.1 c 1 = n ∧ NewW Y w0 ∧ NewW Y w1 ∧ NewN Y n
def NewP (st : TS) (Y : TY) (p w n s : Nat) : Prop := tK Y p = 4 ∧ st.1 p 0 = w ∧ st.1 p 1 = n ∧ st.1 p 2 = s ∧ tP Y p = fun _ => none
def NewB (st : TS) (Y : TY) (b n t : Nat) : Prop := tK Y b = 0 ∧ st.1 b 0 = n ∧ st.1 b 1 = t ∧ tK Y t = 7
/-- what is typed stays as it was -/
def Kp (st : TS) (Y : TY) (st' : TS) (Y' : TY) : Prop := ∀ a, tK Y a < 11 → tK Y' a = tK Y a ∧ (∀ t, tI Y' a t = tI Y a t) ∧ (∀ t, tA Y' a t = tA Y a t) ∧ tW Y' a = tW Y a ∧ tP Y' a = tP Y a ∧ st'.1 a = st.1 a ∧ st'.2 a = st.2 a
theorem two_none {a b i x : Nat} {P : Nat → Prop} (ha : P a) (hb : P b) (h : va_up (va_up (fun _ => none) (0 : Int32).toNatClampNeg (some a)) ((0 : Int32) + (1 : Int32)).toNatClampNeg (some b) i = some x) : P x := by
  have h : va_up (va_up (fun _ => none) 0 (some a)) 1 (some b) i = some x := h
  by_cases c1 : i = 1
  · subst c1
    rw [va_up_self] at h
    cases h
    exact hb
  · rw [va_up_ne _ _ c1] at h
    by_cases c0 : i = 0
    · subst c0
      rw [va_up_self] at h
      cases h
      exact ha
    · rw [va_up_ne _ _ c0] at h
      cases h
section CM
variable {st st' : TS} {aa aa' : Nat → Nat → Nat} {Y Y' : TY} {X X' : Hp} {v w n c p b : Nat}
theorem Gw.kp (g : Gw v st aa Y X st' aa' Y' X') : Kp st Y st' Y' := g.1
theorem Kp.nw (g : Kp st Y st' Y') (h : NewW Y w) : NewW Y' w := by
  obtain ⟨a1, a2, a3, _⟩ := g w (by rw [h.1]; decide)
  exact ⟨a1.trans h.1, fun t => (a2 t).trans (h.2.1 t), fun s => (a3 s).trans (h.2.2 s)⟩
theorem Kp.nd (g : Kp st Y st' Y') (h : NewD Y w) : NewD Y' w := by
  obtain ⟨a1, a2, a3, _⟩ := g w (by rw [h.1]; decide)
  exact ⟨a1.trans h.1, fun t => (a2 t).trans (h.2.1 t), fun s => (a3 s).trans (h.2.2 s)⟩
theorem Kp.nn (g : Kp st Y st' Y') (h : NewN Y n) : NewN Y' n := by
  obtain ⟨a1, a2, a3, _⟩ := g n (by rw [h.1]; decide)
  exact ⟨a1.trans h.1, (a3 0).trans h.2.1, (a3 1).trans h.2.2⟩
theorem Kp.nc {w0 w1 : Nat} (g : Kp st Y st' Y') (h : NewC st Y c w0 w1 n) : NewC st' Y' c w0 w1 n := by
  obtain ⟨h1, h2, h3, h4, h5, h6, h7⟩ := h
  obtain ⟨a1, a2, a3, a4, a5, a6, a7⟩ := g c (by rw [h1]; decide)
  exact ⟨a1.trans h1, by rw [a7]; exact h2, by rw [a7]; exact h3, by rw [a6]; exact h4, g.nw h5, g.nw h6, g.nn h7⟩
theorem Kp.np {s : Nat} (g : Kp st Y st' Y') (h : NewP st Y p w n s) : NewP st' Y' p w n s := by
  obtain ⟨h1, h2, h3, h4, h5⟩ := h
  obtain ⟨a1, a2, a3, a4, a5, a6, a7⟩ := g p (by rw [h1]; decide)
  exact ⟨a1.trans h1, by rw [a6]; exact h2, by rw [a6]; exact h3, by rw [a6]; exact h4, a5.trans h5⟩
theorem Kp.nb {t : Nat} (g : Kp st Y st' Y') (h : NewB st Y b n t) : NewB st' Y' b n t := by
  obtain ⟨h1, h2, h3, h4⟩ := h
  obtain ⟨a1, a2, a3, a4, a5, a6, a7⟩ := g b (by rw [h1]; decide)
  exact ⟨a1.trans h1, by rw [a6]; exact h2, by rw [a6]; exact h3, (g t (by rw [h4]; decide)).1.trans h4⟩
theorem Kp.kk {k : Nat} (g : Kp st Y st' Y') (h : tK Y w = k) (hk : k < 11) : tK Y' w = k := (g w (by rw [h]; exact hk)).1.trans h
theorem Kp.yn {k : Nat} {I : Nat → Int32} {F : Nat → Nat → Int32} (nt : ¬ Ty aa Y v) (hst : ∀ a, a ≠ v → st'.1 a = st.1 a ∧ st'.2 a = st.2 a) : Kp st Y st' (Yn Y v k I F) := by
  intro a ha
  have c : a ≠ v := fun z => nt (Or.inl (by rw [← z]; exact ha))
  obtain ⟨b1, b2, b3, b4, b5⟩ := Yn_o (k := k) (I := I) (F := F) (Y := Y) c
  exact ⟨b1, fun t => by rw [b2], fun t => by rw [b3], b4, b5, (hst a c).1, (hst a c).2⟩
set_option maxRecDepth 100000 in
set_option maxHeartbeats 4000000 in
theorem n_naps {post : Hp → Prop} {mc ms : Nat} (hmc : 2 ≤ mc) (hms : 8 ≤ ms) (R : Rel st aa Y X) (nt : ¬ Ty aa Y v) (hv : Hs X v (.inr (2, [.null, .null]))) (hp : ∀ X' aa' Y', Rel st aa' Y' X' → Gw v st aa Y X st aa' Y' X' → (∀ T, TT Y T → TT Y' (v :: T)) → NewN Y' v → post X') : wp_X2_init post mc ms X v := by
  unfold wp_X2_init
  have po := PO.start R nt hv
  refine ⟨by omega, by omega, fun q0 hq0 X2 e2 => ?_⟩
  subst e2
  refine ⟨_, _, Hs_new, (show vp_in (nI 0) 4 from vp_in_nI (by decide) (by decide)), fun X5 e5 => ?_⟩
  rw [hput_hadd] at e5
  subst e5
  refine ⟨_, _, Hs_new, (show vp_in (nI 1) 4 from vp_in_nI (by decide) (by decide)), fun X5 e5 => ?_⟩
  rw [hput_hadd] at e5
  subst e5
  refine ⟨_, _, Hs_new, (show vp_in (nI 2) 4 from vp_in_nI (by decide) (by decide)), fun X5 e5 => ?_⟩
  rw [hput_hadd] at e5
  subst e5
  refine ⟨_, _, Hs_new, (show vp_in (nI 3) 4 from vp_in_nI (by decide) (by decide)), fun X5 e5 => ?_⟩
  rw [hput_hadd] at e5
  subst e5
  refine ⟨_, po.hs2 hq0 rfl, Nat.le_of_ble_eq_true rfl, fun X4 e4 => ?_⟩
  replace po := po.step (s0 := 0) (by decide) hq0 rfl _ e4
  clear e4
  refine ⟨by omega, by omega, fun q1 hq1 X2 e2 => ?_⟩
  subst e2
  refine ⟨_, _, Hs_new, (show vp_in (nI 0) 4 from vp_in_nI (by decide) (by decide)), fun X5 e5 => ?_⟩
  rw [hput_hadd] at e5
  subst e5
  refine ⟨_, _, Hs_new, (show vp_in (nI 1) 4 from vp_in_nI (by decide) (by decide)), fun X5 e5 => ?_⟩
  rw [hput_hadd] at e5
  subst e5
  refine ⟨_, _, Hs_new, (show vp_in (nI 2) 4 from vp_in_nI (by decide) (by decide)), fun X5 e5 => ?_⟩
  rw [hput_hadd] at e5
  subst e5
  refine ⟨_, _, Hs_new, (show vp_in (nI 3) 4 from vp_in_nI (by decide) (by decide)), fun X5 e5 => ?_⟩
  rw [hput_hadd] at e5
  subst e5
  refine ⟨_, po.hs2 hq1 rfl, Nat.le_of_ble_eq_true rfl, fun X4 e4 => ?_⟩
  replace po := po.step (s0 := 1) (by decide) hq1 rfl _ e4
  clear e4
  refine ⟨by omega, by omega, ?_⟩
  have f := po.fin (st' := st) (by decide) (fun _ => 0) nwF (fun a _ => ⟨rfl, rfl⟩) (by rw [tob2 (tK_Yn _ _ _ _ _), va_up_self]; rfl) (fun s hs => ?_) (twv_x (tK_Yn _ _ _ _ _) (by decide) (by decide) (by decide) (by decide))
  · exact hp _ _ _ f.1 f.2.1 f.2.2 ⟨tK_Yn _ _ _ _ _, by rw [tA_Yn]; rfl, by rw [tA_Yn]; rfl⟩
  · have hs : s = 0 ∨ s = 1 := by
      simpa [isA] using hs
    rcases hs with rfl | rfl
    · refine ⟨by decide, ?_⟩
      rw [tar2_0 (tK_Yn _ _ _ _ _), tA_Yn]
      rfl
    · refine ⟨by decide, ?_⟩
      rw [tar2_1 (tK_Yn _ _ _ _ _), tA_Yn]
      rfl
set_option maxRecDepth 100000 in
set_option maxHeartbeats 4000000 in
theorem n_plan {post : Hp → Prop} {mc ms w n s : Nat} (hmc : 1 ≤ mc) (hms : 125 ≤ ms) (R : Rel st aa Y X) (nt : ¬ Ty aa Y v) (hv : Hs X v (.inr (4, [.null, .null, .null, .null]))) (hw : tK Y w = 8) (hn : tK Y n = 2) (hs : tK Y s = 6) (hp : ∀ X' st' aa' Y', Rel st' aa' Y' X' → Gw v st aa Y X st' aa' Y' X' → (∀ T, TT Y T → TT Y' (v :: T)) → NewP st' Y' v w n s → post X') : wp_X4_init post mc ms X v w n s := by
  unfold wp_X4_init
  have po := PO.start R nt hv
  refine ⟨_, po.2.2.2.1, Nat.le_of_ble_eq_true rfl, fun X2 e2 => ?_⟩
  replace po := po.put [.ref w, .null, .null, .null]
  replace e2 : X2 = hput X v (.inr (4, [.ref w, .null, .null, .null])) := e2
  subst e2
  refine ⟨_, po.2.2.2.1, Nat.le_of_ble_eq_true rfl, fun X2 e2 => ?_⟩
  replace po := po.put [.ref w, .ref n, .null, .null]
  replace e2 : X2 = hput _ v (.inr (4, [.ref w, .ref n, .null, .null])) := e2
  subst e2
  refine ⟨_, po.2.2.2.1, Nat.le_of_ble_eq_true rfl, fun X2 e2 => ?_⟩
  replace po := po.put [.ref w, .ref n, .ref s, .null]
  replace e2 : X2 = hput _ v (.inr (4, [.ref w, .ref n, .ref s, .null])) := e2
  subst e2
  refine ⟨by omega, by omega, fun q3 hq3 X2 e2 => ⟨_, po.hs2 hq3 e2, Nat.le_of_ble_eq_true rfl, fun X4 e4 => ?_⟩⟩
  replace po := po.step (s0 := 3) (by decide) hq3 e2 _ e4
  clear e2 e4
  refine ⟨by omega, by omega, ?_⟩
  have ev : ∀ (g : Nat → Nat) (h : Nat → Nat → Nat → Option Nat), ((va_up st.1 v g, h) : TS).1 v = g := fun g h => va_up_self _ _ _
  have hst : ∀ a, a ≠ v → (va_up st.1 v (fun t => if t = 0 then w else if t = 1 then n else s)) a = st.1 a ∧ st.2 a = st.2 a := fun a ha => ⟨va_up_ne _ _ ha, rfl⟩
  have kp : Kp st Y (va_up st.1 v (fun t => if t = 0 then w else if t = 1 then n else s), st.2) (Yn Y v 4 (fun _ => 0) (fun _ _ => 0)) := Kp.yn nt hst
  have f := po.fin (st' := (va_up st.1 v (fun t => if t = 0 then w else if t = 1 then n else s), st.2)) (by decide) (fun _ => 0) (fun _ _ => 0) hst (by rw [tob4 (tK_Yn _ _ _ _ _), va_up_self, ev]; rfl) (fun s hs => ?_) ⟨fun z => absurd ((tK_Yn _ _ _ _ _).symm.trans z) (by decide), fun z => absurd ((tK_Yn _ _ _ _ _).symm.trans z) (by decide), fun _ => ?_, fun z => absurd ((tK_Yn _ _ _ _ _).symm.trans z) (by decide)⟩
  · exact hp _ _ _ _ f.1 f.2.1 f.2.2 ⟨tK_Yn _ _ _ _ _, by rw [ev]; rfl, by rw [ev]; rfl, by rw [ev]; rfl, tP_Yn _ _ _ _ _⟩
  · have hs : s = 3 := by
      simpa [isA] using hs
    subst hs
    refine ⟨by decide, ?_⟩
    rw [tar4_3 (tK_Yn _ _ _ _ _), tP_Yn]
    rfl
  · rw [ev]
    refine ⟨kp.kk hw (by decide), kp.kk hn (by decide), kp.kk hs (by decide), fun i b hb => ?_⟩
    rw [tP_Yn] at hb
    cases hb
set_option maxRecDepth 100000 in
set_option maxHeartbeats 4000000 in
theorem n_boat {post : Hp → Prop} {mc ms n : Nat} (hmc : 3 ≤ mc) (hms : 123 ≤ ms) (R : Rel st aa Y X) (nt : ¬ Ty aa Y v) (hv : Hs X v (.inr (0, [.null, .null, .null, .int 0, .int 0, .int 0]))) (hn : tK Y n = 2) (hp : ∀ X' st' aa' Y' t, Rel st' aa' Y' X' → Gw v st aa Y X st' aa' Y' X' → (∀ T, TT Y T → TT Y' (v :: t :: T)) → NewB st' Y' v n t → post X') : wp_X0_init post mc ms X v n := by
  unfold wp_X0_init
  have po := PO.start R nt hv
  refine ⟨_, po.2.2.2.1, Nat.le_of_ble_eq_true rfl, fun X2 e2 => ?_⟩
  replace po := po.put [.ref n, .null, .null, .int 0, .int 0, .int 0]
  replace e2 : X2 = hput X v (.inr (0, [.ref n, .null, .null, .int 0, .int 0, .int 0])) := e2
  subst e2
  refine ⟨by omega, by omega, fun t ht X4 e4 => ⟨2, 120, by omega, by omega, ?_⟩⟩
  subst e4
  obtain ⟨p2, d1, d2, d3, d4, d5⟩ := po.cell (e := .inr (7, [.int 0, .null, .null])) ht
  refine n_track (by decide) (by decide) p2.1 d2 d1 (fun X3 aa3 Y3 R3 g3 T3 k3 _ _ => ?_)
  have p3 := p2.mv g3 R3 d3 d4 d5
  have hn3 := g3.kp.kk hn (by decide)
  refine ⟨_, p3.2.2.2.1, Nat.le_of_ble_eq_true rfl, fun X4 e4 => ?_⟩
  replace p3 := p3.put [.ref n, .ref t, .null, .int 0, .int 0, .int 0]
  replace e4 : X4 = hput X3 v (.inr (0, [.ref n, .ref t, .null, .int 0, .int 0, .int 0])) := e4
  subst e4
  refine ⟨by omega, by omega, ?_⟩
  have ev : ∀ (g : Nat → Nat) (h : Nat → Nat → Nat → Option Nat), ((va_up st.1 v g, h) : TS).1 v = g := fun g h => va_up_self _ _ _
  have hst : ∀ a, a ≠ v → (va_up st.1 v (fun s => if s = 0 then n else t)) a = st.1 a ∧ st.2 a = st.2 a := fun a ha => ⟨va_up_ne _ _ ha, rfl⟩
  have kp : Kp st Y3 (va_up st.1 v (fun s => if s = 0 then n else t), st.2) (Yn Y3 v 0 (fun _ => 0) (fun _ _ => 0)) := Kp.yn p3.2.2.1 hst
  have f := p3.fin (st' := (va_up st.1 v (fun s => if s = 0 then n else t), st.2)) (by decide) (fun _ => 0) (fun _ _ => 0) hst (by rw [tob0 (tK_Yn _ _ _ _ _), ev, tI_Yn, tW_Yn]; rfl) (fun s hs => by cases hs) ⟨fun _ => ?_, fun z => absurd ((tK_Yn _ _ _ _ _).symm.trans z) (by decide), fun z => absurd ((tK_Yn _ _ _ _ _).symm.trans z) (by decide), fun z => absurd ((tK_Yn _ _ _ _ _).symm.trans z) (by decide)⟩
  · exact hp _ _ _ _ t f.1 f.2.1 (fun T hT => f.2.2 _ (T3 T hT)) ⟨tK_Yn _ _ _ _ _, by rw [ev]; rfl, by rw [ev]; rfl, kp.kk k3 (by decide)⟩
  · rw [ev]
    refine ⟨kp.kk hn3 (by decide), kp.kk k3 (by decide), fun b hb => ?_⟩
    rw [tW_Yn] at hb
    cases hb
set_option maxRecDepth 100000 in
set_option maxHeartbeats 4000000 in
theorem n_chart {post : Hp → Prop} {mc ms : Nat} (hmc : 16 ≤ mc) (hms : 266 ≤ ms) (R : Rel st aa Y X) (nt : ¬ Ty aa Y v) (hv : Hs X v (.inr (1, [.null, .null]))) (hp : ∀ X' st' aa' Y' w0 w1 n, Rel st' aa' Y' X' → Gw v st aa Y X st' aa' Y' X' → (∀ T, TT Y T → TT Y' (v :: n :: w1 :: w0 :: T)) → NewC st' Y' v w0 w1 n → post X') : wp_X1_init post mc ms X v := by
  unfold wp_X1_init
  have po := PO.start R nt hv
  refine ⟨by omega, by omega, fun q1 hq1 X2 e2 => ⟨_, po.hs2 hq1 e2, Nat.le_of_ble_eq_true rfl, fun X4 e4 => ⟨3, ?_⟩⟩⟩
  replace e4 : X4 = hput X2 v (.inr (1, [.ref q1, .null])) := e4
  replace po := po.step (s0 := 0) (by decide) hq1 e2 _ e4
  clear e2 e4
  rw [bk_X1_init_14]
  refine ⟨fun q => absurd q (by decide), fun _ => ⟨_, q1, po.2.2.2.1, rfl, by omega, by omega, fun w0 hw0 X5 e5 => ⟨5, 120, by omega, by omega, ?_⟩⟩⟩
  subst e5
  obtain ⟨p2, d1, d2, d3, d4, d5⟩ := po.cell (e := .inr (8, [.int 0, .int 0, .null, .null, .null, .null, .null])) hw0
  refine n_way (by decide) (by decide) p2.1 d2 d1 (fun X6 aa6 Y6 R6 g6 T6 k6 i6 a6 => ?_)
  have p3 := p2.mv g6 R6 d3 d4 d5
  have s3 : Hs X6 q1 (.inl (5, 2, qA (fun _ => none))) := (p3.2.2.2.2.1 0 (by decide)).1
  refine ⟨_, _, _, s3, ob_8 R6 k6, (show vp_in (nI 0) 2 from vp_in_nI (by decide) (by decide)), fun X7 e7 x ex => ?_⟩
  replace p3 := p3.upd (s0 := 0) (by decide) e7
  have W0 : NewW Y6 w0 := ⟨k6, i6, a6⟩
  clear e7 po p2 s3 d1 d2 d3 d4 d5 R6 k6 i6 a6
  rw [ex, bk_X1_init_14]
  refine ⟨fun q => absurd q (by decide), fun _ => ⟨_, q1, p3.2.2.2.1, rfl, by omega, by omega, fun w1 hw1 X8 e8 => ⟨5, 120, by omega, by omega, ?_⟩⟩⟩
  subst e8
  obtain ⟨p4, d1, d2, d3, d4, d5⟩ := p3.cell (e := .inr (8, [.int 0, .int 0, .null, .null, .null, .null, .null])) hw1
  refine n_way (by decide) (by decide) p4.1 d2 d1 (fun X9 aa9 Y9 R9 g9 T9 k9 i9 a9 => ?_)
  have p5 := p4.mv g9 R9 d3 d4 d5
  have s5 : Hs X9 q1 (.inl (5, 2, qA (va_up (fun _ => none) (0 : Int32).toNatClampNeg (some w0)))) := (p5.2.2.2.2.1 0 (by decide)).1
  refine ⟨_, _, _, s5, ob_8 R9 k9, (show vp_in (nI 1) 2 from vp_in_nI (by decide) (by decide)), fun Xa ea xa exa => ?_⟩
  replace p5 := p5.upd (s0 := 0) (by decide) ea
  have W0 := g9.kp.nw W0
  have W1 : NewW Y9 w1 := ⟨k9, i9, a9⟩
  clear ea p3 p4 s5 d1 d2 d3 d4 d5 R9 k9 i9 a9
  rw [exa, bk_X1_init_14]
  refine ⟨fun _ => ⟨by omega, by omega, fun n hn Xb eb => ⟨2, 8, by omega, by omega, ?_⟩⟩, fun q => absurd (by decide) q⟩
  subst eb
  obtain ⟨p6, d1, d2, d3, d4, d5⟩ := p5.cell (e := .inr (2, [.null, .null])) hn
  refine n_naps (by decide) (by decide) p6.1 d2 d1 (fun Xc aac Yc Rc gc Tc Nc => ?_)
  have p7 := p6.mv gc Rc d3 d4 d5
  refine ⟨_, p7.2.2.2.1, Nat.le_of_ble_eq_true rfl, fun Xd ed => ?_⟩
  replace p7 := p7.put [.ref q1, .ref n]
  replace ed : Xd = hput Xc v (.inr (1, [.ref q1, .ref n])) := ed
  subst ed
  have W0 := gc.kp.nw W0
  have W1 := gc.kp.nw W1
  refine ⟨by omega, by omega, ?_⟩
  have ev : ∀ (g : Nat → Nat) (h : Nat → Nat → Nat → Option Nat), ((va_up st.1 v g, h) : TS).1 v = g := fun g h => va_up_self _ _ _
  have ev2 : ∀ (h : Nat → Nat → Nat) (g : Nat → Nat → Option Nat), ((h, va_up st.2 v g) : TS).2 v = g := fun h g => va_up_self _ _ _
  have hst : ∀ a, a ≠ v → (va_up st.1 v (fun _ => n), va_up st.2 v (fun _ => va_up (va_up (fun _ => none) (0 : Int32).toNatClampNeg (some w0)) ((0 : Int32) + (1 : Int32)).toNatClampNeg (some w1))).1 a = st.1 a ∧ (va_up st.1 v (fun _ => n), va_up st.2 v (fun _ => va_up (va_up (fun _ => none) (0 : Int32).toNatClampNeg (some w0)) ((0 : Int32) + (1 : Int32)).toNatClampNeg (some w1))).2 a = st.2 a := fun a ha => ⟨va_up_ne _ _ ha, va_up_ne _ _ ha⟩
  have kp : Kp st Yc (va_up st.1 v (fun _ => n), va_up st.2 v (fun _ => va_up (va_up (fun _ => none) (0 : Int32).toNatClampNeg (some w0)) ((0 : Int32) + (1 : Int32)).toNatClampNeg (some w1))) (Yn Yc v 1 (fun _ => 0) (fun _ _ => 0)) := Kp.yn p7.2.2.1 hst
  have f := p7.fin (st' := (va_up st.1 v (fun _ => n), va_up st.2 v (fun _ => va_up (va_up (fun _ => none) (0 : Int32).toNatClampNeg (some w0)) ((0 : Int32) + (1 : Int32)).toNatClampNeg (some w1)))) (by decide) (fun _ => 0) (fun _ _ => 0) hst (by rw [tob1 (tK_Yn _ _ _ _ _), ev, va_up_self]; rfl) (fun s hs => ?_) ⟨fun z => absurd ((tK_Yn _ _ _ _ _).symm.trans z) (by decide), fun _ => ?_, fun z => absurd ((tK_Yn _ _ _ _ _).symm.trans z) (by decide), fun z => absurd ((tK_Yn _ _ _ _ _).symm.trans z) (by decide)⟩
  · exact hp _ _ _ _ w0 w1 n f.1 f.2.1 (fun T hT => f.2.2 _ (Tc _ (T9 _ (T6 T hT)))) ⟨tK_Yn _ _ _ _ _, by rw [ev2]; rfl, by rw [ev2]; rfl, by rw [ev], kp.nw W0, kp.nw W1, kp.nn Nc⟩
  · have hs : s = 0 := by
      simpa [isA] using hs
    subst hs
    refine ⟨by decide, ?_⟩
    rw [tar1_0 (tK_Yn _ _ _ _ _), ev2]
    rfl
  · rw [ev, ev2]
    refine ⟨fun i b hb => ?_, kp.kk Nc.1 (by decide)⟩
    exact two_none (a := w0) (b := w1) (P := fun b => tK (Yn Yc v 1 (fun _ => 0) (fun _ _ => 0)) b = 8) (kp.kk W0.1 (by decide)) (kp.kk W1.1 (by decide)) hb
end CM
