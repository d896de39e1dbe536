-- THE CLASS'S CONSTRUCTOR
def NewV (st : TS) (Y : TY) (v c w0 w1 n i0 a0 a1 an i1 b0 b1 bn s p0 p1 d bo t : Nat) : Prop := tK Y v = 9 ∧ st.1 v 0 = c ∧ st.1 v 4 = d ∧ st.1 v 5 = bo ∧ st.2 v 1 0 = some i0 ∧ st.2 v 1 1 = some i1 ∧ st.2 v 3 0 = some p0 ∧ st.2 v 3 1 = some p1 ∧ tA Y v 2 = (fun _ => 0) ∧ NewC st Y c w0 w1 n ∧ NewC st Y i0 a0 a1 an ∧ NewC st Y i1 b0 b1 bn ∧ tK Y s = 6 ∧ NewP st Y p0 w0 n s ∧ NewP st Y p1 w1 n s ∧ NewD Y d ∧ NewB st Y bo n t
theorem Kp.nv {st st' : TS} {Y Y' : TY} {v c w0 w1 n i0 a0 a1 an i1 b0 b1 bn s p0 p1 d bo t : Nat} (g : Kp st Y st' Y') (h : NewV st Y v c w0 w1 n i0 a0 a1 an i1 b0 b1 bn s p0 p1 d bo t) : NewV st' Y' v c w0 w1 n i0 a0 a1 an i1 b0 b1 bn s p0 p1 d bo t := by
  obtain ⟨h1, h2, h3, h4, h5, h6, h7, h8, h9, ha, hb, hc, hd, he, hf, hg, hh⟩ := h
  obtain ⟨a1, a2, a3, a4, a5, a6, a7⟩ := g v (by rw [h1]; decide)
  exact ⟨a1.trans h1, by rw [a6]; exact h2, by rw [a6]; exact h3, by rw [a6]; exact h4, by rw [a7]; exact h5, by rw [a7]; exact h6, by rw [a7]; exact h7, by rw [a7]; exact h8, (a3 2).trans h9, g.nc ha, g.nc hb, g.nc hc, g.kk hd (by decide), g.np he, g.np hf, g.nd hg, g.nb hh⟩
section CV
variable {st : TS} {aa : Nat → Nat → Nat} {Y : TY} {X : Hp} {v : Nat}
set_option maxRecDepth 100000 in
set_option maxHeartbeats 4000000 in
theorem n_voyage {post : Hp → Prop} {mc ms : Nat} (hmc : 68 ≤ mc) (hms : 1892 ≤ ms) (R : Rel st aa Y X) (nt : ¬ Ty aa Y v) (hv : Hs X v (.inr (9, [.null, .null, .null, .null, .null, .null]))) (hp : ∀ X' st' aa' Y' c w0 w1 n i0 a0 a1 an i1 b0 b1 bn s p0 p1 d bo t, Rel st' aa' Y' X' → Gw v st aa Y X st' aa' Y' X' → (∀ T, TT Y T → TT Y' (v :: bo :: t :: d :: p1 :: p0 :: s :: i1 :: bn :: b1 :: b0 :: i0 :: an :: a1 :: a0 :: c :: n :: w1 :: w0 :: T)) → NewV st' Y' v c w0 w1 n i0 a0 a1 an i1 b0 b1 bn s p0 p1 d bo t → post X') : wp_X9_init post mc ms X v := by
  unfold wp_X9_init
  have po := PO.start R nt hv
  refine ⟨by omega, by omega, fun c hc X2 e2 => ⟨16, 266, by omega, by omega, ?_⟩⟩
  subst e2
  obtain ⟨pa, d1, d2, d3, d4, d5⟩ := po.cell (e := .inr (1, [.null, .null])) hc
  refine n_chart (by decide) (by decide) pa.1 d2 d1 (fun X3 st3 aa3 Y3 w0 w1 n R3 g3 T3 C => ?_)
  have pb := pa.mv g3 R3 d3 d4 d5
  clear po pa d1 d2 d3 d4 d5 R3 g3
  refine ⟨_, pb.2.2.2.1, Nat.le_of_ble_eq_true rfl, fun X4 e4 => ?_⟩
  replace pb := pb.put [.ref c, .null, .null, .null, .null, .null]
  replace e4 : X4 = hput X3 v (.inr (9, [.ref c, .null, .null, .null, .null, .null])) := e4
  subst e4
  refine ⟨by omega, by omega, fun q1 hq1 X2 e2 => ⟨_, pb.hs2 hq1 e2, Nat.le_of_ble_eq_true rfl, fun X4 e4 => ?_⟩⟩
  replace e4 : X4 = hput X2 v (.inr (9, [.ref c, .ref q1, .null, .null, .null, .null])) := e4
  replace pb := pb.step (s0 := 1) (by decide) hq1 e2 _ e4
  clear e2 e4
  refine ⟨by omega, by omega, fun q2 hq2 X2 e2 => ⟨_, pb.hs2 hq2 e2, Nat.le_of_ble_eq_true rfl, fun X4 e4 => ⟨3, ?_⟩⟩⟩
  replace e4 : X4 = hput X2 v (.inr (9, [.ref c, .ref q1, .ref q2, .null, .null, .null])) := e4
  replace pb := pb.step (s0 := 2) (by decide) hq2 e2 _ e4
  clear e2 e4
  rw [bk_X9_init_32]
  refine ⟨fun q => absurd q (by decide), fun _ => ⟨_, q1, pb.2.2.2.1, rfl, by omega, by omega, fun i0 hi0 X5 e5 => ⟨16, 266, by omega, by omega, ?_⟩⟩⟩
  subst e5
  obtain ⟨pc, d1, d2, d3, d4, d5⟩ := pb.cell (e := .inr (1, [.null, .null])) hi0
  refine n_chart (by decide) (by decide) pc.1 d2 d1 (fun Xm0 stm0 aam0 Ym0 a0 a1 an Rm gm Tm0 Im0 => ?_)
  have pd := pc.mv gm Rm d3 d4 d5
  have sm : Hs Xm0 q1 (.inl (2, 2, qA (fun _ => none))) := (pd.2.2.2.2.1 1 (by decide)).1
  refine ⟨_, _, _, sm, ob_1 Rm Im0.1, (show vp_in (nI 0) 2 from vp_in_nI (by decide) (by decide)), fun X7 e7 x ex => ?_⟩
  replace pd := pd.upd (s0 := 1) (by decide) e7
  replace C := gm.kp.nc C
  clear e7 pb pc sm d1 d2 d3 d4 d5 Rm gm
  rw [ex, bk_X9_init_32]
  clear ex
  refine ⟨fun q => absurd q (by decide), fun _ => ⟨_, q1, pd.2.2.2.1, rfl, by omega, by omega, fun i1 hi1 X5 e5 => ⟨16, 266, by omega, by omega, ?_⟩⟩⟩
  subst e5
  obtain ⟨pe, d1, d2, d3, d4, d5⟩ := pd.cell (e := .inr (1, [.null, .null])) hi1
  refine n_chart (by decide) (by decide) pe.1 d2 d1 (fun Xm1 stm1 aam1 Ym1 b0 b1 bn Rm gm Tm1 Im1 => ?_)
  have pf := pe.mv gm Rm d3 d4 d5
  have sm : Hs Xm1 q1 (.inl (2, 2, qA (va_up (fun _ => none) (0 : Int32).toNatClampNeg (some i0)))) := (pf.2.2.2.2.1 1 (by decide)).1
  refine ⟨_, _, _, sm, ob_1 Rm Im1.1, (show vp_in (nI 1) 2 from vp_in_nI (by decide) (by decide)), fun X7 e7 x ex => ?_⟩
  replace pf := pf.upd (s0 := 1) (by decide) e7
  replace C := gm.kp.nc C
  replace Im0 := gm.kp.nc Im0
  clear e7 pd pe sm d1 d2 d3 d4 d5 Rm gm
  rw [ex, bk_X9_init_32]
  clear ex
  refine ⟨fun _ => ⟨by omega, by omega, fun q3 hq3 X2 e2 => ⟨_, pf.hs2 hq3 e2, Nat.le_of_ble_eq_true rfl, fun X4 e4 => ?_⟩⟩, fun q => absurd (by decide) q⟩
  replace e4 : X4 = hput X2 v (.inr (9, [.ref c, .ref q1, .ref q2, .ref q3, .null, .null])) := e4
  replace pf := pf.step (s0 := 3) (by decide) hq3 e2 _ e4
  clear e2 e4
  refine ⟨by omega, by omega, fun s hs X8 e8 => ⟨3, 630, by omega, by omega, ?_⟩⟩
  subst e8
  obtain ⟨pg, d1, d2, d3, d4, d5⟩ := pf.cell (e := .inr (6, [.null, .null, .null])) hs
  refine n_step (by decide) (by decide) pg.1 d2 d1 (fun X9 aa9 Y9 R9 g9 T9 K _ _ => ⟨3, ?_⟩)
  have ph := pg.mv g9 R9 d3 d4 d5
  replace C := g9.kp.nc C
  replace Im0 := g9.kp.nc Im0
  replace Im1 := g9.kp.nc Im1
  clear pf pg d1 d2 d3 d4 d5 R9 g9
  rw [bk_X9_init_74]
  refine ⟨fun q => absurd q (by decide), fun _ => ⟨_, q3, ph.2.2.2.1, rfl, by omega, by omega, fun p0 hp0 X5 e5 => ?_⟩⟩
  subst e5
  obtain ⟨pi, d1, d2, d3, d4, d5⟩ := ph.cell (e := .inr (4, [.null, .null, .null, .null])) hp0
  refine ⟨_, c, pi.2.2.2.1, rfl, _, _, ob_1 pi.1 C.1, rfl, 2, _, w0, ar_1_0 pi.1 C.1, (show vp_in (nI 0) 2 from vp_in_nI (by decide) (by decide)), C.2.1, _, c, pi.2.2.2.1, rfl, _, n, ob_1 pi.1 C.1, congrArg (fun z => some (Value.ref z)) C.2.2.2.1, 1, 125, by omega, by omega, ?_⟩
  refine n_plan (by decide) (by decide) pi.1 d2 d1 C.2.2.2.2.1.1 C.2.2.2.2.2.2.1 K (fun Xp0 stp0 aap0 Yp0 Rp gp Tp0 P0 => ?_)
  have pj := pi.mv gp Rp d3 d4 d5
  have sm : Hs Xp0 q3 (.inl (3, 2, qA (fun _ => none))) := (pj.2.2.2.2.1 3 (by decide)).1
  refine ⟨_, _, _, sm, ob_4 Rp P0.1, (show vp_in (nI 0) 2 from vp_in_nI (by decide) (by decide)), fun X7 e7 x ex => ?_⟩
  replace pj := pj.upd (s0 := 3) (by decide) e7
  replace C := gp.kp.nc C
  replace Im0 := gp.kp.nc Im0
  replace Im1 := gp.kp.nc Im1
  replace K := gp.kp.kk K (by decide)
  clear e7 ph pi sm d1 d2 d3 d4 d5 Rp gp
  rw [ex, bk_X9_init_74]
  clear ex
  refine ⟨fun q => absurd q (by decide), fun _ => ⟨_, q3, pj.2.2.2.1, rfl, by omega, by omega, fun p1 hp1 X5 e5 => ?_⟩⟩
  subst e5
  obtain ⟨pk, d1, d2, d3, d4, d5⟩ := pj.cell (e := .inr (4, [.null, .null, .null, .null])) hp1
  refine ⟨_, c, pk.2.2.2.1, rfl, _, _, ob_1 pk.1 C.1, rfl, 2, _, w1, ar_1_0 pk.1 C.1, (show vp_in (nI 1) 2 from vp_in_nI (by decide) (by decide)), C.2.2.1, _, c, pk.2.2.2.1, rfl, _, n, ob_1 pk.1 C.1, congrArg (fun z => some (Value.ref z)) C.2.2.2.1, 1, 125, by omega, by omega, ?_⟩
  refine n_plan (by decide) (by decide) pk.1 d2 d1 C.2.2.2.2.2.1.1 C.2.2.2.2.2.2.1 K (fun Xp1 stp1 aap1 Yp1 Rp gp Tp1 P1 => ?_)
  have pl := pk.mv gp Rp d3 d4 d5
  have sm : Hs Xp1 q3 (.inl (3, 2, qA (va_up (fun _ => none) (0 : Int32).toNatClampNeg (some p0)))) := (pl.2.2.2.2.1 3 (by decide)).1
  refine ⟨_, _, _, sm, ob_4 Rp P1.1, (show vp_in (nI 1) 2 from vp_in_nI (by decide) (by decide)), fun X7 e7 x ex => ?_⟩
  replace pl := pl.upd (s0 := 3) (by decide) e7
  replace C := gp.kp.nc C
  replace Im0 := gp.kp.nc Im0
  replace Im1 := gp.kp.nc Im1
  replace K := gp.kp.kk K (by decide)
  replace P0 := gp.kp.np P0
  clear e7 pj pk sm d1 d2 d3 d4 d5 Rp gp
  rw [ex, bk_X9_init_74]
  clear ex
  refine ⟨fun _ => ⟨by omega, by omega, fun d hd X8 e8 => ⟨1, 60, by omega, by omega, ?_⟩⟩, fun q => absurd (by decide) q⟩
  subst e8
  obtain ⟨pm, d1, d2, d3, d4, d5⟩ := pl.cell (e := .inr (3, [.int 0, .null])) hd
  refine n_pad (by decide) (by decide) pm.1 d2 d1 (fun Xd aad Yd Rd gd Td kd id ad => ?_)
  have pn := pm.mv gd Rd d3 d4 d5
  have D : NewD Yd d := ⟨kd, id, ad⟩
  replace C := gd.kp.nc C
  replace Im0 := gd.kp.nc Im0
  replace Im1 := gd.kp.nc Im1
  replace K := gd.kp.kk K (by decide)
  replace P0 := gd.kp.np P0
  replace P1 := gd.kp.np P1
  clear pl pm d1 d2 d3 d4 d5 Rd gd kd id ad
  refine ⟨_, pn.2.2.2.1, Nat.le_of_ble_eq_true rfl, fun X4 e4 => ?_⟩
  replace pn := pn.put [.ref c, .ref q1, .ref q2, .ref q3, .ref d, .null]
  replace e4 : X4 = hput Xd v (.inr (9, [.ref c, .ref q1, .ref q2, .ref q3, .ref d, .null])) := e4
  subst e4
  refine ⟨by omega, by omega, fun bo hbo X5 e5 => ?_⟩
  subst e5
  obtain ⟨pq, d1, d2, d3, d4, d5⟩ := pn.cell (e := .inr (0, [.null, .null, .null, .int 0, .int 0, .int 0])) hbo
  refine ⟨_, c, pq.2.2.2.1, rfl, _, n, ob_1 pq.1 C.1, congrArg (fun z => some (Value.ref z)) C.2.2.2.1, 3, 123, by omega, by omega, ?_⟩
  refine n_boat (by decide) (by decide) pq.1 d2 d1 C.2.2.2.2.2.2.1 (fun Xb stb aab Yb t Rb gb Tb B => ?_)
  have pr := pq.mv gb Rb d3 d4 d5
  replace C := gb.kp.nc C
  replace Im0 := gb.kp.nc Im0
  replace Im1 := gb.kp.nc Im1
  replace K := gb.kp.kk K (by decide)
  replace P0 := gb.kp.np P0
  replace P1 := gb.kp.np P1
  replace D := gb.kp.nd D
  clear pn pq d1 d2 d3 d4 d5 Rb gb
  refine ⟨_, pr.2.2.2.1, Nat.le_of_ble_eq_true rfl, fun X4 e4 => ?_⟩
  replace pr := pr.put [.ref c, .ref q1, .ref q2, .ref q3, .ref d, .ref bo]
  replace e4 : X4 = hput Xb v (.inr (9, [.ref c, .ref q1, .ref q2, .ref q3, .ref d, .ref bo])) := e4
  subst e4
  refine ⟨by omega, by omega, ?_⟩
  have ev : ∀ (g : Nat → Nat) (h : Nat → Nat → Nat → Option Nat), ((va_up stb.1 v g, h) : TS).1 v = g := fun g h => va_up_self _ _ _
  have ev2 : ∀ (h : Nat → Nat → Nat) (g : Nat → Nat → Option Nat), ((h, va_up stb.2 v g) : TS).2 v = g := fun h g => va_up_self _ _ _
  have hst : ∀ a, a ≠ v → (va_up stb.1 v (fun s => if s = 0 then c else if s = 4 then d else bo), va_up stb.2 v (fun s => if s = 1 then va_up (va_up (fun _ => none) (0 : Int32).toNatClampNeg (some i0)) ((0 : Int32) + (1 : Int32)).toNatClampNeg (some i1) else va_up (va_up (fun _ => none) (0 : Int32).toNatClampNeg (some p0)) ((0 : Int32) + (1 : Int32)).toNatClampNeg (some p1))).1 a = stb.1 a ∧ (va_up stb.1 v (fun s => if s = 0 then c else if s = 4 then d else bo), va_up stb.2 v (fun s => if s = 1 then va_up (va_up (fun _ => none) (0 : Int32).toNatClampNeg (some i0)) ((0 : Int32) + (1 : Int32)).toNatClampNeg (some i1) else va_up (va_up (fun _ => none) (0 : Int32).toNatClampNeg (some p0)) ((0 : Int32) + (1 : Int32)).toNatClampNeg (some p1))).2 a = stb.2 a := fun a ha => ⟨va_up_ne _ _ ha, va_up_ne _ _ ha⟩
  have kp : Kp stb Yb (va_up stb.1 v (fun s => if s = 0 then c else if s = 4 then d else bo), va_up stb.2 v (fun s => if s = 1 then va_up (va_up (fun _ => none) (0 : Int32).toNatClampNeg (some i0)) ((0 : Int32) + (1 : Int32)).toNatClampNeg (some i1) else va_up (va_up (fun _ => none) (0 : Int32).toNatClampNeg (some p0)) ((0 : Int32) + (1 : Int32)).toNatClampNeg (some p1))) (Yn Yb v 9 (fun _ => 0) (fun _ _ => 0)) := Kp.yn pr.2.2.1 hst
  have f := pr.fin (st' := (va_up stb.1 v (fun s => if s = 0 then c else if s = 4 then d else bo), va_up stb.2 v (fun s => if s = 1 then va_up (va_up (fun _ => none) (0 : Int32).toNatClampNeg (some i0)) ((0 : Int32) + (1 : Int32)).toNatClampNeg (some i1) else va_up (va_up (fun _ => none) (0 : Int32).toNatClampNeg (some p0)) ((0 : Int32) + (1 : Int32)).toNatClampNeg (some p1)))) (by decide) (fun _ => 0) (fun _ _ => 0) hst (by rw [tob9 (tK_Yn _ _ _ _ _), ev, va_up_self]; rfl) (fun s hs => ?_) ⟨fun z => absurd ((tK_Yn _ _ _ _ _).symm.trans z) (by decide), fun z => absurd ((tK_Yn _ _ _ _ _).symm.trans z) (by decide), fun z => absurd ((tK_Yn _ _ _ _ _).symm.trans z) (by decide), fun _ => ?_⟩
  · exact hp _ _ _ _ c w0 w1 n i0 a0 a1 an i1 b0 b1 bn s p0 p1 d bo t f.1 f.2.1 (fun T hT => f.2.2 _ (Tb _ (Td _ (Tp1 _ (Tp0 _ (T9 _ (Tm1 _ (Tm0 _ (T3 T hT))))))))) ⟨tK_Yn _ _ _ _ _, by rw [ev]; rfl, by rw [ev]; rfl, by rw [ev]; rfl, by rw [ev2]; rfl, by rw [ev2]; rfl, by rw [ev2]; rfl, by rw [ev2]; rfl, by rw [tA_Yn], kp.nc C, kp.nc Im0, kp.nc Im1, kp.kk K (by decide), kp.np P0, kp.np P1, kp.nd D, kp.nb B⟩
  · have hs : s = 1 ∨ s = 2 ∨ s = 3 := by
      simpa [isA] using hs
    rcases hs with rfl | rfl | rfl
    · refine ⟨by decide, ?_⟩
      rw [tar9_1 (tK_Yn _ _ _ _ _), ev2]
      rfl
    · refine ⟨by decide, ?_⟩
      rw [tar9_2 (tK_Yn _ _ _ _ _), tA_Yn]
      rfl
    · refine ⟨by decide, ?_⟩
      rw [tar9_3 (tK_Yn _ _ _ _ _), ev2]
      rfl
  · rw [ev, ev2]
    refine ⟨kp.kk C.1 (by decide), fun i x hx => ?_, fun i x hx => ?_, kp.kk D.1 (by decide), kp.kk B.1 (by decide)⟩
    · exact two_none (a := i0) (b := i1) (P := fun b => tK (Yn Yb v 9 (fun _ => 0) (fun _ _ => 0)) b = 1) (kp.kk Im0.1 (by decide)) (kp.kk Im1.1 (by decide)) hx
    · exact two_none (a := p0) (b := p1) (P := fun b => tK (Yn Yb v 9 (fun _ => 0) (fun _ _ => 0)) b = 4) (kp.kk P0.1 (by decide)) (kp.kk P1.1 (by decide)) hx
end CV
