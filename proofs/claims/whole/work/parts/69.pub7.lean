theorem fsF_ge (p : Nat → Bool) : ∀ j k, k ≤ fsF p j k
  | 0, k => Nat.le_refl _
  | j + 1, k => by
    unfold fsF
    split
    · exact Nat.le_refl _
    · exact Nat.le_trans (Nat.le_succ k) (fsF_ge p j (k + 1))
theorem tg_sum (Y : TY) (p : Nat) (W : WD) (h b l : Nat) : cnP Y p + zzP Y p W h b l = cnB (tgB Y p W h b l) 125 := by
  have h2 : cnP Y p ≤ cnB (tgB Y p W h b l) 125 := cnP_le (fun i _ q => by unfold tgB; rw [q]; rfl)
  unfold zzP
  omega
theorem tg_mono {Y : TY} {p : Nat} {W : WD} {h b l l' : Nat} (hl : l ≤ l') : cnB (tgB Y p W h b l) 125 ≤ cnB (tgB Y p W h b l') 125 := by
  apply cnB_mono
  intro i _ q
  unfold tgB at q ⊢
  rcases (Bool.or_eq_true _ _).mp q with q | q
  · rw [q]
    rfl
  · rw [TsB_mono (Nat.le_refl _) hl q, Bool.or_true]
def soP (W : WD) (N : ND) (o b s l : Nat) : Bool := decide (s ≤ V W N 0 l o b)
def soX (W : WD) (N : ND) (o b s : Nat) : Nat := fsF (soP W N o b s) 5 0
def soR (W : WD) (N : ND) (o b s : Nat) : Int32 := if soX W N o b s = 5 then -6 else nI (hrs W + soX W N o b s)
section P9
variable {st : TS} {A : Nat → Nat} {Y Y' : TY} {G : GD}
def sSoon (G : GD) (v1 v2 v3 v4 : Int32) : Int32 := cond (inB 0 1 v1) (cond (inB 0 20 v2 && inB 0 24 v3 && inB 0 1000000 v4) (soR (G.1 (cN v1)) G.2.1 (cN v2) (cN v3) (cN v4)) (-2)) (-1)
def zSoon (A : Nat → Nat) (Y : TY) (G : GD) (v1 v2 v3 v4 : Int32) : Nat := cond (inB 0 1 v1) (cond (inB 0 20 v2 && inB 0 24 v3 && inB 0 1000000 v4) (zzP Y (A (13 + cN v1)) (G.1 (cN v1)) 0 (cN v3) (min 4 (soX (G.1 (cN v1)) G.2.1 (cN v2) (cN v3) (cN v4)))) 0) 0
theorem zSoon_le {v1 v2 v3 v4 : Int32} : TP A Y + zSoon A Y G v1 v2 v3 v4 ≤ 250 := by
  have z : TP A Y + 0 ≤ 250 := by
    rw [Nat.add_zero]
    exact TP_250 A Y
  unfold zSoon
  cases c : inB 0 1 v1
  · exact z
  · obtain ⟨w, w1, w2, rfl⟩ := rgN (by omega) (by omega) c
    rw [cN_nI (show w < 2147483648 by omega)]
    cases c2 : (inB 0 20 v2 && inB 0 24 v3 && inB 0 1000000 v4)
    · exact z
    · exact TP_zz (by omega) _ _ _ _
theorem k_soonLoop {post : Int32 → TY → Prop} {mc ms : Nat} {v1 : Int32} {w o b s : Nat} (hS : SA st A) (hC : Cl A Y G) (hw : w < 2) (ho : o ≤ 20) (hb : b ≤ 24) (hs : s ≤ 1000000) (hmc : 2 * zzP Y (A (13 + w)) (G.1 w) 0 b (min 4 (soX (G.1 w) G.2.1 o b s)) ≤ mc) (hms : 1031 * zzP Y (A (13 + w)) (G.1 w) 0 b (min 4 (soX (G.1 w) G.2.1 o b s)) ≤ ms) (hp : ∀ Y', Cl A Y' G → CS A (zzP Y (A (13 + w)) (G.1 w) 0 b (min 4 (soX (G.1 w) G.2.1 o b s))) Y Y' → post (soR (G.1 w) G.2.1 o b s) Y') : ∃ n, tk_X9_soonest_45 st post mc ms (A 0) v1 (nI o) (nI b) (nI s) n Y 0 0 (A (13 + w)) (0 : Int32) := by
  have h48 := (hC.1.2.1 w hw).1.2.1
  have key : ∀ j l Yc kc ks, l + j = 5 → fsF (soP (G.1 w) G.2.1 o b s) j l = soX (G.1 w) G.2.1 o b s → Cl A Yc G → (∀ i, i < 125 → nmB Yc (A (13 + w)) i = (nmB Y (A (13 + w)) i || (decide (1 ≤ l) && TsB (G.1 w) 0 b (l - 1) i))) → cnP Y (A (13 + w)) ≤ cnP Yc (A (13 + w)) → kc = 2 * (cnP Yc (A (13 + w)) - cnP Y (A (13 + w))) → ks = 1031 * (cnP Yc (A (13 + w)) - cnP Y (A (13 + w))) → CS A (cnP Yc (A (13 + w)) - cnP Y (A (13 + w))) Y Yc → tk_X9_soonest_45 st post mc ms (A 0) v1 (nI o) (nI b) (nI s) (j + 1) Yc kc ks (A (13 + w)) (nI l) := by
    intro j
    induction j with
    | zero =>
      intro l Yc kc ks hl hx C nm cl ek es cs
      have : l = 5 := by omega
      subst this
      have hx : 5 = soX (G.1 w) G.2.1 o b s := hx
      rw [← hx] at hmc hms hp
      have hmc : 2 * zzP Y (A (13 + w)) (G.1 w) 0 b 4 ≤ mc := hmc
      have hms : 1031 * zzP Y (A (13 + w)) (G.1 w) 0 b 4 ≤ ms := hms
      have ez : cnP Yc (A (13 + w)) = cnP Y (A (13 + w)) + zzP Y (A (13 + w)) (G.1 w) 0 b 4 := cnP_zz (fun i hi => nm i hi)
      have ez2 : cnP Yc (A (13 + w)) - cnP Y (A (13 + w)) = zzP Y (A (13 + w)) (G.1 w) 0 b 4 := by omega
      rw [ez2] at ek es cs
      rw [tk_X9_soonest_45]
      refine ⟨fun _ => ⟨by omega, by omega, ?_⟩, fun q => absurd (by decide) q⟩
      have := hp Yc C cs
      unfold soR at this
      rw [if_pos hx.symm] at this
      exact this
    | succ j ih =>
      intro l Yc kc ks hl hx C nm cl ek es cs
      have hge : l ≤ soX (G.1 w) G.2.1 o b s := by
        rw [← hx]
        exact fsF_ge _ _ _
      have ep : ∀ i, i < 125 → tgB Yc (A (13 + w)) (G.1 w) 0 b l i = tgB Y (A (13 + w)) (G.1 w) 0 b l i := by
        intro i hi
        unfold tgB
        rw [nm i hi]
        cases c1 : TsB (G.1 w) 0 b l i
        · have : (decide (1 ≤ l) && TsB (G.1 w) 0 b (l - 1) i) = false := by
            cases c2 : TsB (G.1 w) 0 b (l - 1) i
            · rw [Bool.and_false]
            · rw [TsB_mono (Nat.le_refl _) (Nat.sub_le l 1) c2] at c1
              cases c1
          rw [this, Bool.or_false]
        · rw [Bool.or_true, Bool.or_true]
      have e1 := tg_sum Yc (A (13 + w)) (G.1 w) 0 b l
      have e2 := tg_sum Y (A (13 + w)) (G.1 w) 0 b l
      have e3 : cnB (tgB Yc (A (13 + w)) (G.1 w) 0 b l) 125 = cnB (tgB Y (A (13 + w)) (G.1 w) 0 b l) 125 := by
        apply cnB_congr
        exact ep
      have e4 := tg_sum Y (A (13 + w)) (G.1 w) 0 b (min 4 (soX (G.1 w) G.2.1 o b s))
      have e5 : cnB (tgB Y (A (13 + w)) (G.1 w) 0 b l) 125 ≤ cnB (tgB Y (A (13 + w)) (G.1 w) 0 b (min 4 (soX (G.1 w) G.2.1 o b s))) 125 := tg_mono (by omega)
      have hV := V_le (G.1 w) G.2.1 0 l o b
      rw [tk_X9_soonest_45, show (4 : Int32) = nI 4 from rfl, nI_ltI (by omega) (by omega)]
      refine ⟨fun q => by omega, fun _ => ⟨2 * zzP Yc (A (13 + w)) (G.1 w) 0 b l, 1031 * zzP Yc (A (13 + w)) (G.1 w) 0 b l, by omega, by omega, ?_⟩⟩
      refine k_bestFrom (h := 0) hS C hw (Nat.zero_le _) ho hb (by omega) (Nat.le_refl _) (Nat.le_refl _) (fun Y1 C1 s1 F1 nm1 => ?_)
      have ec : cnP Y1 (A (13 + w)) = cnP Yc (A (13 + w)) + zzP Yc (A (13 + w)) (G.1 w) 0 b l := cnP_zz nm1
      have cs1 : CS A (cnP Y1 (A (13 + w)) - cnP Y (A (13 + w))) Y Y1 := by
        have := cs.trans s1
        rw [show cnP Yc (A (13 + w)) - cnP Y (A (13 + w)) + zzP Yc (A (13 + w)) (G.1 w) 0 b l = cnP Y1 (A (13 + w)) - cnP Y (A (13 + w)) by omega] at this
        exact this
      unfold fsF at hx
      rw [nI_ltI (by omega) (by omega)]
      refine ⟨fun q x ex => ?_, fun q => ⟨by omega, by omega, ?_⟩⟩
      · rw [ex, show nI l + (1 : Int32) = nI (l + 1) from nI_1 l]
        have hf : soP (G.1 w) G.2.1 o b s l = false := decide_eq_false (by omega)
        rw [if_neg (by rw [hf]; decide)] at hx
        refine ih (l + 1) Y1 _ _ (by omega) hx C1 (fun i hi => ?_) (by omega) (by omega) (by omega) cs1
        rw [nm1 i hi, ep i hi]
        unfold tgB
        rw [decide_eq_true (show 1 ≤ l + 1 by omega), Bool.true_and, Nat.add_sub_cancel]
      · have hf : soP (G.1 w) G.2.1 o b s l = true := decide_eq_true (by omega)
        rw [if_pos hf] at hx
        rw [← hx] at hp e4 e5
        rw [show min 4 l = l by omega] at hp
        rw [show cnP Y1 (A (13 + w)) - cnP Y (A (13 + w)) = zzP Y (A (13 + w)) (G.1 w) 0 b l by omega] at cs1
        have := hp Y1 C1 cs1
        unfold soR at this
        rw [← hx, if_neg (by omega)] at this
        rw [(hS.2.2.2.2.2.2.2.1 w hw).2.2.1, (C1.1.2.1 w hw).2.2.1, nI_add]
        exact this
  refine ⟨6, key 5 0 Y 0 0 rfl rfl hC (fun i hi => ?_) (Nat.le_refl _) (by rw [Nat.sub_self]) (by rw [Nat.sub_self]) (by rw [Nat.sub_self]; exact CS.refl A Y)⟩
  rw [decide_eq_false (show ¬ 1 ≤ 0 by omega), Bool.false_and, Bool.or_false]
theorem k_soonest {post : Int32 → TY → Prop} {mc ms : Nat} {v1 v2 v3 v4 : Int32} (hS : SA st A) (hC : Cl A Y G) (hmc : 2 * zSoon A Y G v1 v2 v3 v4 ≤ mc) (hms : 1031 * zSoon A Y G v1 v2 v3 v4 ≤ ms) (hp : ∀ Y', Cl A Y' G → CS A (zSoon A Y G v1 v2 v3 v4) Y Y' → post (sSoon G v1 v2 v3 v4) Y') : tp_X9_soonest st post mc ms Y (A 0) v1 v2 v3 v4 := by
  have st' := CS.refl A Y
  have z0 : ∀ n : Nat, 0 ≤ n := Nat.zero_le
  unfold tp_X9_soonest
  unfold sSoon zSoon at hp
  unfold zSoon at hmc hms
  refine ⟨z0 _, z0 _, k_planOf hS (fun c => ⟨fun _ => ⟨z0 _, z0 _, ?_⟩, fun y hy => by cases hy⟩) (fun w hw e c => ⟨fun q => (by cases q), fun y hy => ⟨z0 _, z0 _, ?_⟩⟩)⟩
  · rw [c] at hp
    exact hp Y hC st'
  cases hy
  subst e
  rw [c, cN_nI (show w < 2147483648 by omega)] at hp
  rw [c, cN_nI (show w < 2147483648 by omega)] at hmc hms
  refine q_cOwed (bI_el' (fun c2 => ⟨z0 _, z0 _, ?_⟩) (fun c2 => ⟨z0 _, z0 _, q_cBattery (bI_el' (fun c3 => ⟨z0 _, z0 _, ?_⟩) (fun c3 => ⟨z0 _, z0 _, q_within 0 1000000 (bI_el (fun c4 => ?_) (fun c4 => ⟨z0 _, z0 _, ?_⟩))⟩))⟩))
  · rw [c2] at hp
    exact hp Y hC st'
  · rw [c2, c3] at hp
    exact hp Y hC st'
  · obtain ⟨o, o1, o2, rfl⟩ := rgN (by omega) (by omega) c2
    obtain ⟨b, b1, b2, rfl⟩ := rgN (by omega) (by omega) c3
    obtain ⟨s, s1, s2, rfl⟩ := rgN (by omega) (by omega) c4
    rw [c2, c3, c4, cN_nI (show o < 2147483648 by omega), cN_nI (show b < 2147483648 by omega), cN_nI (show s < 2147483648 by omega)] at hp hmc hms
    exact k_soonLoop hS hC hw o2 b2 s2 hmc hms hp
  · rw [c2, c3, c4] at hp
    exact hp Y hC st'
theorem j_soonest {post : Int32 → TY → Prop} {v1 v2 v3 v4 : Int32} (hM : Mo (A 19) Y G) (hp : ∀ Y', Mo (A 19) Y' G → MS A Y Y' → post (sSoon G v1 v2 v3 v4) Y') : tp_X10_soonest st post Y (A 19) v1 v2 v3 v4 := by
  have st' := MS.refl A Y
  unfold tp_X10_soonest
  unfold sSoon at hp
  refine q_isWay (bI_el (fun c => ?_) (fun c => ?_))
  rotate_left
  · rw [c] at hp
    exact hp Y hM st'
  obtain ⟨w, w1, w2, rfl⟩ := rgN (by omega) (by omega) c
  have h48 := (hM.1 w (by omega)).1.2.1
  rw [c, cN_nI (show w < 2147483648 by omega)] at hp
  refine q_isOwed (bI_el' (fun c2 => ?_) (fun c2 => q_isBattery (bI_el' (fun c3 => ?_) (fun c3 => q_in 0 1000000 (bI_el (fun c4 => ?_) (fun c4 => ?_))))))
  · rw [c2] at hp
    exact hp Y hM st'
  · rw [c2, c3] at hp
    exact hp Y hM st'
  · obtain ⟨o, o1, o2, rfl⟩ := rgN (by omega) (by omega) c2
    obtain ⟨b, b1, b2, rfl⟩ := rgN (by omega) (by omega) c3
    obtain ⟨s, s1, s2, rfl⟩ := rgN (by omega) (by omega) c4
    rw [c2, c3, c4, cN_nI (show o < 2147483648 by omega), cN_nI (show b < 2147483648 by omega), cN_nI (show s < 2147483648 by omega)] at hp
    have hp : ∀ Y', Mo (A 19) Y' G → MS A Y Y' → post (soR (G.1 w) G.2.1 o b s) Y' := hp
    have key : ∀ j l Yc, l + j = 5 → fsF (soP (G.1 w) G.2.1 o b s) j l = soX (G.1 w) G.2.1 o b s → Mo (A 19) Yc G → MS A Y Yc → tk_X10_soonest_42 st post (A 19) (nI w) (nI o) (nI b) (nI s) (j + 1) Yc (nI l) := by
      intro j
      induction j with
      | zero =>
        intro l Yc hl hx M ms
        have : l = 5 := by omega
        subst this
        have hx : 5 = soX (G.1 w) G.2.1 o b s := hx
        rw [tk_X10_soonest_42]
        refine ⟨fun _ => ?_, fun q => absurd (by decide) q⟩
        have := hp Yc M ms
        unfold soR at this
        rw [if_pos hx.symm] at this
        exact this
      | succ j ih =>
        intro l Yc hl hx M ms
        have hV := V_le (G.1 w) G.2.1 0 l o b
        rw [tk_X10_soonest_42, show (4 : Int32) = nI 4 from rfl, nI_ltI (by omega) (by omega)]
        refine ⟨fun q => by omega, fun _ => j_bestOf (h := 0) M (by omega) (Nat.zero_le _) o2 b2 (by omega) (fun Y1 M1 m1 => ?_)⟩
        unfold fsF at hx
        rw [nI_ltI (by omega) (by omega)]
        refine ⟨fun q x ex => ?_, fun q => ⟨vp_in_nI (by omega) (by omega), ?_⟩⟩
        · rw [ex, show nI l + (1 : Int32) = nI (l + 1) from nI_1 l]
          have hf : soP (G.1 w) G.2.1 o b s l = false := decide_eq_false (by omega)
          rw [if_neg (by rw [hf]; decide)] at hx
          exact ih (l + 1) Y1 (by omega) hx M1 (ms.trans m1)
        · have hf : soP (G.1 w) G.2.1 o b s l = true := decide_eq_true (by omega)
          rw [if_pos hf] at hx
          have := hp Y1 M1 (ms.trans m1)
          unfold soR at this
          rw [← hx, if_neg (by omega)] at this
          rw [nI_clamp (by omega), (M1.1 w (by omega)).2.1.2.1, nI_add]
          exact this
    exact ⟨6, key 5 0 Y rfl rfl hM st'⟩
  · rw [c2, c3, c4] at hp
    exact hp Y hM st'
-- image, restore
def gI (G : GD) (n : Nat) : GD := (G.1, G.2.1, va_up G.2.2.1 n true, va_up G.2.2.2.1 n G.1, va_up G.2.2.2.2.1 n G.2.1, G.2.2.2.2.2.1, G.2.2.2.2.2.2)
def gR (G : GD) (n : Nat) : GD := (G.2.2.2.1 n, G.2.2.2.2.1 n, G.2.2)
def sImage (G : GD) (v : Int32) : Int32 × GD := cond (inB 0 1 v) (1, gI G (cN v)) (-2, G)
def sRestore (G : GD) (v : Int32) : Int32 × GD := cond (inB 0 1 v) (cond (G.2.2.1 (cN v)) (1, gR G (cN v)) (-3, G)) (-2, G)
theorem k_image {post : Int32 → TY → Prop} {v : Int32} (hS : SA st A) (hC : Cl A Y G) (hp : ∀ Y', Cl A Y' (sImage G v).2 → CS A 0 Y Y' → post (sImage G v).1 Y') : tp_X9_image st post Y (A 0) v := by
  unfold tp_X9_image
  unfold sImage at hp
  refine q_within 0 1 (bI_el (fun c => ?_) (fun c => ?_))
  rotate_left
  · rw [c] at hp
    exact hp Y hC (CS.refl A Y)
  obtain ⟨n, n1, n2, rfl⟩ := rgN (by omega) (by omega) c
  rw [c, cN_nI (by omega)] at hp
  have hp : ∀ Y', Cl A Y' (gI G n) → CS A 0 Y Y' → post 1 Y' := hp
  have hv : vp_in (nI n) 2 := vp_in_nI (by omega) (by omega)
  obtain ⟨i1, i2, i3⟩ := hS.2.2.2.2.2.2.2.2 n (by omega)
  rw [nI_clamp (by omega), hS.2.1]
  refine ⟨hv, _, i1, ?_⟩
  have ne : ∀ {i j}, i < 20 → j < 20 → i ≠ j → A i ≠ A j := fun a b c => hS.ne a b c
  refine c_chartCopy (w0 := A (6 + 2 * n + 0)) (w1 := A (6 + 2 * n + 1)) (u0 := A (4 + 0)) (u1 := A (4 + 1)) (N := G.2.1) (i3 0 (by omega)) (i3 1 (by omega)) (hS.2.2.2.2.2.2.2.1 0 (by omega)).1 (hS.2.2.2.2.2.2.2.1 1 (by omega)).1 (hC.1.2.1 0 (by omega)) (hC.1.2.1 1 (by omega)) (by rw [hS.2.2.2.2.1]; exact hC.1.2.2.1) (ne (by omega) (by omega) (by omega)) (ne (by omega) (by omega) (by omega)) (ne (by omega) (by omega) (by omega)) (ne (by omega) (by omega) (by omega)) (by rw [hS.2.2.2.2.1]; exact ne (by omega) (by omega) (by omega)) (by rw [hS.2.2.2.2.1]; exact ne (by omega) (by omega) (by omega)) (by rw [i2]; exact ne (by omega) (by omega) (by omega)) (by rw [i2]; exact ne (by omega) (by omega) (by omega)) (by rw [hS.2.2.2.2.1, i2]; exact ne (by omega) (by omega) (by omega)) (fun Y5 ox5 p0 p1 pn => ⟨hv, fun Y6 e6 => ?_⟩)
  rw [i2] at ox5 pn
  have oxn : OX (nm A (fun i => i = 0 ∨ i = 6 + 2 * n + 0 ∨ i = 6 + 2 * n + 1 ∨ i = 11 + n)) Y Y6 := by
    refine (ox5.mono (fun b e => ?_)).trans (by rw [e6]; exact OX.sF (D := nm A (fun i => i = 0 ∨ i = 6 + 2 * n + 0 ∨ i = 6 + 2 * n + 1 ∨ i = 11 + n)) ⟨0, by omega, Or.inl rfl, rfl⟩)
    rcases e with e | e | e
    · exact ⟨6 + 2 * n + 0, by omega, Or.inr (Or.inl rfl), e⟩
    · exact ⟨6 + 2 * n + 1, by omega, Or.inr (Or.inr (Or.inl rfl)), e⟩
    · exact ⟨11 + n, by omega, Or.inr (Or.inr (Or.inr rfl)), e⟩
  have s6 : ∀ i, i < 20 → i ≠ 0 → (∀ t, tI Y6 (A i) t = tI Y5 (A i) t) ∧ (∀ t, tA Y6 (A i) t = tA Y5 (A i) t) := fun i hi q => by
    rw [e6]
    exact ⟨fun t => rfl, fun t => tA_obj _ _ (hS.ne hi (by omega) q)⟩
  have sm : ∀ i, i < 20 → ¬ (i = 0 ∨ i = 6 + 2 * n + 0 ∨ i = 6 + 2 * n + 1 ∨ i = 11 + n) → (∀ t, tI Y6 (A i) t = tI Y (A i) t) ∧ (∀ t, tA Y6 (A i) t = tA Y (A i) t) := fun i hi q => by
    obtain ⟨o1, o2, o3⟩ := oxn.1 (A i) (hS.nn hi q)
    exact ⟨o1, o2⟩
  have ci := hC.1.2.2.2.2
  have k5 : tA Y5 (A 0) 2 = tA Y (A 0) 2 := (ox5.1 (A 0) (by rintro (e | e | e) <;> exact absurd e (hS.ne (by omega) (by omega) (by omega)))).2.1 2
  have k6 : tA Y6 (A 0) 2 = upd (tA Y (A 0) 2) n 1 := by
    rw [e6, tA_same, k5]
    rfl
  refine hp Y6 (hC.ox hS oxn (by omega) (by omega) (by omega) rfl rfl ⟨fun m hm => ?_, ?_⟩) (oxn.cs hS (by omega))
  · show tA Y6 (A 0) 2 m = bI (va_up G.2.2.1 n true m) ∧ (va_up G.2.2.1 n true m = true → (∀ w, w < 2 → WayP Y6 (A (6 + 2 * m + w)) (va_up G.2.2.2.1 n G.1 m w)) ∧ NapP Y6 (A (11 + m)) (va_up G.2.2.2.2.1 n G.2.1 m))
    rw [k6]
    by_cases e : m = n
    · subst e
      rw [pk_us, va_up_self, va_up_self, va_up_self]
      refine ⟨rfl, fun _ => ⟨fun w hw => ?_, pn.mv (s6 (11 + m) (by omega) (by omega)).2⟩⟩
      have : w = 0 ∨ w = 1 := by omega
      rcases this with rfl | rfl
      · exact p0.mv (s6 _ (by omega) (by omega)).1 (s6 _ (by omega) (by omega)).2
      · exact p1.mv (s6 _ (by omega) (by omega)).1 (s6 _ (by omega) (by omega)).2
    · rw [pk_un e, va_up_ne _ _ e, va_up_ne _ _ e, va_up_ne _ _ e]
      refine ⟨(ci.1 m hm).1, fun hk => ⟨fun w hw => ?_, ?_⟩⟩
      · exact (((ci.1 m hm).2 hk).1 w hw).mv (sm (6 + 2 * m + w) (by omega) (by omega)).1 (sm _ (by omega) (by omega)).2
      · exact ((ci.1 m hm).2 hk).2.mv (sm (11 + m) (by omega) (by omega)).2
  · exact ci.2.mv (sm 16 (by omega) (by omega)).1 (sm 16 (by omega) (by omega)).2
theorem k_restore {post : Int32 → TY → Prop} {v : Int32} (hS : SA st A) (hC : Cl A Y G) (hp : ∀ Y', Cl A Y' (sRestore G v).2 → CS A 0 Y Y' → post (sRestore G v).1 Y') : tp_X9_restore st post Y (A 0) v := by
  unfold tp_X9_restore
  unfold sRestore at hp
  refine q_within 0 1 (bI_el (fun c => ?_) (fun c => ?_))
  rotate_left
  · rw [c] at hp
    exact hp Y hC (CS.refl A Y)
  obtain ⟨n, n1, n2, rfl⟩ := rgN (by omega) (by omega) c
  rw [c, cN_nI (by omega)] at hp
  have hv : vp_in (nI n) 2 := vp_in_nI (by omega) (by omega)
  obtain ⟨i1, i2, i3⟩ := hS.2.2.2.2.2.2.2.2 n (by omega)
  obtain ⟨q1, q2⟩ := hC.1.2.2.2.2.1 n (by omega)
  rw [nI_clamp (by omega), hS.2.1, q1]
  refine ⟨hv, bI_el (fun hk => ⟨hv, _, i1, ?_⟩) (fun hk => ?_)⟩
  · rw [hk] at hp
    obtain ⟨x1, x2⟩ := q2 hk
    have ne : ∀ {i j}, i < 20 → j < 20 → i ≠ j → A i ≠ A j := fun a b c => hS.ne a b c
    refine c_chartCopy (w0 := A (4 + 0)) (w1 := A (4 + 1)) (u0 := A (6 + 2 * n + 0)) (u1 := A (6 + 2 * n + 1)) (N := G.2.2.2.2.1 n) (hS.2.2.2.2.2.2.2.1 0 (by omega)).1 (hS.2.2.2.2.2.2.2.1 1 (by omega)).1 (i3 0 (by omega)) (i3 1 (by omega)) (x1 0 (by omega)) (x1 1 (by omega)) (by rw [i2]; exact x2) (ne (by omega) (by omega) (by omega)) (ne (by omega) (by omega) (by omega)) (ne (by omega) (by omega) (by omega)) (ne (by omega) (by omega) (by omega)) (by rw [i2]; exact ne (by omega) (by omega) (by omega)) (by rw [i2]; exact ne (by omega) (by omega) (by omega)) (by rw [hS.2.2.2.2.1]; exact ne (by omega) (by omega) (by omega)) (by rw [hS.2.2.2.2.1]; exact ne (by omega) (by omega) (by omega)) (by rw [hS.2.2.2.2.1, i2]; exact ne (by omega) (by omega) (by omega)) (fun Y5 ox5 p0 p1 pn => ?_)
    rw [hS.2.2.2.2.1] at ox5 pn
    have oxn : OX (nm A (fun i => i = 4 ∨ i = 5 ∨ i = 10)) Y Y5 := ox5.mono (fun b e => by
      rcases e with e | e | e
      · exact ⟨4, by omega, Or.inl rfl, e⟩
      · exact ⟨5, by omega, Or.inr (Or.inl rfl), e⟩
      · exact ⟨10, by omega, Or.inr (Or.inr rfl), e⟩)
    have b5 : Cb A Y5 (gR G n) := by
      refine hC.1.up hS oxn (fun w hw _ => ?_) (fun w hw q => by omega) (fun _ => pn) (fun q => absurd (Or.inr (Or.inr rfl)) q) (hC.1.2.2.2.2.ox hS oxn (fun i _ q => by omega) rfl)
      have : w = 0 ∨ w = 1 := by omega
      rcases this with rfl | rfl
      · exact p0
      · exact p1
    exact k_forgetPlans hS b5 (fun Y7 C7 s7 => hp Y7 C7 (by have := (oxn.cs hS (by omega)).trans s7; exact this))
  · rw [hk] at hp
    exact hp Y hC (CS.refl A Y)
theorem j_image {post : Int32 → TY → Prop} {v : Int32} (hM : Mo (A 19) Y G) (hp : ∀ Y', Mo (A 19) Y' (sImage G v).2 → MS A Y Y' → post (sImage G v).1 Y') : tp_X10_image st post Y (A 19) v := by
  unfold tp_X10_image
  unfold sImage at hp
  refine q_isEnd (bI_el (fun c => ?_) (fun c => ?_))
  rotate_left
  · rw [c] at hp
    exact hp Y hM (MS.refl A Y)
  obtain ⟨n, n1, n2, rfl⟩ := rgN (by omega) (by omega) c
  rw [c, cN_nI (by omega)] at hp
  have hp : ∀ Y', Mo (A 19) Y' (gI G n) → MS A Y Y' → post 1 Y' := hp
  intro Y3 e3 Y4 e4
  rw [show (60 : Int32) = nI 60 from rfl, pk_mul] at e3
  have t4 : ∀ t, tA Y4 (A 19) t = tA Y (A 19) t := fun t => by rw [e4, e3]; rfl
  have mx4 : MX (A 19) (fun t => t = 23 ∨ t = 24 ∨ t = 25 ∨ t = 26) Y Y4 := by
    rw [e4, e3]
    exact (MX.sI (S := fun t => t = 23 ∨ t = 24 ∨ t = 25 ∨ t = 26) (by omega)).trans (MX.sI (S := fun t => t = 23 ∨ t = 24 ∨ t = 25 ∨ t = 26) (by omega))
  refine m_passAllW (p := 60 * n) (by rw [e4, tI_sI, if_pos ⟨rfl, rfl⟩]) (by rw [e4, tI_sI, if_neg (fun q => absurd q.2 (by decide)), e3, tI_sI, if_pos ⟨rfl, rfl⟩]) (by omega) (fun Y5 mx5 f1 f2 f3 f4 => ⟨vp_in_nI (by omega) (by omega), fun Y6 e6 => ?_⟩)
  have mx6 : MX (A 19) (fun t => t = 23 ∨ t = 24 ∨ t = 25 ∨ t = 26) Y Y6 := by
    refine mx4.trans ((mx5.mono (fun t q => by unfold scK at q; omega)).trans ?_)
    rw [e6]
    exact MX.sF (S := fun t => t = 23 ∨ t = 24 ∨ t = 25 ∨ t = 26) (by omega)
  have k23 : tA Y6 (A 19) 23 = tA Y5 (A 19) 23 := by rw [e6, tA_other _ _ (by decide)]
  have k24 : tA Y6 (A 19) 24 = upd (tA Y (A 19) 24) n 1 := by
    rw [e6, tA_same, nI_clamp (by omega), (mx5.2.1 24 (by unfold scK; omega)).2, t4]
    rfl
  obtain ⟨h1, h2, h3, h4, h5⟩ := hM
  refine hp Y6 ⟨fun w hw => ⟨(h1 w hw).1, mx6.mw (fun t q z => by omega) (h1 w hw).2.1, ?_⟩, h2, mx6.mn (fun t q1 q2 z => by omega) h3, mx6.mp (fun t q1 q2 z => by omega) h4, fun m hm => ?_⟩ mx6.ms
  · rw [(mx6.2.1 20 (by omega)).2]
    rcases (h1 w hw).2.2 with a | ⟨a, b⟩
    · exact Or.inl a
    · exact Or.inr ⟨a, b.mv (mx6.2.1 19 (by omega)).2⟩
  · show tA Y6 (A 19) 24 m = bI (va_up G.2.2.1 n true m) ∧ (va_up G.2.2.1 n true m = true → (∀ w, w < 2 → wfW (va_up G.2.2.2.1 n G.1 m w)) ∧ wfN (va_up G.2.2.2.2.1 n G.2.1 m) ∧ KP Y6 (A 19) m (va_up G.2.2.2.1 n G.1 m) (va_up G.2.2.2.2.1 n G.2.1 m))
    rw [k24]
    by_cases e : m = n
    · subst e
      rw [pk_us, va_up_self, va_up_self, va_up_self]
      refine ⟨rfl, fun _ => ⟨fun w hw => (h1 w hw).1, h2, ⟨fun w hw => ?_, fun k q1 q2 => ?_⟩⟩⟩
      · have a2 := (h1 w hw).2.1
        have a8 := (h1 w hw).1.1
        rw [k23]
        refine ⟨by rw [f2 w hw, t4]; exact a2.1, fun k hk => ?_⟩
        obtain ⟨x0, x1, x2⟩ := f1 (8 * w + k) (by omega)
        rw [x0, x1, x2, t4, t4, t4]
        exact a2.2.2.1 k hk
      · obtain ⟨x0, x1⟩ := f3 (k - 1) (by omega)
        rw [k23, x0, x1, t4, t4]
        exact h3 k q1 q2
    · rw [pk_un e, va_up_ne _ _ e, va_up_ne _ _ e, va_up_ne _ _ e]
      obtain ⟨b1, b2⟩ := h5 m hm
      refine ⟨b1, fun hk => ⟨(b2 hk).1, (b2 hk).2.1, ?_⟩⟩
      have kp := (b2 hk).2.2
      have wf := (b2 hk).1
      refine ⟨fun w hw => ?_, fun k q1 q2 => ?_⟩
      · have a8 := (wf w hw).1
        rw [k23, f4 _ (by omega), t4]
        refine ⟨(kp.1 w hw).1, fun k hk2 => ?_⟩
        rw [f4 _ (by omega), f4 _ (by omega), f4 _ (by omega), t4]
        exact (kp.1 w hw).2 k hk2
      · rw [k23, f4 _ (by omega), f4 _ (by omega), t4]
        exact kp.2 k q1 q2
theorem j_restore {post : Int32 → TY → Prop} {v : Int32} (hM : Mo (A 19) Y G) (hp : ∀ Y', Mo (A 19) Y' (sRestore G v).2 → MS A Y Y' → post (sRestore G v).1 Y') : tp_X10_restore st post Y (A 19) v := by
  unfold tp_X10_restore
  unfold sRestore at hp
  refine q_isEnd (bI_el (fun c => ?_) (fun c => ?_))
  rotate_left
  · rw [c] at hp
    exact hp Y hM (MS.refl A Y)
  obtain ⟨n, n1, n2, rfl⟩ := rgN (by omega) (by omega) c
  rw [c, cN_nI (by omega)] at hp
  have hv : vp_in (nI n) 2 := vp_in_nI (by omega) (by omega)
  obtain ⟨q1, q2⟩ := hM.2.2.2.2 n (by omega)
  rw [nI_clamp (by omega), q1]
  refine ⟨hv, bI_el (fun hk => ?_) (fun hk => ?_)⟩
  · rw [hk] at hp
    have hp : ∀ Y', Mo (A 19) Y' (gR G n) → MS A Y Y' → post 1 Y' := hp
    obtain ⟨wf, wn, kp⟩ := q2 hk
    intro Y4 e4 Y5 e5
    rw [show (60 : Int32) = nI 60 from rfl, pk_mul] at e4
    have t5 : ∀ t, tA Y5 (A 19) t = tA Y (A 19) t := fun t => by rw [e5, e4]; rfl
    have mx5 : MX (A 19) (fun t => t = 25 ∨ t = 26) Y Y5 := by
      rw [e5, e4]
      exact (MX.sI (S := fun t => t = 25 ∨ t = 26) (by omega)).trans (MX.sI (S := fun t => t = 25 ∨ t = 26) (by omega))
    refine m_passAllR (p := 60 * n) (by rw [e5, tI_sI, if_pos ⟨rfl, rfl⟩]) (by rw [e5, tI_sI, if_neg (fun q => absurd q.2 (by decide)), e4, tI_sI, if_pos ⟨rfl, rfl⟩]) (by omega) (fun Y6 mx6 f1 f2 f3 => ?_)
    have ml : ∀ w, w < 2 → MLP Y6 (A 19) w (G.2.2.2.1 n w) := by
      intro w hw
      have a8 := (wf w hw).1
      refine ⟨by rw [f2 w hw, t5]; exact (kp.1 w hw).1, fun k hk2 => ?_⟩
      obtain ⟨x0, x1, x2⟩ := f1 (8 * w + k) (by omega)
      rw [x0, x1, x2, t5]
      exact (kp.1 w hw).2 k hk2
    have mn : MNP Y6 (A 19) (G.2.2.2.2.1 n) := by
      intro k z1 z2
      obtain ⟨x0, x1⟩ := f3 (k - 1) (by omega)
      rw [x0, x1, t5]
      exact kp.2 k z1 z2
    refine m_layHours (w := 0) (wf 0 (by omega)) (ml 0 (by omega)) (by omega) (fun Y7 l7 m7 => ?_)
    refine m_layHours (w := 1) (wf 1 (by omega)) (l7.1.ml (fun t h1 q => by unfold scL at q; omega) (ml 1 (by omega))) (by omega) (fun Y8 l8 m8 => ?_)
    have m80 : MWP Y8 (A 19) 0 (G.2.2.2.1 n 0) := l8.other (by omega) (by omega) (by omega) (wf 0 (by omega)).2.1 m7
    have z20 : tA Y8 (A 19) 20 0 = 0 := by rw [(l8.2.1 0 (by omega)).2]; exact l7.2.2.2
    have e8 : ∀ t, 3 < t → t ≠ 7 → t ≠ 8 → t ≠ 25 → t ≠ 26 → ¬ scL t → tI Y8 (A 19) t = tI Y (A 19) t ∧ tA Y8 (A 19) t = tA Y (A 19) t := fun t z1 z2 z3 z4 z5 z6 => by
      obtain ⟨a1, a2⟩ := l8.1.2.1 t z6
      obtain ⟨b1, b2⟩ := l7.1.2.1 t z6
      obtain ⟨c1, c2⟩ := mx6.2.1 t (by unfold scR; omega)
      obtain ⟨d1, d2⟩ := mx5.2.1 t (by omega)
      exact ⟨a1.trans (b1.trans (c1.trans d1)), a2.trans (b2.trans (c2.trans d2))⟩
    obtain ⟨h1, h2, h3, h4, h5⟩ := hM
    refine hp Y8 ⟨fun w hw => ?_, wn, ?_, ?_, fun m hm => ?_⟩ (mx5.ms.trans (mx6.ms.trans (l7.1.ms.trans l8.1.ms)))
    · have : w = 0 ∨ w = 1 := by omega
      rcases this with rfl | rfl
      · exact ⟨wf 0 (by omega), m80, Or.inl z20⟩
      · exact ⟨wf 1 (by omega), m8, Or.inl l8.2.2.2⟩
    · exact l8.1.mn (fun t z1 z2 q => by unfold scL at q; omega) (l7.1.mn (fun t z1 z2 q => by unfold scL at q; omega) mn)
    · show MPP Y8 (A 19) G.2.2.2.2.2.1 G.2.2.2.2.2.2
      unfold MPP at h4 ⊢
      rw [(e8 10 (by omega) (by omega) (by omega) (by omega) (by omega) (by unfold scL; omega)).1, (e8 9 (by omega) (by omega) (by omega) (by omega) (by omega) (by unfold scL; omega)).2]
      exact h4
    · obtain ⟨b1, b2⟩ := h5 m hm
      exact ⟨by rw [(e8 24 (by omega) (by omega) (by omega) (by omega) (by omega) (by unfold scL; omega)).2]; exact b1, fun hk => ⟨(b2 hk).1, (b2 hk).2.1, (b2 hk).2.2.mv (e8 23 (by omega) (by omega) (by omega) (by omega) (by omega) (by unfold scL; omega)).2⟩⟩
  · rw [hk] at hp
    exact hp Y hM (MS.refl A Y)
end P9
