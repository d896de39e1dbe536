-- ONLY THE OBJECTS OF D HAVE CHANGED
def OX (D : Nat → Prop) (Y Y' : TY) : Prop := (∀ b, ¬ D b → (∀ t, tI Y' b t = tI Y b t) ∧ (∀ t, tA Y' b t = tA Y b t) ∧ tW Y' b = tW Y b) ∧ (∀ b, tK Y' b = tK Y b) ∧ (∀ b, tP Y' b = tP Y b)
theorem OX.refl (D : Nat → Prop) (Y : TY) : OX D Y Y := ⟨fun _ _ => ⟨fun _ => rfl, fun _ => rfl, rfl⟩, fun _ => rfl, fun _ => rfl⟩
theorem OX.trans {D : Nat → Prop} {Y Y' Y'' : TY} (h1 : OX D Y Y') (h2 : OX D Y' Y'') : OX D Y Y'' := ⟨fun b hb => ⟨fun t => ((h2.1 b hb).1 t).trans ((h1.1 b hb).1 t), fun t => ((h2.1 b hb).2.1 t).trans ((h1.1 b hb).2.1 t), (h2.1 b hb).2.2.trans (h1.1 b hb).2.2⟩, fun b => (h2.2.1 b).trans (h1.2.1 b), fun b => (h2.2.2 b).trans (h1.2.2 b)⟩
theorem OX.mono {D E : Nat → Prop} {Y Y' : TY} (h : OX D Y Y') (hd : ∀ b, D b → E b) : OX E Y Y' := ⟨fun b hb => h.1 b (fun q => hb (hd b q)), h.2⟩
theorem OX.sI {D : Nat → Prop} {Y : TY} {a s : Nat} {v : Int32} (ha : D a) : OX D Y (sI Y a s v) := ⟨fun b hb => ⟨fun t => by rw [tI_sI, if_neg (fun q => hb (by rw [q.1]; exact ha))], fun _ => rfl, rfl⟩, fun _ => rfl, fun _ => rfl⟩
theorem OX.sF {D : Nat → Prop} {Y : TY} {a s : Nat} {g : Nat → Int32} (ha : D a) : OX D Y (sF Y a s g) := ⟨fun b hb => ⟨fun _ => rfl, fun t => tA_obj _ _ (fun q => hb (by rw [q]; exact ha)), rfl⟩, fun _ => rfl, fun _ => rfl⟩
theorem OX.sW {D : Nat → Prop} {Y : TY} {a : Nat} {r : Option Nat} (ha : D a) : OX D Y (sW Y a r) := ⟨fun b hb => ⟨fun _ => rfl, fun _ => rfl, by rw [tW_sW, if_neg (fun q => hb (by rw [q]; exact ha))]⟩, fun _ => rfl, fun _ => rfl⟩
theorem OX.way {D : Nat → Prop} {Y Y' : TY} {a : Nat} {W : WD} (h : OX D Y Y') (ha : ¬ D a) (hw : WayP Y a W) : WayP Y' a W := hw.mv (h.1 a ha).1 (h.1 a ha).2.1
theorem OX.nap {D : Nat → Prop} {Y Y' : TY} {a : Nat} {N : ND} (h : OX D Y Y') (ha : ¬ D a) (hn : NapP Y a N) : NapP Y' a N := hn.mv (h.1 a ha).2.1
theorem hrF_congr {f g : Nat → Nat} : ∀ {n : Nat}, (∀ k, k < n → f k = g k) → hrF f n = hrF g n
  | 0, _ => rfl
  | n + 1, h => by
    unfold hrF
    rw [hrF_congr (fun k hk => h k (by omega)), h n (by omega)]
theorem atF_congr {lf lg f g : Nat → Nat} : ∀ {n h : Nat}, (∀ k, k < n → lf k = lg k) → (∀ k, k < n → f k = g k) → atF lf f n h = atF lg g n h
  | 0, _, _, _ => rfl
  | n + 1, h, h1, h2 => by
    unfold atF
    rw [hrF_congr (fun k hk => h1 k (by omega)), atF_congr (fun k hk => h1 k (by omega)) (fun k hk => h2 k (by omega)), h2 n (by omega)]
def addL (W : WD) (x s q : Nat) : WD := (W.1 + 1, va_up W.2.1 W.1 x, va_up W.2.2.1 W.1 s, va_up W.2.2.2 W.1 q)
def cutL (W : WD) : WD := (W.1 - 1, W.2.1, W.2.2.1, W.2.2.2)
theorem addL_hrs (W : WD) (x s q : Nat) : hrs (addL W x s q) = hrs W + x := by
  unfold hrs addL
  show hrF (va_up W.2.1 W.1 x) W.1 + va_up W.2.1 W.1 x W.1 = _
  rw [hrF_congr (g := W.2.1) (fun k hk => va_up_ne _ _ (by omega)), va_up_self]
theorem addL_at (W : WD) (x s q : Nat) (f : Nat → Nat) (z h : Nat) : atF (va_up W.2.1 W.1 x) (va_up f W.1 z) (W.1 + 1) h = if h < hrs W then atF W.2.1 f W.1 h else z := by
  show (if h < hrF (va_up W.2.1 W.1 x) W.1 then atF (va_up W.2.1 W.1 x) (va_up f W.1 z) W.1 h else va_up f W.1 z W.1) = _
  rw [hrF_congr (g := W.2.1) (fun k hk => va_up_ne _ _ (by omega)), atF_congr (lg := W.2.1) (g := f) (fun k hk => va_up_ne _ _ (by omega)) (fun k hk => va_up_ne _ _ (by omega)), va_up_self]
  rfl
theorem addL_shp (W : WD) (x s q h : Nat) : shp (addL W x s q) h = if h < hrs W then shp W h else s := addL_at W x s q W.2.2.1 s h
theorem addL_sql (W : WD) (x s q h : Nat) : sql (addL W x s q) h = if h < hrs W then sql W h else q := addL_at W x s q W.2.2.2 q h
theorem addL_wf {W : WD} {x s q : Nat} (hw : wfW W) (h8 : W.1 < 8) (hx : 1 ≤ x) (hx2 : x ≤ 24) (h48 : hrs W + x ≤ 48) (hs : s ≤ 500) (hq : q ≤ 1) : wfW (addL W x s q) := by
  refine ⟨by show W.1 + 1 ≤ 8; omega, by rw [addL_hrs]; exact h48, fun k hk => ?_⟩
  have hk : k < W.1 + 1 := hk
  show 1 ≤ va_up W.2.1 W.1 x k ∧ va_up W.2.1 W.1 x k ≤ 24 ∧ va_up W.2.2.1 W.1 s k ≤ 500 ∧ va_up W.2.2.2 W.1 q k ≤ 1
  by_cases c : k = W.1
  · subst c
    rw [va_up_self, va_up_self, va_up_self]
    exact ⟨hx, hx2, hs, hq⟩
  · rw [va_up_ne _ _ c, va_up_ne _ _ c, va_up_ne _ _ c]
    exact hw.2.2 k (by omega)
theorem hrF_le {f : Nat → Nat} : ∀ {n m : Nat}, m ≤ n → hrF f m ≤ hrF f n
  | 0, m, h => by
    have : m = 0 := by omega
    subst this
    exact Nat.le_refl _
  | n + 1, m, h => by
    by_cases c : m = n + 1
    · subst c
      exact Nat.le_refl _
    · have := hrF_le (f := f) (n := n) (m := m) (by omega)
      show _ ≤ hrF f n + f n
      exact Nat.le_trans this (Nat.le_add_right _ _)
theorem cutL_hrs {W : WD} (h : 1 ≤ W.1) : hrs W = hrs (cutL W) + W.2.1 (W.1 - 1) := by
  unfold hrs cutL
  show hrF W.2.1 W.1 = hrF W.2.1 (W.1 - 1) + _
  rw [show W.1 = (W.1 - 1) + 1 by omega]
  rfl
theorem cutL_at {W : WD} (h : 1 ≤ W.1) (f : Nat → Nat) {i : Nat} (hi : i < hrs (cutL W)) : atF W.2.1 f (W.1 - 1) i = atF W.2.1 f W.1 i := by
  have hi : i < hrF W.2.1 (W.1 - 1) := hi
  have e : atF W.2.1 f W.1 i = atF W.2.1 f ((W.1 - 1) + 1) i := by rw [show (W.1 - 1) + 1 = W.1 by omega]
  rw [e]
  show _ = if i < hrF W.2.1 (W.1 - 1) then _ else _
  rw [if_pos hi]
theorem cutL_wf {W : WD} (hw : wfW W) (h : 1 ≤ W.1) : wfW (cutL W) := by
  have := cutL_hrs h
  have h48 := hw.2.1
  exact ⟨by have := hw.1; show W.1 - 1 ≤ 8; omega, by omega, fun k hk => hw.2.2 k (by have hk : k < W.1 - 1 := hk; omega)⟩
section W2
variable {st : TS} {Y : TY} {a : Nat} {W : WD}
theorem c_hasRoom {post : Int32 → Prop} (hw : WayP Y a W) {x : Nat} (hx : x ≤ 24) (hp : post (bI (decide (W.1 < 8 ∧ hrs W + x ≤ 48)))) : tp_X8_hasRoom st post Y a (nI x) := by
  have h48 := hw.1.2.1
  have h8 := hw.1.1
  unfold tp_X8_hasRoom
  rw [hw.2.1, hw.2.2.1, nI_add, show (8 : Int32) = nI 8 from rfl, show (48 : Int32) = nI 48 from rfl, nI_leI (by omega) (by omega), nI_ltI (by omega) (by omega)]
  refine ⟨fun c => bI_f hp (decide_eq_false (by omega)), fun c => ⟨fun c2 => bI_f hp (decide_eq_false (by omega)), fun c2 => bI_t hp (decide_eq_true (by omega))⟩⟩
theorem c_lengthen {post : TY → Prop} (hw : WayP Y a W) {x s q : Nat} (h8 : W.1 < 8) (hx : 1 ≤ x) (hx2 : x ≤ 24) (h48 : hrs W + x ≤ 48) (hs : s ≤ 500) (hq : q ≤ 1) (hp : ∀ Y', OX (· = a) Y Y' → WayP Y' a (addL W x s q) → post Y') : tp_X8_lengthen st post Y a (nI x) (nI s) (nI q) := by
  unfold tp_X8_lengthen
  refine c_hasRoom hw hx2 (bI_el (fun _ => ?_) (fun c => absurd ⟨h8, h48⟩ (of_decide_eq_false c)))
  have hin : vp_in (nI W.1) 8 := vp_in_nI (by omega) (by omega)
  rw [hw.2.1]
  refine ⟨hin, fun Y3 e3 => ?_⟩
  rw [nI_clamp (by omega)] at e3
  have i3 : tI Y3 a 0 = nI W.1 := by rw [e3]; exact hw.2.1
  rw [i3]
  refine ⟨hin, fun Y4 e4 => ?_⟩
  rw [nI_clamp (by omega)] at e4
  have i4 : tI Y4 a 0 = nI W.1 := by rw [e4]; exact i3
  rw [i4]
  refine ⟨hin, fun Y5 e5 Y6 e6 => ?_⟩
  rw [nI_clamp (by omega)] at e5
  have i5 : tI Y5 a 0 = nI W.1 := by rw [e5]; exact i4
  rw [i5, show nI W.1 + (1 : Int32) = nI (W.1 + 1) from nI_1 _] at e6
  have ox6 : OX (· = a) Y Y6 := by
    rw [e6, e5, e4, e3]
    exact (OX.sF (D := (· = a)) rfl).trans ((OX.sF (D := (· = a)) rfl).trans ((OX.sF (D := (· = a)) rfl).trans (OX.sI (D := (· = a)) rfl)))
  have a2 : tA Y6 a 2 = upd (tA Y a 2) W.1 (nI x) := by rw [e6, tA_sI, e5, tA_other _ _ (by decide), e4, tA_other _ _ (by decide), e3, tA_same]
  have a3 : tA Y6 a 3 = upd (tA Y a 3) W.1 (nI s) := by rw [e6, tA_sI, e5, tA_other _ _ (by decide), e4, tA_same, e3, tA_other _ _ (by decide)]
  have a4 : tA Y6 a 4 = upd (tA Y a 4) W.1 (nI q) := by rw [e6, tA_sI, e5, tA_same, e4, tA_other _ _ (by decide), e3, tA_other _ _ (by decide)]
  have a5 : tA Y6 a 5 = tA Y a 5 := by rw [e6, tA_sI, e5, tA_other _ _ (by decide), e4, tA_other _ _ (by decide), e3, tA_other _ _ (by decide)]
  have a6 : tA Y6 a 6 = tA Y a 6 := by rw [e6, tA_sI, e5, tA_other _ _ (by decide), e4, tA_other _ _ (by decide), e3, tA_other _ _ (by decide)]
  have j0 : tI Y6 a 0 = nI (W.1 + 1) := by rw [e6, tI_sI, if_pos ⟨rfl, rfl⟩]
  have j1 : tI Y6 a 1 = nI (hrs W) := by rw [e6, tI_sI, if_neg (fun q => absurd q.2 (by decide)), e5, e4, e3]; exact hw.2.2.1
  have key : ∀ j k Yc, k + j = x → OX (· = a) Y Yc → tI Yc a 0 = nI (W.1 + 1) → tI Yc a 1 = nI (hrs W + k) → tA Yc a 2 = upd (tA Y a 2) W.1 (nI x) → tA Yc a 3 = upd (tA Y a 3) W.1 (nI s) → tA Yc a 4 = upd (tA Y a 4) W.1 (nI q) → (∀ h, h < hrs W + k → tA Yc a 5 h = nI (if h < hrs W then shp W h else s) ∧ tA Yc a 6 h = nI (if h < hrs W then sql W h else q)) → tk_X8_lengthen_52 st post a (nI x) (nI s) (nI q) (j + 1) Yc (nI k) := by
    intro j
    induction j with
    | zero =>
      intro k Yc hk ox b0 b1 b2 b3 b4 b5
      have : k = x := by omega
      subst this
      rw [tk_X8_lengthen_52]
      refine ⟨fun _ => hp Yc ox ⟨addL_wf hw.1 h8 hx hx2 h48 hs hq, b0, by rw [addL_hrs]; exact b1, fun i hi => ?_, fun i hi => ?_⟩, fun c => absurd (Int32.le_refl _) c⟩
      · have hi : i < W.1 + 1 := hi
        show tA Yc a 2 i = nI (va_up W.2.1 W.1 k i) ∧ tA Yc a 3 i = nI (va_up W.2.2.1 W.1 s i) ∧ tA Yc a 4 i = nI (va_up W.2.2.2 W.1 q i)
        rw [b2, b3, b4]
        by_cases c : i = W.1
        · subst c
          rw [pk_us, pk_us, pk_us, va_up_self, va_up_self, va_up_self]
          exact ⟨rfl, rfl, rfl⟩
        · rw [pk_un c, pk_un c, pk_un c, va_up_ne _ _ c, va_up_ne _ _ c, va_up_ne _ _ c]
          exact hw.2.2.2.1 i (by omega)
      · rw [addL_hrs] at hi
        rw [addL_shp, addL_sql]
        exact b5 i hi
    | succ j ih =>
      intro k Yc hk ox b0 b1 b2 b3 b4 b5
      rw [tk_X8_lengthen_52, nI_leI (by omega) (by omega), b1]
      have hin2 : vp_in (nI (hrs W + k)) 48 := vp_in_nI (by omega) (by omega)
      refine ⟨fun c => by omega, fun _ => ⟨hin2, fun Y9 e9 => ?_⟩⟩
      rw [nI_clamp (by omega)] at e9
      have b9 : tI Y9 a 1 = nI (hrs W + k) := by rw [e9]; exact b1
      rw [b9]
      refine ⟨hin2, fun Y10 e10 Y11 e11 x12 e12 => ?_⟩
      rw [nI_clamp (by omega)] at e10
      have b10 : tI Y10 a 1 = nI (hrs W + k) := by rw [e10]; exact b9
      rw [b10, show nI (hrs W + k) + (1 : Int32) = nI (hrs W + (k + 1)) from nI_1 _] at e11
      rw [e12, show nI k + (1 : Int32) = nI (k + 1) from nI_1 k]
      have f5 : tA Y11 a 5 = upd (tA Yc a 5) (hrs W + k) (nI s) := by rw [e11, tA_sI, e10, tA_other _ _ (by decide), e9, tA_same]
      have f6 : tA Y11 a 6 = upd (tA Yc a 6) (hrs W + k) (nI q) := by rw [e11, tA_sI, e10, tA_same, e9, tA_other _ _ (by decide)]
      have fo : ∀ t, t ≠ 5 → t ≠ 6 → tA Y11 a t = tA Yc a t := fun t h1 h2 => by rw [e11, tA_sI, e10, tA_other _ _ h2, e9, tA_other _ _ h1]
      refine ih (k + 1) Y11 (by omega) (ox.trans ?_) ?_ ?_ (by rw [fo 2 (by decide) (by decide)]; exact b2) (by rw [fo 3 (by decide) (by decide)]; exact b3) (by rw [fo 4 (by decide) (by decide)]; exact b4) (fun h hh => ?_)
      · rw [e11, e10, e9]
        exact (OX.sF (D := (· = a)) rfl).trans ((OX.sF (D := (· = a)) rfl).trans (OX.sI (D := (· = a)) rfl))
      · rw [e11, tI_sI, if_neg (fun q => absurd q.2 (by decide)), e10, e9]
        exact b0
      · rw [e11, tI_sI, if_pos ⟨rfl, rfl⟩]
      · rw [f5, f6]
        by_cases c : h = hrs W + k
        · subst c
          rw [pk_us, pk_us, if_neg (by omega), if_neg (by omega)]
          exact ⟨rfl, rfl⟩
        · rw [pk_un c, pk_un c]
          exact b5 h (by omega)
  refine ⟨x + 1, key x 0 Y6 (by omega) ox6 j0 j1 a2 a3 a4 (fun h hh => ?_)⟩
  have hh : h < hrs W := hh
  rw [a5, a6, if_pos hh, if_pos hh]
  exact hw.2.2.2.2 h hh
theorem c_shorten {post : TY → Prop} (hw : WayP Y a W) (h1 : 1 ≤ W.1) (hp : ∀ Y', OX (· = a) Y Y' → WayP Y' a (cutL W) → post Y') : tp_X8_shorten st post Y a := by
  have h8 := hw.1.1
  have h48 := hw.1.2.1
  have hc := cutL_hrs h1
  unfold tp_X8_shorten
  rw [hw.2.1]
  refine ⟨fun c => ?_, fun _ Y2 e2 => ?_⟩
  · rw [show (0 : Int32) = nI 0 from rfl, nI_leI (by omega) (by omega)] at c
    omega
  · rw [show nI W.1 - (1 : Int32) = nI (W.1 - 1) from pk_sub (b := 1) h1] at e2
    have i0 : tI Y2 a 0 = nI (W.1 - 1) := by rw [e2, tI_sI, if_pos ⟨rfl, rfl⟩]
    have i1 : tI Y2 a 1 = nI (hrs W) := by rw [e2, tI_sI, if_neg (fun q => absurd q.2 (by decide))]; exact hw.2.2.1
    have a2 : ∀ t, tA Y2 a t = tA Y a t := fun t => by rw [e2]; rfl
    rw [i0, i1, nI_clamp (by omega), a2, (hw.2.2.2.1 (W.1 - 1) (by omega)).1, pk_sub (by omega)]
    refine ⟨vp_in_nI (by omega) (by omega), fun Y3 e3 => ?_⟩
    have ox : OX (· = a) Y Y3 := by
      rw [e3, e2]
      exact (OX.sI (D := (· = a)) rfl).trans (OX.sI (D := (· = a)) rfl)
    have a3 : ∀ t, tA Y3 a t = tA Y a t := fun t => by rw [e3, tA_sI, a2]
    refine hp Y3 ox ⟨cutL_wf hw.1 h1, ?_, ?_, fun k hk => ?_, fun h hh => ?_⟩
    · rw [e3, tI_sI, if_neg (fun q => absurd q.2 (by decide))]
      exact i0
    · rw [e3, tI_sI, if_pos ⟨rfl, rfl⟩]
      congr 1
      omega
    · have hk : k < W.1 - 1 := hk
      rw [a3, a3, a3]
      exact hw.2.2.2.1 k (by omega)
    · rw [a3, a3]
      have := hw.2.2.2.2 h (by omega)
      unfold shp sql cutL at *
      simp only at *
      rw [cutL_at h1 _ hh, cutL_at h1 _ hh]
      exact this
theorem c_firstHour {post : Int32 → Prop} (hw : WayP Y a W) {k : Nat} (hk : k < W.1) (hp : post (nI (hrF W.2.1 k))) : tp_X8_firstHourOf st post Y a (nI k) := by
  have h8 := hw.1.1
  have h48 := hw.1.2.1
  have key : ∀ j i, i + j = k → tk_X8_firstHourOf_4 st post Y a (nI k) (j + 1) (nI (hrF W.2.1 i)) (nI i) := by
    intro j
    induction j with
    | zero =>
      intro i hi
      have : i = k := by omega
      subst this
      rw [tk_X8_firstHourOf_4]
      exact ⟨fun _ => hp, fun c => absurd (Int32.le_refl _) c⟩
    | succ j ih =>
      intro i hi
      rw [tk_X8_firstHourOf_4, nI_leI (by omega) (by omega), hw.2.1, nI_leI (by omega) (by omega), nI_clamp (by omega)]
      refine ⟨fun c => by omega, fun _ => ⟨fun c => by omega, fun _ => ⟨vp_in_nI (by omega) (by omega), fun x4 e4 x5 e5 => ?_⟩⟩⟩
      rw [(hw.2.2.2.1 i (by omega)).1, nI_add] at e4
      rw [e4, e5, show nI i + (1 : Int32) = nI (i + 1) from nI_1 i]
      exact ih (i + 1) (by omega)
  exact ⟨k + 1, key k 0 (by omega)⟩
theorem c_wayCopy {post : TY → Prop} {b : Nat} {W2 : WD} (hw : WayP Y b W2) (hab : b ≠ a) (hp : ∀ Y', OX (· = a) Y Y' → WayP Y' a W2 → post Y') : tp_X8_copy st post Y a b := by
  have h8 := hw.1.1
  have h48 := hw.1.2.1
  unfold tp_X8_copy
  intro Y1 e1 Y2 e2
  have z0 : ¬ (0 : Int32) < 0 := by decide
  refine ⟨z0, z0, by decide, by decide, by decide, fun Y3 e3 => ⟨z0, z0, by decide, by decide, by decide, fun Y4 e4 => ⟨z0, z0, by decide, by decide, by decide, fun Y5 e5 => ⟨z0, z0, by decide, by decide, by decide, fun Y6 e6 => ⟨z0, z0, by decide, by decide, by decide, fun Y7 e7 => ?_⟩⟩⟩⟩⟩
  have ox : OX (· = a) Y Y7 := by
    rw [e7, e6, e5, e4, e3, e2, e1]
    exact (OX.sI (D := (· = a)) rfl).trans ((OX.sI (D := (· = a)) rfl).trans ((OX.sF (D := (· = a)) rfl).trans ((OX.sF (D := (· = a)) rfl).trans ((OX.sF (D := (· = a)) rfl).trans ((OX.sF (D := (· = a)) rfl).trans (OX.sF (D := (· = a)) rfl))))))
  have B1 : ∀ t, tA Y1 b t = tA Y b t ∧ tI Y1 b t = tI Y b t := fun t => by rw [e1]; exact ⟨rfl, by rw [tI_sI, if_neg (fun q => hab q.1)]⟩
  have B2 : ∀ t, tA Y2 b t = tA Y b t := fun t => by rw [e2]; exact (B1 t).1
  have B3 : ∀ t, tA Y3 b t = tA Y b t := fun t => by rw [e3, tA_obj _ _ hab]; exact B2 t
  have B4 : ∀ t, tA Y4 b t = tA Y b t := fun t => by rw [e4, tA_obj _ _ hab]; exact B3 t
  have B5 : ∀ t, tA Y5 b t = tA Y b t := fun t => by rw [e5, tA_obj _ _ hab]; exact B4 t
  have B6 : ∀ t, tA Y6 b t = tA Y b t := fun t => by rw [e6, tA_obj _ _ hab]; exact B5 t
  have c8 : (8 : Int32).toNatClampNeg = 8 := rfl
  have c48 : (48 : Int32).toNatClampNeg = 48 := rfl
  have c0 : (0 : Int32).toNatClampNeg = 0 := rfl
  refine hp Y7 ox ⟨hw.1, ?_, ?_, fun k hk => ⟨?_, ?_, ?_⟩, fun h hh => ⟨?_, ?_⟩⟩
  · rw [e7, e6, e5, e4, e3]
    show tI Y2 a 0 = _
    rw [e2, tI_sI, if_neg (fun q => absurd q.2 (by decide)), e1, tI_sI, if_pos ⟨rfl, rfl⟩]
    exact hw.2.1
  · rw [e7, e6, e5, e4, e3]
    show tI Y2 a 1 = _
    rw [e2, tI_sI, if_pos ⟨rfl, rfl⟩, (B1 1).2]
    exact hw.2.2.1
  · rw [e7, tA_other _ _ (by decide), e6, tA_other _ _ (by decide), e5, tA_other _ _ (by decide), e4, tA_other _ _ (by decide), e3, tA_same, c0, c8, pk_cpy_in (by omega) (by omega), B2, show 0 + (k - 0) = k by omega]
    exact (hw.2.2.2.1 k hk).1
  · rw [e7, tA_other _ _ (by decide), e6, tA_other _ _ (by decide), e5, tA_other _ _ (by decide), e4, tA_same, c0, c8, pk_cpy_in (by omega) (by omega), B3, show 0 + (k - 0) = k by omega]
    exact (hw.2.2.2.1 k hk).2.1
  · rw [e7, tA_other _ _ (by decide), e6, tA_other _ _ (by decide), e5, tA_same, c0, c8, pk_cpy_in (by omega) (by omega), B4, show 0 + (k - 0) = k by omega]
    exact (hw.2.2.2.1 k hk).2.2
  · rw [e7, tA_other _ _ (by decide), e6, tA_same, c0, c48, pk_cpy_in (by omega) (by omega), B5, show 0 + (h - 0) = h by omega]
    exact (hw.2.2.2.2 h hh).1
  · rw [e7, tA_same, c0, c48, pk_cpy_in (by omega) (by omega), B6, show 0 + (h - 0) = h by omega]
    exact (hw.2.2.2.2 h hh).2
end W2
