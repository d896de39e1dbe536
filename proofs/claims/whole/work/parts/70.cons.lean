-- WHAT CONSTRUCTORS LEAVE: an object under way, its arrays, what stays as it was
def Ty (aa : Nat → Nat → Nat) (Y : TY) (u : Nat) : Prop := tK Y u < 11 ∨ ∃ b s, isA (tK Y b) s = true ∧ aa b s = u
def Gw (v : Nat) (st : TS) (aa : Nat → Nat → Nat) (Y : TY) (X : Hp) (st' : TS) (aa' : Nat → Nat → Nat) (Y' : TY) (X' : Hp) : Prop := (∀ a, tK Y a < 11 → tK Y' a = tK Y a ∧ (∀ t, tI Y' a t = tI Y a t) ∧ (∀ t, tA Y' a t = tA Y a t) ∧ tW Y' a = tW Y a ∧ tP Y' a = tP Y a ∧ st'.1 a = st.1 a ∧ st'.2 a = st.2 a) ∧ (∀ u, u ∈ X.1 → u ∈ X'.1) ∧ (∀ u, u ∈ X.1 → ¬ Ty aa Y u → u ≠ v → X'.2 u = X.2 u ∧ ¬ Ty aa' Y' u)
/-- the objects that are typed, the newest first -/
def TT (Y : TY) (T : List Nat) : Prop := T.Nodup ∧ ∀ a, tK Y a < 11 ↔ a ∈ T
section CN
variable {st st' st0 : TS} {aa aa' aa0 : Nat → Nat → Nat} {Y Y' Y0 : TY} {X X' X0 : Hp} {v w q : Nat} {e e' : AE}
theorem Rel.ty (R : Rel st aa Y X) {u : Nat} (h : Ty aa Y u) : u ∈ X.1 := by
  rcases h with h | ⟨b, s, h, rfl⟩
  · exact (R.1 u h).1
  · exact (R.2.1 b s h).1
theorem Hs_ad2 {b : Nat} (h : Hs X b e') (hq : q ∉ X.1) : Hs (hadd X q e) b e' := ⟨List.mem_append_left _ h.1, by
  show va_up X.2 q e b = e'
  rw [va_up_ne _ _ (fun z => hq (by rw [← z]; exact h.1))]
  exact h.2⟩
theorem Hs_new : Hs (hadd X q e) q e := ⟨List.mem_append_right _ (List.mem_singleton.mpr rfl), va_up_self _ _ _⟩
theorem hput_hadd : hput (hadd X q e) q e' = hadd X q e' := by
  unfold hput hadd
  simp only
  congr 1
  funext b
  by_cases h : b = q
  · subst h
    rw [va_up_self, va_up_self]
  · rw [va_up_ne _ _ h, va_up_ne _ _ h, va_up_ne _ _ h]
theorem Rel.cell (R : Rel st aa Y X) (hq : q ∉ X.1) : Rel st aa Y (hadd X q e) := ⟨fun a ha => Hs_ad2 (R.1 a ha) hq, fun a s ha => Hs_ad2 (R.2.1 a s ha) hq, R.2.2⟩
theorem Rel.put_un (R : Rel st aa Y X) (hw : ¬ Ty aa Y w) : Rel st aa Y (hput X w e) := ⟨fun a ha => Hs_ne (R.1 a ha) (fun z => hw (Or.inl (by rw [← z]; exact ha))), fun a s ha => Hs_ne (R.2.1 a s ha) (fun z => hw (Or.inr ⟨a, s, ha, z⟩)), R.2.2⟩
theorem Gw.refl (v : Nat) (st : TS) (aa : Nat → Nat → Nat) (Y : TY) (X : Hp) : Gw v st aa Y X st aa Y X := ⟨fun _ _ => ⟨rfl, fun _ => rfl, fun _ => rfl, rfl, rfl, rfl, rfl⟩, fun _ h => h, fun _ _ h _ => ⟨rfl, h⟩⟩
theorem Gw.trans (h1 : Gw v st0 aa0 Y0 X0 st aa Y X) (h2 : Gw w st aa Y X st' aa' Y' X') (hw : w = v ∨ w ∉ X0.1) : Gw v st0 aa0 Y0 X0 st' aa' Y' X' := by
  refine ⟨fun a ha => ?_, fun u hu => h2.2.1 u (h1.2.1 u hu), fun u hu hn hv => ?_⟩
  · obtain ⟨a1, a2, a3, a4, a5, a6, a7⟩ := h1.1 a ha
    obtain ⟨b1, b2, b3, b4, b5, b6, b7⟩ := h2.1 a (by rw [a1]; exact ha)
    exact ⟨b1.trans a1, fun t => (b2 t).trans (a2 t), fun t => (b3 t).trans (a3 t), b4.trans a4, b5.trans a5, b6.trans a6, b7.trans a7⟩
  · obtain ⟨a1, a2⟩ := h1.2.2 u hu hn hv
    obtain ⟨b1, b2⟩ := h2.2.2 u (h1.2.1 u hu) a2 (fun z => hw.elim (fun q => hv (z.trans q)) (fun q => q (by rw [← z]; exact hu)))
    exact ⟨b1.trans a1, b2⟩
theorem Gw.cell (hq : q ∉ X.1) : Gw v st aa Y X st aa Y (hadd X q e) := ⟨fun _ _ => ⟨rfl, fun _ => rfl, fun _ => rfl, rfl, rfl, rfl, rfl⟩, fun u h => List.mem_append_left _ h, fun u hu hn _ => ⟨va_up_ne _ _ (fun z => hq (by rw [← z]; exact hu)), hn⟩⟩
theorem Gw.put : Gw w st aa Y X st aa Y (hput X w e) := ⟨fun _ _ => ⟨rfl, fun _ => rfl, fun _ => rfl, rfl, rfl, rfl, rfl⟩, fun u h => h, fun u hu hn hv => ⟨va_up_ne _ _ hv, hn⟩⟩
end CN
def PO (st0 : TS) (aa0 : Nat → Nat → Nat) (Y0 : TY) (X0 : Hp) (st : TS) (aa : Nat → Nat → Nat) (Y : TY) (Xc : Hp) (v k : Nat) (fs : List Value) (Dl : List Nat) (am : Nat → Nat) (ct : Nat → AE) : Prop := Rel st aa Y Xc ∧ Gw v st0 aa0 Y0 X0 st aa Y Xc ∧ ¬ Ty aa Y v ∧ Hs Xc v (.inr (k, fs)) ∧ (∀ s, s ∈ Dl → Hs Xc (am s) (ct s) ∧ ¬ Ty aa Y (am s) ∧ am s ≠ v ∧ am s ∉ X0.1) ∧ (∀ s t, s ∈ Dl → t ∈ Dl → am s = am t → s = t)
def Yn (Y : TY) (v k : Nat) (I : Nat → Int32) (F : Nat → Nat → Int32) : TY := (va_up Y.1 v k, va_up Y.2.1 v I, va_up Y.2.2.1 v F, va_up Y.2.2.2.1 v none, va_up Y.2.2.2.2 v (fun _ => none))
section PR
variable {st st' st0 : TS} {aa aa' aa0 : Nat → Nat → Nat} {Y Y' Y0 : TY} {X X' X0 Xc X2 X4 : Hp} {v w q k : Nat} {e e' : AE} {fs : List Value} {Dl : List Nat} {am : Nat → Nat} {ct : Nat → AE}
theorem PO.start (R : Rel st aa Y X) (nt : ¬ Ty aa Y v) (hv : Hs X v (.inr (k, fs))) : PO st aa Y X st aa Y X v k fs [] (fun _ => 0) (fun _ => .inr (0, [])) := ⟨R, Gw.refl _ _ _ _ _, nt, hv, fun s hs => absurd hs (List.not_mem_nil), fun s t hs => absurd hs (List.not_mem_nil)⟩
theorem PO.cell (po : PO st0 aa0 Y0 X0 st aa Y Xc v k fs Dl am ct) (hq : q ∉ Xc.1) : PO st0 aa0 Y0 X0 st aa Y (hadd Xc q e) v k fs Dl am ct ∧ Hs (hadd Xc q e) q e ∧ ¬ Ty aa Y q ∧ q ≠ v ∧ (∀ s, s ∈ Dl → q ≠ am s) ∧ q ∉ X0.1 := by
  obtain ⟨R, g, nt, hv, ha, hi⟩ := po
  refine ⟨⟨R.cell hq, g.trans (Gw.cell (v := v) hq) (Or.inl rfl), nt, Hs_ad2 hv hq, fun s hs => ⟨Hs_ad2 (ha s hs).1 hq, (ha s hs).2⟩, hi⟩, Hs_new, fun z => hq (R.ty z), fun z => hq (by rw [z]; exact hv.1), fun s hs z => hq (by rw [z]; exact (ha s hs).1.1), fun z => hq (g.2.1 q z)⟩
theorem PO.put (po : PO st0 aa0 Y0 X0 st aa Y Xc v k fs Dl am ct) (fs' : List Value) : PO st0 aa0 Y0 X0 st aa Y (hput Xc v (.inr (k, fs'))) v k fs' Dl am ct := by
  obtain ⟨R, g, nt, hv, ha, hi⟩ := po
  exact ⟨R.put_un nt, g.trans Gw.put (Or.inl rfl), nt, Hs_up hv.1, fun s hs => ⟨Hs_ne (ha s hs).1 (ha s hs).2.2.1, (ha s hs).2⟩, hi⟩
/-- a new array for a slot -/
theorem PO.step {s0 : Nat} (po : PO st0 aa0 Y0 X0 st aa Y Xc v k fs Dl am ct) (hs0 : s0 ∉ Dl) (hq : q ∉ Xc.1) (e2 : X2 = hadd Xc q e) (fs' : List Value) (e4 : X4 = hput X2 v (.inr (k, fs'))) : PO st0 aa0 Y0 X0 st aa Y X4 v k fs' (s0 :: Dl) (va_up am s0 q) (va_up ct s0 e) := by
  subst e2
  subst e4
  obtain ⟨p, h1, h2, h3, h4, h5⟩ := po.cell (e := e) hq
  obtain ⟨R, g, nt, hv, ha, hi⟩ := p.put fs'
  have ne : ∀ {s}, s ∈ Dl → s ≠ s0 := fun hs z => hs0 (by rw [← z]; exact hs)
  refine ⟨R, g, nt, hv, fun s hs => ?_, fun s t hs ht => ?_⟩
  · rcases List.mem_cons.mp hs with rfl | hs
    · rw [va_up_self, va_up_self]
      exact ⟨Hs_ne h1 h3, h2, h3, h5⟩
    · rw [va_up_ne _ _ (ne hs), va_up_ne _ _ (ne hs)]
      exact ha s hs
  · by_cases cs : s = s0
    · by_cases ct : t = s0
      · exact fun _ => cs.trans ct.symm
      · have ht' : t ∈ Dl := (List.mem_cons.mp ht).resolve_left ct
        rw [cs, va_up_self, va_up_ne _ _ ct]
        exact fun z => absurd z (h4 t ht')
    · have hs' : s ∈ Dl := (List.mem_cons.mp hs).resolve_left cs
      by_cases ct : t = s0
      · rw [ct, va_up_self, va_up_ne _ _ cs]
        exact fun z => absurd z.symm (h4 s hs')
      · have ht' : t ∈ Dl := (List.mem_cons.mp ht).resolve_left ct
        rw [va_up_ne _ _ cs, va_up_ne _ _ ct]
        exact hi s t hs' ht'
/-- an array's contents change -/
theorem PO.upd {s0 : Nat} (po : PO st0 aa0 Y0 X0 st aa Y Xc v k fs Dl am ct) (hs0 : s0 ∈ Dl) (e4 : X4 = hput Xc (am s0) e) : PO st0 aa0 Y0 X0 st aa Y X4 v k fs Dl am (va_up ct s0 e) := by
  subst e4
  obtain ⟨R, g, nt, hv, ha, hi⟩ := po
  refine ⟨R.put_un (ha s0 hs0).2.1, g.trans Gw.put (Or.inr (ha s0 hs0).2.2.2), nt, Hs_ne hv (Ne.symm (ha s0 hs0).2.2.1), fun s hs => ⟨?_, (ha s hs).2⟩, hi⟩
  by_cases c : s = s0
  · subst c
    rw [va_up_self]
    exact Hs_up (ha s hs).1.1
  · rw [va_up_ne _ _ c]
    exact Hs_ne (ha s hs).1 (fun z => c (hi s s0 hs hs0 z))
/-- another object was made meanwhile -/
theorem PO.mv (po : PO st0 aa0 Y0 X0 st aa Y Xc v k fs Dl am ct) (gw : Gw q st aa Y Xc st' aa' Y' X') (R' : Rel st' aa' Y' X') (h1 : q ≠ v) (h2 : ∀ s, s ∈ Dl → q ≠ am s) (h3 : q ∉ X0.1) : PO st0 aa0 Y0 X0 st' aa' Y' X' v k fs Dl am ct := by
  obtain ⟨R, g, nt, hv, ha, hi⟩ := po
  obtain ⟨v1, v2⟩ := gw.2.2 v hv.1 nt (Ne.symm h1)
  refine ⟨R', g.trans gw (Or.inr h3), v2, ⟨gw.2.1 v hv.1, v1.trans hv.2⟩, fun s hs => ?_, hi⟩
  obtain ⟨a1, a2, a3, a4⟩ := ha s hs
  obtain ⟨b1, b2⟩ := gw.2.2 (am s) a1.1 a2 (Ne.symm (h2 s hs))
  exact ⟨⟨gw.2.1 _ a1.1, b1.trans a1.2⟩, b2, a3, a4⟩
theorem tK_Yn (Y : TY) (v k : Nat) (I : Nat → Int32) (F : Nat → Nat → Int32) : tK (Yn Y v k I F) v = k := va_up_self _ _ _
theorem tA_Yn (Y : TY) (v k : Nat) (I : Nat → Int32) (F : Nat → Nat → Int32) : tA (Yn Y v k I F) v = F := va_up_self _ _ _
theorem tI_Yn (Y : TY) (v k : Nat) (I : Nat → Int32) (F : Nat → Nat → Int32) : tI (Yn Y v k I F) v = I := va_up_self _ _ _
theorem tW_Yn (Y : TY) (v k : Nat) (I : Nat → Int32) (F : Nat → Nat → Int32) : tW (Yn Y v k I F) v = none := va_up_self _ _ _
theorem tP_Yn (Y : TY) (v k : Nat) (I : Nat → Int32) (F : Nat → Nat → Int32) : tP (Yn Y v k I F) v = fun _ => none := va_up_self _ _ _
theorem Yn_o {Y : TY} {v k a : Nat} {I : Nat → Int32} {F : Nat → Nat → Int32} (h : a ≠ v) : tK (Yn Y v k I F) a = tK Y a ∧ tI (Yn Y v k I F) a = tI Y a ∧ tA (Yn Y v k I F) a = tA Y a ∧ tW (Yn Y v k I F) a = tW Y a ∧ tP (Yn Y v k I F) a = tP Y a := ⟨va_up_ne _ _ h, va_up_ne _ _ h, va_up_ne _ _ h, va_up_ne _ _ h, va_up_ne _ _ h⟩
def twv (st : TS) (Y : TY) (a : Nat) : Prop := (tK Y a = 0 → tK Y (st.1 a 0) = 2 ∧ tK Y (st.1 a 1) = 7 ∧ (∀ b : Nat, tW Y a = some b → tK Y b = 8)) ∧ (tK Y a = 1 → (∀ i b : Nat, st.2 a 0 i = some b → tK Y b = 8) ∧ tK Y (st.1 a 1) = 2) ∧ (tK Y a = 4 → tK Y (st.1 a 0) = 8 ∧ tK Y (st.1 a 1) = 2 ∧ tK Y (st.1 a 2) = 6 ∧ (∀ i b : Nat, tP Y a i = some b → tK Y b = 5)) ∧ (tK Y a = 9 → tK Y (st.1 a 0) = 1 ∧ (∀ i b : Nat, st.2 a 1 i = some b → tK Y b = 1) ∧ (∀ i b : Nat, st.2 a 3 i = some b → tK Y b = 4) ∧ tK Y (st.1 a 4) = 3 ∧ tK Y (st.1 a 5) = 0)
theorem tob_o {Y : TY} {a : Nat} {I : Nat → Int32} {F : Nat → Nat → Int32} (h : a ≠ v) (hst : st'.1 a = st.1 a) (haa : aa' a = aa a) : tob st' aa' (Yn Y v k I F) a = tob st aa Y a := by
  obtain ⟨h1, h2, h3, h4, h5⟩ := Yn_o (k := k) (I := I) (F := F) (Y := Y) h
  unfold tob
  rw [h1, h2, h4, hst, haa]
theorem tar_o {Y : TY} {a s : Nat} {I : Nat → Int32} {F : Nat → Nat → Int32} (h : a ≠ v) (hst : st'.2 a = st.2 a) : tar st' (Yn Y v k I F) a s = tar st Y a s := by
  obtain ⟨h1, h2, h3, h4, h5⟩ := Yn_o (k := k) (I := I) (F := F) (Y := Y) h
  unfold tar
  rw [h1, h3, h5, hst]
theorem PO.fin (po : PO st0 aa0 Y0 X0 st aa Y Xc v k fs Dl am ct) (hk : k < 11) (I : Nat → Int32) (F : Nat → Nat → Int32) (hst : ∀ a, a ≠ v → st'.1 a = st.1 a ∧ st'.2 a = st.2 a) (hT : tob st' (va_up aa v am) (Yn Y v k I F) v = .inr (k, fs)) (hA : ∀ s, isA k s = true → s ∈ Dl ∧ tar st' (Yn Y v k I F) v s = ct s) (hwf : twv st' (Yn Y v k I F) v) : Rel st' (va_up aa v am) (Yn Y v k I F) Xc ∧ Gw v st0 aa0 Y0 X0 st' (va_up aa v am) (Yn Y v k I F) Xc ∧ ∀ T, TT Y T → TT (Yn Y v k I F) (v :: T) := by
  obtain ⟨R, g, nt, hv, ha, hi⟩ := po
  have nk : ¬ tK Y v < 11 := fun z => nt (Or.inl z)
  have o : ∀ {a}, a ≠ v → _ := fun {a} h => Yn_o (k := k) (I := I) (F := F) (Y := Y) (v := v) (a := a) h
  have kv : tK (Yn Y v k I F) v = k := tK_Yn _ _ _ _ _
  have isv : ∀ {a s}, isA (tK (Yn Y v k I F) a) s = true → a ≠ v → isA (tK Y a) s = true := fun {a s} h ha => by rw [(o ha).1] at h; exact h
  have av : (va_up aa v am) v = am := va_up_self _ _ _
  have ao : ∀ {a}, a ≠ v → (va_up aa v am) a = aa a := fun h => va_up_ne _ _ h
  refine ⟨⟨fun a h => ?_, fun a s h => ?_, fun a s b t h1 h2 => ?_, ?_⟩, ?_, fun T hTT => ⟨List.nodup_cons.mpr ⟨fun z => nk ((hTT.2 v).mpr z), hTT.1⟩, fun a => ?_⟩⟩
  · by_cases c : a = v
    · subst c
      rw [hT]
      exact hv
    · rw [tob_o c (hst a c).1 (ao c)]
      rw [(o c).1] at h
      exact R.1 a h
  · by_cases c : a = v
    · subst c
      rw [kv] at h
      obtain ⟨d1, d2⟩ := hA s h
      rw [av, d2]
      exact (ha s d1).1
    · rw [ao c, tar_o c (hst a c).2]
      exact R.2.1 a s (isv h c)
  · by_cases c : a = v
    · subst c
      rw [kv] at h1
      by_cases d : b = a
      · subst d
        rw [kv] at h2
        rw [av]
        exact fun z => ⟨rfl, hi s t (hA s h1).1 (hA t h2).1 z⟩
      · rw [av, ao d]
        exact fun z => absurd (Or.inr ⟨b, t, isv h2 d, z.symm⟩) (ha s (hA s h1).1).2.1
    · by_cases d : b = v
      · subst d
        rw [kv] at h2
        rw [av, ao c]
        exact fun z => absurd (Or.inr ⟨a, s, isv h1 c, z⟩) (ha t (hA t h2).1).2.1
      · rw [ao c, ao d]
        exact R.2.2.1 a s b t (isv h1 c) (isv h2 d)
  · have kk : ∀ {x n}, tK Y x = n → n < 11 → tK (Yn Y v k I F) x = n := fun {x n} h hn => by
      rw [(o (fun z => nk (by rw [← z, h]; exact hn))).1]
      exact h
    obtain ⟨t0, t1, t4, t9⟩ := R.2.2.2
    obtain ⟨u0, u1, u4, u9⟩ := hwf
    refine ⟨fun a h => ?_, fun a h => ?_, fun a h => ?_, fun a h => ?_⟩
    · by_cases c : a = v
      · subst c
        exact u0 h
      · rw [(o c).1] at h
        obtain ⟨z1, z2, z3⟩ := t0 a h
        rw [(hst a c).1, (o c).2.2.2.1]
        exact ⟨kk z1 (by decide), kk z2 (by decide), fun b hb => kk (z3 b hb) (by decide)⟩
    · by_cases c : a = v
      · subst c
        exact u1 h
      · rw [(o c).1] at h
        obtain ⟨z1, z2⟩ := t1 a h
        rw [(hst a c).1, (hst a c).2]
        exact ⟨fun i b hb => kk (z1 i b hb) (by decide), kk z2 (by decide)⟩
    · by_cases c : a = v
      · subst c
        exact u4 h
      · rw [(o c).1] at h
        obtain ⟨z1, z2, z3, z4⟩ := t4 a h
        rw [(hst a c).1, (o c).2.2.2.2]
        exact ⟨kk z1 (by decide), kk z2 (by decide), kk z3 (by decide), fun i b hb => kk (z4 i b hb) (by decide)⟩
    · by_cases c : a = v
      · subst c
        exact u9 h
      · rw [(o c).1] at h
        obtain ⟨z1, z2, z3, z4, z5⟩ := t9 a h
        rw [(hst a c).1, (hst a c).2]
        exact ⟨kk z1 (by decide), fun i b hb => kk (z2 i b hb) (by decide), fun i b hb => kk (z3 i b hb) (by decide), kk z4 (by decide), kk z5 (by decide)⟩
  · refine ⟨fun a h => ?_, g.2.1, fun u hu hn huv => ⟨(g.2.2 u hu hn huv).1, fun z => ?_⟩⟩
    · obtain ⟨a1, a2, a3, a4, a5, a6, a7⟩ := g.1 a h
      have c : a ≠ v := fun z => nk (by rw [← z, a1]; exact h)
      obtain ⟨b1, b2, b3, b4, b5⟩ := o c
      exact ⟨b1.trans a1, fun t => by rw [b2]; exact a2 t, fun t => by rw [b3]; exact a3 t, b4.trans a4, b5.trans a5, (hst a c).1.trans a6, (hst a c).2.trans a7⟩
    · have hn2 := (g.2.2 u hu hn huv).2
      rcases z with z | ⟨b, s, z1, z2⟩
      · rw [(o huv).1] at z
        exact hn2 (Or.inl z)
      · by_cases c : b = v
        · subst c
          rw [kv] at z1
          rw [av] at z2
          exact (ha s (hA s z1).1).2.2.2 (by rw [z2]; exact hu)
        · rw [ao c] at z2
          exact hn2 (Or.inr ⟨b, s, isv z1 c, z2⟩)
  · by_cases c : a = v
    · subst c
      rw [kv]
      exact ⟨fun _ => List.mem_cons_self, fun _ => hk⟩
    · rw [(o c).1, hTT.2 a, List.mem_cons]
      exact ⟨Or.inr, fun z => z.resolve_left c⟩
end PR
