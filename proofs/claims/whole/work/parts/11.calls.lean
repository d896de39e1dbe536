section PN
variable {p : Program} {l : Launch} {e : Env} {R : Room} {s : State} {m : MethodId} {args : Array Value} {below : List Frame} {meth : Method} {c : Code} {H H0 : Heap} {locs : List Loc} {cells slots : Nat} {Q : State → Prop} {cc : ByteArray} {nL pc : Nat} {ls : Array Slot} {rest : List Value} {own : String} {D : va_G} {kA : Nat → ClassId} {A : Nat → Prop} {X : Hp} {a ci k idx : Nat} {fs : List Value} {v : Value}
theorem Sx.fresh {q : Nat} {e' : AE} (hD : va_D A (hw kA X ++ [(q, cvE kA e')])) : q ∉ X.1 := va_pl_fresh2 (X := []) (L := X.1) (f := fun a => cvE kA (X.2 a)) (q := q) (e := cvE kA e') hD
/-- a class that can be made: its number, its slots' values at birth -/
def NW (own : String) (idx ci N : Nat) (fs : List Value) : Prop := ∃ (C : String) (T : u_T) (ty : Nat → FieldType), vwCl[ci]? = some (C, T, N) ∧ (∀ w ∈ u_ws C T N, w ∈ gd) ∧ (∀ k, k < N → parseFieldDescriptor (T k).2.2.1 = some (ty k)) ∧ Cond.classLink own idx C ∈ gd ∧ Cond.instantiable C N ∈ gd ∧ Cond.initialized C ∈ gd ∧ ∀ j, j < N → defaultValue (ty j) = vp_V fs j
theorem x_new {N : Nat} (G : Gx p s m args c cc nL own D kA) (S : Sx D kA A H0 H locs X) (hA : ∀ q, H0.size ≤ q → A q) (hf : NW own idx ci N fs) (hcells : cells + 1 ≤ R.cells) (hslots : slots + N ≤ R.slots) (hdg : decode cc pc = .ok (.new idx, 3))
    (kk : ∀ (q : Nat) (H1 : Heap), q ∉ X.1 → Sx D kA A H0 H1 locs (hadd X q (.inr (ci, fs))) → W p l e R s m args below meth c H1 locs (cells + 1) (slots + N) Q (F0 m (pc + 3) ls (.ref q :: rest))) : W p l e R s m args below meth c H locs cells slots Q (F0 m pc ls rest) := by
  obtain ⟨hx, hb, hml, hown, hts, hE, hK⟩ := G
  obtain ⟨hP, hD, hS⟩ := S
  obtain ⟨C, T, ty, hc, hin, hty, hl, hi, hn, hfs⟩ := hf
  refine va_new hx hb hts hin ty hty hown (hts _ hl) (hts _ hi) (hts _ hn) hK hP hD hS hA hc hfs hcells hslots hdg (fun q H1 h1 h2 h3 => ?_)
  have hq : q ∉ X.1 := Sx.fresh (e' := .inr (ci, fs)) h2
  have e2 := hw_push (kA := kA) (e := .inr (ci, fs)) hq
  exact kk q H1 hq ⟨by rw [← e2]; exact h1, by rw [← e2]; exact h2, h3⟩
theorem x_newa {atype : ArrayType} {t N' : Nat} {n : Int32} {ty : FieldType} (G : Gx p s m args c cc nL own D kA) (S : Sx D kA A H0 H locs X) (hA : ∀ q, H0.size ≤ q → A q) (hw1 : Cond.arrayClass (newarray.typeOf atype) ∈ gd) (hty : newarray.typeOf atype = ty) (ht : (ty6 kA)[t]? = some (kA t, ty)) (hnr : va_RA s (kA t) ty → s.vm.findClass ("[" ++ ty.toString) = some (kA t)) (hdv : defaultValue ty = .int 0) (hn : ¬ n < 0) (hN : n.toNatClampNeg = N') (hbytes : N' * componentBytes ty ≤ 536870912) (hcells : cells + 1 ≤ R.cells) (hslots : slots + N' ≤ R.slots) (hdg : decode cc pc = .ok (.newarray atype, 2))
    (kk : ∀ (q : Nat) (H1 : Heap), q ∉ X.1 → Sx D kA A H0 H1 locs (hadd X q (.inl (t, N', .inl (fun _ => 0)))) → W p l e R s m args below meth c H1 locs (cells + 1) (slots + N') Q (F0 m (pc + 2) ls (.ref q :: rest))) : W p l e R s m args below meth c H locs cells slots Q (F0 m pc ls (.int n :: rest)) := by
  obtain ⟨hx, hb, hml, hown, hts, hE, hK⟩ := G
  obtain ⟨hP, hD, hS⟩ := S
  refine va_newa (a0 := (N', .inl (fun _ => 0))) hx hb (hts _ hw1) hty hK hP hD hS hA (fun cA => by rw [hdv]; rfl) hn hN hbytes hcells hslots hdg (fun q cA H1 h0 h1 h2 h3 => ?_)
  have hcA : cA = kA t := by
    have e1 := (hK.2 t _ ht).2
    have e2 := (h0.2 6 (cA, ty) rfl).2
    have e3 := hnr e1
    have e4 : s.vm.findClass ("[" ++ ty.toString) = some cA := by
      subst hty
      cases atype <;> exact e2
    rw [e3] at e4
    exact (Option.some.inj e4).symm
  subst hcA
  have hq : q ∉ X.1 := Sx.fresh (e' := .inl (t, N', .inl (fun _ => 0))) h2
  have e2 := hw_push (kA := kA) (e := .inl (t, N', .inl (fun _ => 0))) hq
  exact kk q H1 hq ⟨by rw [← e2]; exact h1, by rw [← e2]; exact h2, h3⟩
theorem x_newq {t N' : Nat} {n : Int32} {C : String} (G : Gx p s m args c cc nL own D kA) (S : Sx D kA A H0 H locs X) (hA : ∀ q, H0.size ≤ q → A q) (hl : Cond.classLink own idx C ∈ gd) (ho : Cond.arrayOver (.object C) ∈ xw) (ht : (ty6 kA)[t]? = some (kA t, .object C)) (hn : ¬ n < 0) (hN : n.toNatClampNeg = N') (hbytes : N' * 4 ≤ 536870912) (hcells : cells + 1 ≤ R.cells) (hslots : slots + N' ≤ R.slots) (hdg : decode cc pc = .ok (.anewarray idx, 3))
    (kk : ∀ (q : Nat) (H1 : Heap), q ∉ X.1 → Sx D kA A H0 H1 locs (hadd X q (.inl (t, N', qA (fun _ => none)))) → W p l e R s m args below meth c H1 locs (cells + 1) (slots + N') Q (F0 m (pc + 3) ls (.ref q :: rest))) : W p l e R s m args below meth c H locs cells slots Q (F0 m pc ls (.int n :: rest)) := by
  obtain ⟨hx, hb, hml, hown, hts, hE, hK⟩ := G
  obtain ⟨hP, hD, hS⟩ := S
  refine va_newq hx hb hown (hts _ hl) (hE _ ho) hK hP hD hS hA hn hN hbytes hcells hslots hdg (fun q cA H1 h0 h1 h2 h3 => ?_)
  have hcA : cA = kA t := by
    obtain ⟨_, _, _, _, _, e3⟩ := (hK.2 t _ ht).2
    obtain ⟨_, _, _, _, _, e4⟩ := (h0.2 6 (cA, .object C) rfl).2
    rw [e3] at e4
    exact (Option.some.inj e4).symm
  subst hcA
  have hq : q ∉ X.1 := Sx.fresh (e' := .inl (t, N', qA (fun _ => none))) h2
  have e2 := hw_push (kA := kA) (e := .inl (t, N', qA (fun _ => none))) hq
  exact kk q H1 hq ⟨by rw [← e2]; exact h1, by rw [← e2]; exact h2, h3⟩
theorem x_min (G : Gx p s m args c cc nL own D kA) (hls : ls.size = nL) (hl : Cond.methodLink own idx Lib.Math.min.name ∈ gd) (h1 : Cond.static Lib.Math.min.name ∈ gd) (h2 : Cond.initialized "java/lang/Math" ∈ gd) (h3 : Cond.code Lib.Math.min.name Lib.Math.min.code 2 (some .int) ∈ gd) (hfr : 1 ≤ R.frames) (hlo : (rest.map fun v => v.category).sum + 13 ≤ R.locals) (hc : cells ≤ R.cells) (hs : slots ≤ R.slots) {x y : Int32} (hdg : decode cc pc = .ok (.invokestatic idx, 3))
    (kk : W p l e R s m args below meth c H locs cells slots Q (F0 m (pc + 3) ls (.int (if y < x then y else x) :: rest))) : W p l e R s m args below meth c H locs cells slots Q (F0 m pc ls (.int y :: .int x :: rest)) := by
  obtain ⟨hx, hb, hml, hown, hts, hE, hK⟩ := G
  exact va_mmin hx hb (by rw [hml, hls]) hown (hts _ hl) (hts _ h1) (hts _ h2) (hts _ h3) hfr hlo hc hs hdg kk
theorem x_max (G : Gx p s m args c cc nL own D kA) (hls : ls.size = nL) (hl : Cond.methodLink own idx Lib.Math.max.name ∈ gd) (h1 : Cond.static Lib.Math.max.name ∈ gd) (h2 : Cond.initialized "java/lang/Math" ∈ gd) (h3 : Cond.code Lib.Math.max.name Lib.Math.max.code 2 (some .int) ∈ gd) (hfr : 1 ≤ R.frames) (hlo : (rest.map fun v => v.category).sum + 13 ≤ R.locals) (hc : cells ≤ R.cells) (hs : slots ≤ R.slots) {x y : Int32} (hdg : decode cc pc = .ok (.invokestatic idx, 3))
    (kk : W p l e R s m args below meth c H locs cells slots Q (F0 m (pc + 3) ls (.int (if x < y then y else x) :: rest))) : W p l e R s m args below meth c H locs cells slots Q (F0 m pc ls (.int y :: .int x :: rest)) := by
  obtain ⟨hx, hb, hml, hown, hts, hE, hK⟩ := G
  exact va_mmax hx hb (by rw [hml, hls]) hown (hts _ hl) (hts _ h1) (hts _ h2) (hts _ h3) hfr hlo hc hs hdg kk
theorem x_copyi (G : Gx p s m args c cc nL own D kA) (S : Sx D kA A H0 H locs X) (hls : ls.size = nL) (hl : Cond.methodLink own idx arraycopyName ∈ gd) (hw1 : Cond.native arraycopyName ∈ gd) (hw2 : Cond.static arraycopyName ∈ gd) (hw3 : Cond.initialized "java/lang/System" ∈ gd)
    {a0 n0 n1 : Nat} {f g : Nat → Int32} (hs0 : Hs X a0 (.inl (0, n0, .inl f))) (hs1 : Hs X a (.inl (0, n1, .inl g))) {sp dp n : Int32} (h1 : ¬ sp < 0) (h2 : ¬ dp < 0) (h3 : ¬ n < 0) (h4 : sp.toNatClampNeg + n.toNatClampNeg ≤ n0) (h5 : dp.toNatClampNeg + n.toNatClampNeg ≤ n1) (hframes : 1 ≤ R.frames) (hlocals : (rest.map fun v => v.category).sum + (nativeFrameWords "java/lang/System" "arraycopy" 5 + 11) ≤ R.locals) (hdg : decode cc pc = .ok (.invokestatic idx, 3))
    (kk : ∀ (H1 : Heap) (locs1 : List Loc), Sx D kA A H0 H1 locs1 (hput X a (.inl (0, n1, .inl (va_cpy f g sp.toNatClampNeg dp.toNatClampNeg n.toNatClampNeg)))) → W p l e R s m args below meth c H1 locs1 cells slots Q (F0 m (pc + 3) ls rest)) : W p l e R s m args below meth c H locs cells slots Q (F0 m pc ls (.int n :: .int dp :: .ref a :: .int sp :: .ref a0 :: rest)) := by
  obtain ⟨hx, hb, hml, hown, hts, hE, hK⟩ := G
  obtain ⟨hP, hD, hS⟩ := S
  obtain ⟨q0, he0⟩ := hw_get (kA := kA) hs0
  obtain ⟨q1, he1⟩ := hw_get (kA := kA) hs1
  have e2 := hw_set (e' := .inl (0, n1, .inl (va_cpy f g sp.toNatClampNeg dp.toNatClampNeg n.toNatClampNeg))) hD hs1 he1
  exact va_copyi (ty := .int) hx hb (by rw [hml, hls]) hown (hts _ hl) (hts _ hw1) (hts _ hw2) (hts _ hw3) hK hP hD hS q0 q1 0 0 he0 he1 rfl rfl rfl h1 h2 h3 h4 h5 (fun _ _ => rfl) hframes hlocals hdg (fun H1 locs1 h1 h2 h3 => kk H1 locs1 ⟨by rw [← e2]; exact h1, by rw [← e2]; exact h2, h3⟩)
end PN
-- CONTRACTS
def Pre (D : va_G) (kA : Nat → ClassId) (X : Hp) (U : State) : Prop := va_P D vwCl (hw kA X) U.heap ∧ va_K D vwCl (ty6 kA) U ∧ ∀ w ∈ xw, va_Nw w U
def PreM (D : va_G) (kA : Nat → ClassId) (X : Hp) (sz : Nat) (U : State) : Prop := U.heap.size = sz ∧ Pre D kA X U ∧ va_D (fun _ => True) (hw kA X)
def PoM (D : va_G) (kA : Nat → ClassId) (X : Hp) (sz : Nat) (X' : Hp) (t : State) : Prop := va_P D vwCl (hw kA X') t.heap ∧ va_D (va_A (hw kA X) sz) (hw kA X')
abbrev rmO (fr mc ms lo : Nat) : Room := { frames := fr, cells := mc, slots := ms, locals := lo }
theorem Pre.blind {D : va_G} {kA : Nat → ClassId} {X : Hp} {av : List Value} : FrameBlind (va_Pc av (Pre D kA X)) := fun a U g mk q => by
  obtain ⟨q0, qP, qK, qX⟩ := q
  exact ⟨q0, qP, va_K.moved (u := U) (U := U.calling g mk a) (Vm.Alike.refl U.vm) qK, xw_vm (u := U) (U := U.calling g mk a) rfl qX⟩
theorem PreM.blind {D : va_G} {kA : Nat → ClassId} {X : Hp} {sz : Nat} {av : List Value} : FrameBlind (va_Pc av (PreM D kA X sz)) := fun a U g mk q => by
  obtain ⟨q0, q1, ⟨qP, qK, qX⟩, qD⟩ := q
  exact ⟨q0, q1, ⟨qP, va_K.moved (u := U) (U := U.calling g mk a) (Vm.Alike.refl U.vm) qK, xw_vm (u := U) (U := U.calling g mk a) rfl qX⟩, qD⟩
-- the links of calls
def MLB (own : String) (idx : Nat) (y : MethodName) (n : Nat) : Prop := (Cond.methodLink own idx y ∈ gd ∨ ∃ host, Cond.methodLinkNest own idx y host ∈ xw) ∧ Cond.initialized y.cls ∈ gd ∧ y.cls ≠ "java/lang/invoke/MethodHandle" ∧ y.cls ≠ "java/lang/invoke/VarHandle" ∧ (parseMethodDescriptor y.desc).map (fun d => d.parameters.length) = some n
def MLS (own : String) (idx : Nat) (y : MethodName) (n : Nat) : Prop := MLB own idx y n ∧ Cond.static y ∈ gd
def MLV (own : String) (idx : Nat) (y : MethodName) (n : Nat) : Prop := MLB own idx y n ∧ Cond.instanceMethod y ∈ gd ∧ Cond.selects y.cls y y ∈ gd
def MLI (own : String) (idx : Nat) (y : MethodName) (n : Nat) : Prop := MLB own idx y n ∧ Cond.instanceMethod y ∈ gd ∧ y.name = "<init>"
section PR
variable {p : Program} {l : Launch} {e : Env} {R : Room} {s : State} {m : MethodId} {args : Array Value} {below : List Frame} {meth : Method} {c : Code} {H H0 : Heap} {locs : List Loc} {cells slots : Nat} {Q : State → Prop} {cc : ByteArray} {nL pc : Nat} {ls : Array Slot} {rest st0 As : List Value} {own : String} {D : va_G} {kA : Nat → ClassId} {A : Nat → Prop} {X : Hp} {b ci idx n mc ms fr lo maxL : Nat} {fs : List Value} {y : MethodName} {bytes : ByteArray} {ret : Option FieldType} {Pc : Array Value → State → Prop} {Qc : Array Value → State → Outcome → State → Prop} {free : Addr → Prop}
theorem x_runS (G : Gx p s m args c cc nL own D kA) (hM : Met l y (.code y bytes maxL ret :: gd) (rmO fr mc ms lo) Pc Qc mc ms free) (hcd : Cond.code y bytes maxL ret ∈ gd) (hl : MLS own idx y n) (hp : PreS s H Pc As) (hR : fr + 1 ≤ R.frames ∧ 8 + (maxL + 11) + lo ≤ R.locals) (hn : As.length = n) (hls : ls.size = nL) (hst : st0 = As.reverse ++ rest) (hW : (rest.map fun v => v.category).sum ≤ 8) (hdg : decode cc pc = .ok (.invokestatic idx, 3)) (hf : cells + mc ≤ R.cells ∧ slots + ms ≤ R.slots) :
    va_Run p l e R s m args below meth c H locs cells slots mc ms (F0 m pc ls st0) rest (Qc As.toArray) free := by
  obtain ⟨hx, hb, hml, hown, hts, hE, hK⟩ := G
  obtain ⟨⟨hl, hi, h1, h2, h3⟩, hs⟩ := hl
  subst hst
  rcases hl with hl | ⟨host, hl⟩
  · exact va_runS ⟨hx, hb, hml, hown, hts⟩ hM ⟨callB_of n hts (gd_code hcd) rfl rfl rfl (hts _ hi) (hts _ hl) ⟨h1, h2, h3⟩ hR, hts _ hs⟩ hp rfl hn hls rfl (lv_room hW) hdg hf
  · exact va_runSN ⟨hx, hb, hml, hown, hts⟩ hM ⟨va_cnB n hts (gd_code hcd) rfl rfl rfl (hE _ hl) (hts _ hi) ⟨h1, h2, h3⟩ hR, hts _ hs, trivial⟩ hp rfl hn hls rfl (lv_room hW) hdg hf
theorem x_runV (G : Gx p s m args c cc nL own D kA) (hP : va_P D vwCl (hw kA X) H) (hs : Hs X b (.inr (ci, fs))) {r : vw_C} (hc : vwCl[ci]? = some r) (hcy : r.1 = y.cls) (hM : Met l y (.code y bytes maxL ret :: gd) (rmO fr mc ms lo) Pc Qc mc ms free) (hcd : Cond.code y bytes maxL ret ∈ gd) (hl : MLV own idx y n) (hp : FrameBlind Pc ∧ ∀ U : State, U.heap = H → s.WarmedH U.vm → Pc (Value.ref b :: As).toArray U) (hR : fr + 1 ≤ R.frames ∧ 8 + (maxL + 11) + lo ≤ R.locals) (hn : As.length = n) (hls : ls.size = nL) (hst : st0 = As.reverse ++ .ref b :: rest) (hW : (rest.map fun v => v.category).sum ≤ 8) (hdg : decode cc pc = .ok (.invokevirtual idx, 3)) (hf : cells + mc ≤ R.cells ∧ slots + ms ≤ R.slots) :
    va_Run p l e R s m args below meth c H locs cells slots mc ms (F0 m pc ls st0) rest (Qc (Value.ref b :: As).toArray) free := by
  obtain ⟨hx, hb, hml, hown, hts, hE, hK⟩ := G
  obtain ⟨⟨hl, hi, h1, h2, h3⟩, hs1, hs2⟩ := hl
  obtain ⟨q0, he⟩ := hw_get (kA := kA) hs
  have hrec := va_recv hK hP hc he
  rw [hcy] at hrec
  subst hst
  rcases hl with hl | ⟨host, hl⟩
  · exact va_runV ⟨hx, hb, hml, hown, hts⟩ hM ⟨callB_of n hts (gd_code hcd) rfl rfl rfl (hts _ hi) (hts _ hl) ⟨h1, h2, h3⟩ hR, hts _ hs1, hts _ hs2⟩ ⟨hp.1, hrec, hp.2⟩ rfl hn hls rfl (lv_room hW) hdg hf
  · exact va_runVN ⟨hx, hb, hml, hown, hts⟩ hM ⟨va_cnB n hts (gd_code hcd) rfl rfl rfl (hE _ hl) (hts _ hi) ⟨h1, h2, h3⟩ hR, hts _ hs1, hts _ hs2⟩ ⟨hp.1, hrec, hp.2⟩ rfl hn hls rfl (lv_room hW) hdg hf
theorem x_runI (G : Gx p s m args c cc nL own D kA) (hM : Met l y (.code y bytes maxL none :: gd) (rmO fr mc ms lo) Pc Qc mc ms free) (hcd : Cond.code y bytes maxL none ∈ gd) (hl : MLI own idx y n) (hp : PreS s H Pc (.ref b :: As)) (hR : fr + 1 ≤ R.frames ∧ 8 + (maxL + 11) + lo ≤ R.locals) (hn : As.length = n) (hls : ls.size = nL) (hst : st0 = As.reverse ++ .ref b :: rest) (hW : (rest.map fun v => v.category).sum ≤ 8) (hdg : decode cc pc = .ok (.invokespecial idx, 3)) (hf : cells + mc ≤ R.cells ∧ slots + ms ≤ R.slots) :
    va_Run p l e R s m args below meth c H locs cells slots mc ms (F0 m pc ls st0) rest (Qc (Value.ref b :: As).toArray) free := by
  obtain ⟨hx, hb, hml, hown, hts, hE, hK⟩ := G
  obtain ⟨⟨hl, hi, h1, h2, h3⟩, hs1, hs2⟩ := hl
  subst hst
  rcases hl with hl | ⟨host, hl⟩
  · exact va_runI ⟨hx, hb, hml, hown, hts⟩ hM ⟨callB_of n hts (gd_code hcd) rfl rfl rfl (hts _ hi) (hts _ hl) ⟨h1, h2, h3⟩ hR, hs2, hts _ hs1⟩ hp rfl hn hls rfl (lv_room hW) hdg hf
  · exact va_runIN ⟨hx, hb, hml, hown, hts⟩ hM ⟨va_cnB n hts (gd_code hcd) rfl rfl rfl (hE _ hl) (hts _ hi) ⟨h1, h2, h3⟩ hR, hs2, hts _ hs1⟩ hp rfl hn hls rfl (lv_room hW) hdg hf
-- what the caller gives
theorem Gx.pre (G : Gx p s m args c cc nL own D kA) (hP : va_P D vwCl (hw kA X) H) {av : List Value} : ∀ U : State, U.heap = H → s.WarmedH U.vm → va_Pc av (Pre D kA X) av.toArray U := by
  obtain ⟨hx, hb, hml, hown, hts, hE, hK⟩ := G
  exact fun U hU hW => ⟨rfl, by rw [hU]; exact hP, va_K.moved hW.alike hK, xw_warm hW hE⟩
theorem Gx.preM (G : Gx p s m args c cc nL own D kA) (S : Sx D kA A H0 H locs X) {av : List Value} : ∀ U : State, U.heap = H → s.WarmedH U.vm → va_Pc av (PreM D kA X H.size) av.toArray U := by
  obtain ⟨hx, hb, hml, hown, hts, hE, hK⟩ := G
  obtain ⟨hP, hD, hS⟩ := S
  exact fun U hU hW => ⟨rfl, by rw [hU], ⟨by rw [hU]; exact hP, va_K.moved hW.alike hK, xw_warm hW hE⟩, hD.weaken (fun _ _ _ _ => trivial)⟩
theorem Sx.fre (S : Sx D kA A H0 H locs X) (hA : ∀ q, H0.size ≤ q → A q) : ∀ q, va_A (hw kA X) H.size q → A q := by
  obtain ⟨hP, hD, hS⟩ := S
  intro q hq
  rcases hq with ⟨k, e', hk⟩ | hq
  · exact hD.2 k _ hk
  · exact hA q (Nat.le_trans hS.1 hq)
theorem Sx.back {X' : Hp} {sz : Nat} {t : State} {H1 : Heap} {locs1 : List Loc} (hF : ∀ q, va_A (hw kA X) sz q → A q) (hB : PoM D kA X sz X' t) (ht : t.heap = H1) (hS1 : va_S A H0 H1 locs1) : Sx D kA A H0 H1 locs1 X' :=
  ⟨by rw [← ht]; exact hB.1, hB.2.weaken (fun k q _ h => hF q.1 h), hS1⟩
end PR
