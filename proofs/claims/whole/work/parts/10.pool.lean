-- THE POOL: all cells of the system, by their addresses; contents without the tables' numbers
abbrev AE : Type := (Nat × vp_A) ⊕ (Nat × List Value)
abbrev Hp : Type := List Nat × (Nat → AE)
def cvE (kA : Nat → ClassId) (e : AE) : va_E := match e with
  | .inl a => .inl (kA a.1, a.2)
  | .inr o => .inr o
def hw (kA : Nat → ClassId) (X : Hp) : va_W := va_pl X.1 (fun a => cvE kA (X.2 a))
def Hs (X : Hp) (a : Nat) (e : AE) : Prop := a ∈ X.1 ∧ X.2 a = e
def hput (X : Hp) (a : Nat) (e : AE) : Hp := (X.1, va_up X.2 a e)
def hadd (X : Hp) (a : Nat) (e : AE) : Hp := (X.1 ++ [a], va_up X.2 a e)
theorem hw_get {kA : Nat → ClassId} {X : Hp} {a : Nat} {e : AE} (h : Hs X a e) : ∃ k : Nat, (hw kA X)[k]? = some (a, cvE kA e) := by
  obtain ⟨k, hk⟩ := va_pl_get (X := []) (f := fun a => cvE kA (X.2 a)) h.1
  refine ⟨k, ?_⟩
  rw [← h.2]
  exact hk
theorem hw_set {kA : Nat → ClassId} {X : Hp} {A : Nat → Prop} {a k : Nat} {e e' : AE} (hD : va_D A (hw kA X)) (h : Hs X a e) (hk : (hw kA X)[k]? = some (a, cvE kA e)) : (hw kA X).set k (a, cvE kA e') = hw kA (hput X a e') := by
  have hk2 : ([] ++ va_pl X.1 (fun a => cvE kA (X.2 a)))[k]? = some (a, (fun a => cvE kA (X.2 a)) a) := by
    show (hw kA X)[k]? = some (a, cvE kA (X.2 a))
    rw [h.2]
    exact hk
  have h3 := va_pl_set (X := []) (e := cvE kA e') hD h.1 hk2
  have h4 : (hw kA X).set k (a, cvE kA e') = va_pl X.1 (va_up (fun a => cvE kA (X.2 a)) a (cvE kA e')) := h3
  rw [h4]
  refine va_pl_congr (fun b => ?_)
  by_cases hb : b = a
  · subst hb
    simp [va_up, hput]
  · simp [va_up, hput, hb]
theorem hw_push {kA : Nat → ClassId} {X : Hp} {a : Nat} {e : AE} (h : a ∉ X.1) : hw kA X ++ [(a, cvE kA e)] = hw kA (hadd X a e) := by
  have h3 := va_pl_push (L := X.1) (f := fun a => cvE kA (X.2 a)) (e := cvE kA e) h
  have h4 : hw kA X ++ [(a, cvE kA e)] = va_pl (X.1 ++ [a]) (va_up (fun a => cvE kA (X.2 a)) a (cvE kA e)) := h3
  rw [h4]
  refine va_pl_congr (fun b => ?_)
  by_cases hb : b = a
  · subst hb
    simp [va_up, hadd]
  · simp [va_up, hadd, hb]
-- THE WORDS: those that go along with every call, and those of nest mates and of arrays of references
def gd : List Cond := lw_tbl.filter goodWord
def isX (w : Cond) : Bool := match w with
  | .fieldLinkNest .. => true
  | .methodLinkNest .. => true
  | .arrayOver (.object _) => true
  | _ => false
def xw : List Cond := tables_1.filter isX
theorem gd_t {w : Cond} (i : Nat) (h : tables_1[i]? = some w) (hg : goodWord w = true) : w ∈ gd := List.mem_filter.mpr ⟨List.mem_append_right _ (List.mem_of_getElem? h), hg⟩
theorem gd_s {w : Cond} (i : Nat) (h : (k2_sels lw_privs)[i]? = some w) (hg : goodWord w = true) : w ∈ gd := List.mem_filter.mpr ⟨List.mem_append_left _ (List.mem_of_getElem? h), hg⟩
theorem xw_t {w : Cond} (i : Nat) (h : tables_1[i]? = some w) (hg : isX w = true) : w ∈ xw := List.mem_filter.mpr ⟨List.mem_of_getElem? h, hg⟩
theorem gd_good : GoodIn gd gd := fun w h => ⟨h, good_of_word (List.mem_filter.mp h).2⟩
theorem gd_code {w : Cond} (h : w ∈ gd) : GoodIn gd (w :: gd) := fun v hv => (List.mem_cons.mp hv).elim (fun e => by subst e; exact gd_good _ h) (fun h => gd_good v h)
theorem xw_warm {s U : State} (hW : s.WarmedH U.vm) (h : ∀ w ∈ xw, va_Nw w s) : ∀ w ∈ xw, va_Nw w U := by
  intro w hw
  have h1 := h w hw
  have h2 := (List.mem_filter.mp hw).2
  match w, h1, h2 with
  | .fieldLinkNest .., h1, _ => exact va_Nw.warmF hW h1
  | .methodLinkNest .., h1, _ => exact va_Nw.warmM hW h1
  | .arrayOver (.object C), h1, _ => exact va_AO.moved hW.alike h1
theorem xw_vm {u U : State} (e : u.vm = U.vm) (h : ∀ w ∈ xw, va_Nw w u) : ∀ w ∈ xw, va_Nw w U := by
  intro w hw
  have h1 := h w hw
  have h2 := (List.mem_filter.mp hw).2
  match w, h1, h2 with
  | .fieldLinkNest .., h1, _ => exact va_Nw.same rfl e h1
  | .methodLinkNest .., h1, _ => exact va_Nw.same rfl e h1
  | .arrayOver (.object C), h1, _ => exact va_AO.moved (by rw [e]; exact Vm.Alike.refl _) h1
def ty6 (kA : Nat → ClassId) : List (ClassId × FieldType) := [(kA 0, .int), (kA 1, .boolean), (kA 2, .object "NapVoyage$Chart"), (kA 3, .object "NapVoyage$Plan"), (kA 4, .object "NapVoyage$Plane"), (kA 5, .object "NapVoyage$Way")]
/-- what a method's walk stands on -/
def Gx (p : Program) (s : State) (m : MethodId) (args : Array Value) (c : Code) (cc : ByteArray) (nL : Nat) (own : String) (D : va_G) (kA : Nat → ClassId) : Prop :=
  p.tables.exec = Jvm.exec ∧ c.code = cc ∧ c.maxLocals = nL ∧ s.vm.findClass own = some m.cls ∧ (∀ w ∈ gd, w.before args s = true) ∧ (∀ w ∈ xw, va_Nw w s) ∧ va_K D vwCl (ty6 kA) s
/-- the pool in the heap, apart, and since H0 nothing outside A has changed -/
def Sx (D : va_G) (kA : Nat → ClassId) (A : Nat → Prop) (H0 H : Heap) (locs : List Loc) (X : Hp) : Prop := va_P D vwCl (hw kA X) H ∧ va_D A (hw kA X) ∧ va_S A H0 H locs
-- a field's link: its class's number in vwCl, its slot
def FL (own : String) (idx ci k : Nat) : Prop := ∃ (C : String) (T : u_T) (N : Nat), vwCl[ci]? = some (C, T, N) ∧ k < N ∧ (∀ w ∈ u_ws C T N, w ∈ gd) ∧ (Cond.fieldLink own idx (T k).1 (T k).2.1 (T k).2.2.1 ∈ gd ∨ ∃ host, Cond.fieldLinkNest own idx (T k).1 (T k).2.1 (T k).2.2.1 host ∈ xw)
def FW (own : String) (idx ci k : Nat) (ty : FieldType) : Prop := ∃ (C : String) (T : u_T) (N : Nat) (ty0 : Nat → FieldType), vwCl[ci]? = some (C, T, N) ∧ k < N ∧ (∀ w ∈ u_ws C T N, w ∈ gd) ∧ (∀ k, k < N → parseFieldDescriptor (T k).2.2.1 = some (ty0 k)) ∧ (∀ a, a < N → ∀ b, b < N → a ≠ b → (T a).2.1 ≠ (T b).2.1) ∧ (T k).2.2.2 = false ∧ parseFieldDescriptor (T k).2.2.1 = some ty ∧ (Cond.fieldLink own idx (T k).1 (T k).2.1 (T k).2.2.1 ∈ gd ∨ ∃ host, Cond.fieldLinkNest own idx (T k).1 (T k).2.1 (T k).2.2.1 host ∈ xw)
def FF (own : String) (idx ci k : Nat) (ty : FieldType) : Prop := ∃ (C : String) (T : u_T) (N : Nat) (ty0 : Nat → FieldType), vwCl[ci]? = some (C, T, N) ∧ k < N ∧ (∀ w ∈ u_ws C T N, w ∈ gd) ∧ (∀ k, k < N → parseFieldDescriptor (T k).2.2.1 = some (ty0 k)) ∧ (∀ a, a < N → ∀ b, b < N → a ≠ b → (T a).2.1 ≠ (T b).2.1) ∧ (T k).2.2.2 = true ∧ (T k).1 = own ∧ parseFieldDescriptor (T k).2.2.1 = some ty ∧ Cond.fieldLink own idx (T k).1 (T k).2.1 (T k).2.2.1 ∈ gd
section PX
variable {p : Program} {l : Launch} {e : Env} {R : Room} {s : State} {m : MethodId} {args : Array Value} {below : List Frame} {meth : Method} {c : Code} {H H0 : Heap} {locs : List Loc} {cells slots : Nat} {Q : State → Prop} {cc : ByteArray} {nL pc : Nat} {ls : Array Slot} {rest : List Value} {own : String} {D : va_G} {kA : Nat → ClassId} {A : Nat → Prop} {X : Hp} {a ci k idx : Nat} {fs : List Value} {v : Value}
theorem x_get (G : Gx p s m args c cc nL own D kA) (hP : va_P D vwCl (hw kA X) H) (hs : Hs X a (.inr (ci, fs))) (hv : fs[k]? = some v) (hf : FL own idx ci k) (hdg : decode cc pc = .ok (.getfield idx, 3))
    (kk : W p l e R s m args below meth c H locs cells slots Q (F0 m (pc + 3) ls (v :: rest))) : W p l e R s m args below meth c H locs cells slots Q (F0 m pc ls (.ref a :: rest)) := by
  obtain ⟨hx, hb, hml, hown, hts, hE, hK⟩ := G
  obtain ⟨C, T, N, hc, hk, hin, hl⟩ := hf
  obtain ⟨q0, he⟩ := hw_get (kA := kA) hs
  rcases hl with hl | ⟨host, hl⟩
  · exact va_get hx hb hts hin hown hK hP q0 he hc k hk (hts _ hl) (fun _ h9 => h9) hv hdg kk
  · exact va_getN hx hb hts hin hown hK hP q0 he hc k hk (va_Nw.use rfl (hE _ hl)) (fun _ h9 => h9) hv hdg kk
theorem x_put {ty : FieldType} (G : Gx p s m args c cc nL own D kA) (S : Sx D kA A H0 H locs X) (hs : Hs X a (.inr (ci, fs))) (hk2 : k < fs.length) (hn : narrow ty v = v) (hfit : fits ty v = true) (hf : FW own idx ci k ty) (hdg : decode cc pc = .ok (.putfield idx, 3))
    (kk : ∀ (H1 : Heap) (locs1 : List Loc), Sx D kA A H0 H1 locs1 (hput X a (.inr (ci, fs.set k v))) → W p l e R s m args below meth c H1 locs1 cells slots Q (F0 m (pc + 3) ls rest)) : W p l e R s m args below meth c H locs cells slots Q (F0 m pc ls (v :: .ref a :: rest)) := by
  obtain ⟨hx, hb, hml, hown, hts, hE, hK⟩ := G
  obtain ⟨hP, hD, hS⟩ := S
  obtain ⟨C, T, N, ty0, hc, hk, hin, hty, hnm, hfin, hd, hl⟩ := hf
  obtain ⟨q0, he⟩ := hw_get (kA := kA) hs
  have e2 := hw_set (e' := .inr (ci, fs.set k v)) hD hs he
  rcases hl with hl | ⟨host, hl⟩
  · exact va_put hx hb hts hin ty0 hty hnm hown hK hP hD hS q0 he hc k hk (hts _ hl) (fun _ h9 => h9) hfin hd hn hfit hk2 hdg (fun H1 locs1 h1 h2 h3 => kk H1 locs1 ⟨by rw [← e2]; exact h1, by rw [← e2]; exact h2, h3⟩)
  · exact va_putN hx hb hts hin ty0 hty hnm hown hK hP hD hS q0 he hc k hk (va_Nw.use rfl (hE _ hl)) (fun _ h9 => h9) hfin hd hn hfit hk2 hdg (fun H1 locs1 h1 h2 h3 => kk H1 locs1 ⟨by rw [← e2]; exact h1, by rw [← e2]; exact h2, h3⟩)
theorem x_putF {ty : FieldType} (G : Gx p s m args c cc nL own D kA) (hin2 : meth.name = "<init>") (S : Sx D kA A H0 H locs X) (hs : Hs X a (.inr (ci, fs))) (hk2 : k < fs.length) (hn : narrow ty v = v) (hfit : fits ty v = true) (hf : FF own idx ci k ty) (hdg : decode cc pc = .ok (.putfield idx, 3))
    (kk : ∀ (H1 : Heap) (locs1 : List Loc), Sx D kA A H0 H1 locs1 (hput X a (.inr (ci, fs.set k v))) → W p l e R s m args below meth c H1 locs1 cells slots Q (F0 m (pc + 3) ls rest)) : W p l e R s m args below meth c H locs cells slots Q (F0 m pc ls (v :: .ref a :: rest)) := by
  obtain ⟨hx, hb, hml, hown, hts, hE, hK⟩ := G
  obtain ⟨hP, hD, hS⟩ := S
  obtain ⟨C, T, N, ty0, hc, hk, hin, hty, hnm, hfin, hdc, hd, hl⟩ := hf
  obtain ⟨q0, he⟩ := hw_get (kA := kA) hs
  have e2 := hw_set (e' := .inr (ci, fs.set k v)) hD hs he
  exact va_putF hx hb hts hin ty0 hty hnm hown hK hP hD hS q0 he hc k hk (hts _ hl) (fun _ h9 => h9) hfin hin2 hdc hd hn hfit hk2 hdg (fun H1 locs1 h1 h2 h3 => kk H1 locs1 ⟨by rw [← e2]; exact h1, by rw [← e2]; exact h2, h3⟩)
theorem x_iald (G : Gx p s m args c cc nL own D kA) (hP : va_P D vwCl (hw kA X) H) {n : Nat} {f : Nat → Int32} {i : Int32} (hs : Hs X a (.inl (0, n, .inl f))) (hin : vp_in i n) (hdg : decode cc pc = .ok (.iaload, 1))
    (kk : W p l e R s m args below meth c H locs cells slots Q (F0 m (pc + 1) ls (.int (f i.toNatClampNeg) :: rest))) : W p l e R s m args below meth c H locs cells slots Q (F0 m pc ls (.int i :: .ref a :: rest)) := by
  obtain ⟨hx, hb, hml, hown, hts, hE, hK⟩ := G
  obtain ⟨q0, he⟩ := hw_get (kA := kA) hs
  exact va_iald hx hb hK hP q0 0 he rfl hin hdg kk
theorem x_zald (G : Gx p s m args c cc nL own D kA) (hP : va_P D vwCl (hw kA X) H) {n : Nat} {f : Nat → Int32} {i : Int32} (hs : Hs X a (.inl (1, n, .inl f))) (hin : vp_in i n) (hdg : decode cc pc = .ok (.baload, 1))
    (kk : W p l e R s m args below meth c H locs cells slots Q (F0 m (pc + 1) ls (.int (f i.toNatClampNeg) :: rest))) : W p l e R s m args below meth c H locs cells slots Q (F0 m pc ls (.int i :: .ref a :: rest)) := by
  obtain ⟨hx, hb, hml, hown, hts, hE, hK⟩ := G
  obtain ⟨q0, he⟩ := hw_get (kA := kA) hs
  exact va_zald hx hb hK hP q0 1 he rfl hin hdg kk
theorem x_iast (G : Gx p s m args c cc nL own D kA) (S : Sx D kA A H0 H locs X) {n : Nat} {f : Nat → Int32} {i x : Int32} (hs : Hs X a (.inl (0, n, .inl f))) (hin : vp_in i n) (hdg : decode cc pc = .ok (.iastore, 1))
    (kk : ∀ (H1 : Heap) (locs1 : List Loc), Sx D kA A H0 H1 locs1 (hput X a (.inl (0, n, .inl (upd f i.toNatClampNeg x)))) → W p l e R s m args below meth c H1 locs1 cells slots Q (F0 m (pc + 1) ls rest)) : W p l e R s m args below meth c H locs cells slots Q (F0 m pc ls (.int x :: .int i :: .ref a :: rest)) := by
  obtain ⟨hx, hb, hml, hown, hts, hE, hK⟩ := G
  obtain ⟨hP, hD, hS⟩ := S
  obtain ⟨q0, he⟩ := hw_get (kA := kA) hs
  have e2 := hw_set (e' := .inl (0, n, .inl (upd f i.toNatClampNeg x))) hD hs he
  exact va_iast hx hb hK hP hD hS q0 0 he rfl hin hdg (fun H1 locs1 h1 h2 h3 => kk H1 locs1 ⟨by rw [← e2]; exact h1, by rw [← e2]; exact h2, h3⟩)
theorem x_zast (G : Gx p s m args c cc nL own D kA) (S : Sx D kA A H0 H locs X) {n : Nat} {f : Nat → Int32} {i x : Int32} (hs : Hs X a (.inl (1, n, .inl f))) (hin : vp_in i n) (hdg : decode cc pc = .ok (.bastore, 1))
    (kk : ∀ (H1 : Heap) (locs1 : List Loc), Sx D kA A H0 H1 locs1 (hput X a (.inl (1, n, .inl (upd f i.toNatClampNeg (vp_nar .boolean x))))) → W p l e R s m args below meth c H1 locs1 cells slots Q (F0 m (pc + 1) ls rest)) : W p l e R s m args below meth c H locs cells slots Q (F0 m pc ls (.int x :: .int i :: .ref a :: rest)) := by
  obtain ⟨hx, hb, hml, hown, hts, hE, hK⟩ := G
  obtain ⟨hP, hD, hS⟩ := S
  obtain ⟨q0, he⟩ := hw_get (kA := kA) hs
  have e2 := hw_set (e' := .inl (1, n, .inl (upd f i.toNatClampNeg (vp_nar .boolean x)))) hD hs he
  exact va_zast hx hb hK hP hD hS q0 1 he rfl hin hdg (fun H1 locs1 h1 h2 h3 => kk H1 locs1 ⟨by rw [← e2]; exact h1, by rw [← e2]; exact h2, h3⟩)
abbrev qA (f : Nat → Option Nat) : (Nat → Int32) ⊕ (Nat → Int64) ⊕ (Nat → UInt32) ⊕ (Nat → UInt64) ⊕ (Nat → Option Nat) := .inr (.inr (.inr (.inr f)))
theorem x_aald (G : Gx p s m args c cc nL own D kA) (hP : va_P D vwCl (hw kA X) H) {t n : Nat} {C : String} {f : Nat → Option Nat} {i : Int32} (hs : Hs X a (.inl (t, n, qA f))) (ht : (ty6 kA)[t]? = some (kA t, .object C)) (hin : vp_in i n) (hdg : decode cc pc = .ok (.aaload, 1))
    (kk : W p l e R s m args below meth c H locs cells slots Q (F0 m (pc + 1) ls (va_rf (f i.toNatClampNeg) :: rest))) : W p l e R s m args below meth c H locs cells slots Q (F0 m pc ls (.int i :: .ref a :: rest)) := by
  obtain ⟨hx, hb, hml, hown, hts, hE, hK⟩ := G
  obtain ⟨q0, he⟩ := hw_get (kA := kA) hs
  exact va_aldq hx hb hK hP q0 t he ht hin hdg kk
theorem x_aast (G : Gx p s m args c cc nL own D kA) (S : Sx D kA A H0 H locs X) {t n b : Nat} {r : vw_C} {f : Nat → Option Nat} {i : Int32} (hs : Hs X a (.inl (t, n, qA f))) (ht : (ty6 kA)[t]? = some (kA t, .object r.1)) (hs2 : Hs X b (.inr (ci, fs))) (hc : vwCl[ci]? = some r) (hin : vp_in i n) (hdg : decode cc pc = .ok (.aastore, 1))
    (kk : ∀ (H1 : Heap) (locs1 : List Loc), Sx D kA A H0 H1 locs1 (hput X a (.inl (t, n, qA (va_up f i.toNatClampNeg (some b))))) → W p l e R s m args below meth c H1 locs1 cells slots Q (F0 m (pc + 1) ls rest)) : W p l e R s m args below meth c H locs cells slots Q (F0 m pc ls (.ref b :: .int i :: .ref a :: rest)) := by
  obtain ⟨hx, hb, hml, hown, hts, hE, hK⟩ := G
  obtain ⟨hP, hD, hS⟩ := S
  obtain ⟨q0, he⟩ := hw_get (kA := kA) hs
  obtain ⟨q1, he1⟩ := hw_get (kA := kA) hs2
  have e2 := hw_set (e' := .inl (t, n, qA (va_up f i.toNatClampNeg (some b)))) hD hs he
  exact va_astq hx hb hK hP hD hS q0 t q1 ci he ht he1 hc hin hdg (fun H1 locs1 h1 h2 h3 => kk H1 locs1 ⟨by rw [← e2]; exact h1, by rw [← e2]; exact h2, h3⟩)
theorem x_alen (G : Gx p s m args c cc nL own D kA) (hP : va_P D vwCl (hw kA X) H) {t n : Nat} {ty : FieldType} {z : (Nat → Int32) ⊕ (Nat → Int64) ⊕ (Nat → UInt32) ⊕ (Nat → UInt64) ⊕ (Nat → Option Nat)} (hs : Hs X a (.inl (t, n, z))) (ht : (ty6 kA)[t]? = some (kA t, ty)) (hdg : decode cc pc = .ok (.arraylength, 1))
    (kk : W p l e R s m args below meth c H locs cells slots Q (F0 m (pc + 1) ls (.int (nI n) :: rest))) : W p l e R s m args below meth c H locs cells slots Q (F0 m pc ls (.ref a :: rest)) := by
  obtain ⟨hx, hb, hml, hown, hts, hE, hK⟩ := G
  obtain ⟨q0, he⟩ := hw_get (kA := kA) hs
  exact va_alen hx hb hK hP q0 t he ht rfl hdg kk
end PX
