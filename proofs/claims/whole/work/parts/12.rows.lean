section PE
variable {l : Launch} {D : va_G} {kA : Nat → ClassId} {X : Hp} {av : List Value} {y : MethodName} {cc : ByteArray} {nL fr lo mc ms sz : Nat} {ret : Option FieldType}
/-- a method that only reads: from its entry -/
theorem x_enR {Qc : Array Value → State → Outcome → State → Prop} (hy : plainName y.cls = true) (hnl : (lg_sl av).length ≤ nL)
    (body : ∀ p e s m below meth c, Gx p s m av.toArray c cc nL y.cls D kA → meth.sig.returnType = ret → meth.locks = false → va_P D vwCl (hw kA X) s.heap → ∀ ls, lv_has ls nL (lv_args 0 av) →
      W p l e (rmO fr 0 0 lo) s m av.toArray below meth c s.heap [] 0 0 (MQ below Qc av.toArray s 0 0 (fun _ => False)) (F0 m 0 ls [])) :
    Met l y (.code y cc nL ret :: gd) (rmO fr 0 0 lo) (va_Pc av (Pre D kA X)) Qc 0 0 (fun _ => False) := by
  refine Met.ofW (cc := cc) (maxL := nL) (ret := ret) hy rfl ?_
  intro p e s m args below meth c s₁ B hml hv
  obtain ⟨rfl, hP, hK, hE⟩ := hv
  have hts := atoms_spec (ws := .code y cc nL ret :: gd) B.pre
  have hl := lv_entry av (n := nL) hnl
  rw [lg_entry_eq]
  exact body p e s m below meth c ⟨B.exec, B.bytes, hml, findClass_of_methodNamed B.named, fun w h => hts w (List.mem_cons_of_mem _ h), hE, hK⟩ B.returns B.notSynchronized hP _ hl
/-- a method that writes: from its entry -/
theorem x_enM {Qc : Array Value → State → Outcome → State → Prop} (hy : plainName y.cls = true) (hnl : (lg_sl av).length ≤ nL)
    (body : ∀ p e s m below meth c, Gx p s m av.toArray c cc nL y.cls D kA → meth.sig.returnType = ret → meth.locks = false → meth.name = y.name → s.heap.size = sz → (∀ q, s.heap.size ≤ q → va_A (hw kA X) sz q) → Sx D kA (va_A (hw kA X) sz) s.heap s.heap [] X → ∀ ls, lv_has ls nL (lv_args 0 av) →
      W p l e (rmO fr mc ms lo) s m av.toArray below meth c s.heap [] 0 0 (MQ below Qc av.toArray s mc ms (va_A (hw kA X) sz)) (F0 m 0 ls [])) :
    Met l y (.code y cc nL ret :: gd) (rmO fr mc ms lo) (va_Pc av (PreM D kA X sz)) Qc mc ms (va_A (hw kA X) sz) := by
  refine Met.ofW (cc := cc) (maxL := nL) (ret := ret) hy rfl ?_
  intro p e s m args below meth c s₁ B hml hv
  obtain ⟨rfl, hsz, ⟨hP, hK, hE⟩, hD0⟩ := hv
  have hts := atoms_spec (ws := .code y cc nL ret :: gd) B.pre
  have hl := lv_entry av (n := nL) hnl
  rw [lg_entry_eq]
  exact body p e s m below meth c ⟨B.exec, B.bytes, hml, findClass_of_methodNamed B.named, fun w h => hts w (List.mem_cons_of_mem _ h), hE, hK⟩ B.returns B.notSynchronized (name_of_methodNamed B.named B.method).1 hsz (fun q h => Or.inr (by rw [← hsz]; exact h)) ⟨hP, hD0.self, va_S.rf⟩ _ hl
end PE
theorem rf_or9 (r : Option Nat) : va_rf r = .null ∨ ∃ a, va_rf r = .ref a := match r with
  | none => Or.inl rfl
  | some a => Or.inr ⟨a, rfl⟩
section PT
variable {p : Program} {l : Launch} {e : Env} {R : Room} {s : State} {m : MethodId} {args : Array Value} {below : List Frame} {meth : Method} {c : Code} {H : Heap} {locs : List Loc} {cells slots : Nat} {cc : ByteArray} {nL pc mc ms sz : Nat} {ls : Array Slot} {own : String} {D : va_G} {kA : Nat → ClassId} {X X0 : Hp}
-- ends of methods that only read
theorem x_iretR {v : Int32} {post : Int32 → Prop} (G : Gx p s m args c cc nL own D kA) (hr : meth.sig.returnType = some .int) (hlk : meth.locks = false) (h : post v) (hdg : decode cc pc = .ok (.ireturn, 1)) :
    W p l e R s m args below meth c s.heap [] 0 0 (MQ below (vp_Si post) args s 0 0 (fun _ => False)) (F0 m pc ls [.int v]) :=
  W.iret G.1 G.2.1 hr (fun t ht _ => ⟨v, rfl, h, ht⟩) (fun _ h => by cases h) hdg hlk
theorem x_zretR {v : Int32} {post : Int32 → Prop} (G : Gx p s m args c cc nL own D kA) (hr : meth.sig.returnType = some .boolean) (hlk : meth.locks = false) (hz : v = 0 ∨ v = 1) (h : post v) (hdg : decode cc pc = .ok (.ireturn, 1)) :
    W p l e R s m args below meth c s.heap [] 0 0 (MQ below (vp_Si post) args s 0 0 (fun _ => False)) (F0 m pc ls [.int v]) :=
  W.zret G.1 G.2.1 hr (by rcases hz with rfl | rfl <;> rfl) (fun t ht _ => ⟨v, rfl, h, ht⟩) (fun _ h => by cases h) hdg hlk
theorem x_aretR {r : Option Nat} {C : String} {post : Option Nat → Prop} (G : Gx p s m args c cc nL own D kA) (hr : meth.sig.returnType = some (.object C)) (hlk : meth.locks = false) (h : post r) (hdg : decode cc pc = .ok (.areturn, 1)) :
    W p l e R s m args below meth c s.heap [] 0 0 (MQ below (va_Sq post) args s 0 0 (fun _ => False)) (F0 m pc ls [va_rf r]) :=
  W.aret (v := va_rf r) G.1 G.2.1 hr (Or.inl ⟨C, rfl⟩) (rf_or9 r) (fun t ht _ => ⟨r, rfl, h, ht⟩) (fun _ h => by cases h) hdg hlk
-- ends of methods that write
theorem x_iretM {v : Int32} {post : Int32 → Hp → Prop} (G : Gx p s m args c cc nL own D kA) (hr : meth.sig.returnType = some .int) (hlk : meth.locks = false) (S : Sx D kA (va_A (hw kA X0) sz) s.heap H locs X) (h1 : cells ≤ mc) (h2 : slots ≤ ms) (h : post v X) (hdg : decode cc pc = .ok (.ireturn, 1)) :
    W p l e R s m args below meth c H locs cells slots (MQ below (va_Qi post (PoM D kA X0 sz) (va_A (hw kA X0) sz)) args s mc ms (va_A (hw kA X0) sz)) (F0 m pc ls [.int v]) :=
  W.widen h1 h2 (W.iret G.1 G.2.1 hr (fun t ht _ => ⟨⟨v, X, rfl, h, by rw [ht]; exact S.1, S.2.1⟩, S.2.2.F ht⟩) S.2.2.2.2 hdg hlk)
theorem x_zretM {v : Int32} {post : Int32 → Hp → Prop} (G : Gx p s m args c cc nL own D kA) (hr : meth.sig.returnType = some .boolean) (hlk : meth.locks = false) (hz : v = 0 ∨ v = 1) (S : Sx D kA (va_A (hw kA X0) sz) s.heap H locs X) (h1 : cells ≤ mc) (h2 : slots ≤ ms) (h : post v X) (hdg : decode cc pc = .ok (.ireturn, 1)) :
    W p l e R s m args below meth c H locs cells slots (MQ below (va_Qi post (PoM D kA X0 sz) (va_A (hw kA X0) sz)) args s mc ms (va_A (hw kA X0) sz)) (F0 m pc ls [.int v]) :=
  W.widen h1 h2 (W.zret G.1 G.2.1 hr (by rcases hz with rfl | rfl <;> rfl) (fun t ht _ => ⟨⟨v, X, rfl, h, by rw [ht]; exact S.1, S.2.1⟩, S.2.2.F ht⟩) S.2.2.2.2 hdg hlk)
theorem x_vretM {post : Hp → Prop} (G : Gx p s m args c cc nL own D kA) (hr : meth.sig.returnType = none) (hlk : meth.locks = false) (S : Sx D kA (va_A (hw kA X0) sz) s.heap H locs X) (h1 : cells ≤ mc) (h2 : slots ≤ ms) (h : post X) (hdg : decode cc pc = .ok (.return_, 1)) :
    W p l e R s m args below meth c H locs cells slots (MQ below (va_Qv post (PoM D kA X0 sz) (va_A (hw kA X0) sz)) args s mc ms (va_A (hw kA X0) sz)) (F0 m pc ls []) :=
  W.widen h1 h2 (W.vret G.1 G.2.1 hr (fun t ht _ => ⟨⟨X, rfl, h, by rw [ht]; exact S.1, S.2.1⟩, S.2.2.F ht⟩) S.2.2.2.2 hdg hlk)
theorem x_aretM {r : Option Nat} {C : String} {post : Option Nat → Hp → Prop} (G : Gx p s m args c cc nL own D kA) (hr : meth.sig.returnType = some (.object C)) (hlk : meth.locks = false) (S : Sx D kA (va_A (hw kA X0) sz) s.heap H locs X) (h1 : cells ≤ mc) (h2 : slots ≤ ms) (h : post r X) (hdg : decode cc pc = .ok (.areturn, 1)) :
    W p l e R s m args below meth c H locs cells slots (MQ below (va_Qq post (PoM D kA X0 sz) (va_A (hw kA X0) sz)) args s mc ms (va_A (hw kA X0) sz)) (F0 m pc ls [va_rf r]) :=
  W.widen h1 h2 (W.aret (v := va_rf r) G.1 G.2.1 hr (Or.inl ⟨C, rfl⟩) (rf_or9 r) (fun t ht _ => ⟨⟨r, X, rfl, h, by rw [ht]; exact S.1, S.2.1⟩, S.2.2.F ht⟩) S.2.2.2.2 hdg hlk)
end PT
section PL
variable {p : Program} {l : Launch} {e : Env} {R : Room} {s : State} {m : MethodId} {args : Array Value} {below : List Frame} {meth : Method} {c : Code} {H H0 : Heap} {locs : List Loc} {cells slots : Nat} {Q : State → Prop} {cc : ByteArray} {nL pc : Nat} {ls : Array Slot} {rest st0 As : List Value} {own : String} {D : va_G} {kA : Nat → ClassId} {A : Nat → Prop} {X : Hp} {b ci idx n mc ms fr lo maxL : Nat} {fs : List Value} {y : MethodName} {bytes : ByteArray} {ret : Option FieldType}
-- calls of methods that only read: S static, V of an object; i an int, q a reference
theorem x_cRSi {post : Int32 → Prop} (G : Gx p s m args c cc nL own D kA) (hP : va_P D vwCl (hw kA X) H) (hM : Met l y (.code y bytes maxL ret :: gd) (rmO fr 0 0 lo) (va_Pc As (Pre D kA X)) (vp_Si post) 0 0 (fun _ => False)) (hcd : Cond.code y bytes maxL ret ∈ gd) (hl : MLS own idx y n) (hR : fr + 1 ≤ R.frames ∧ 8 + (maxL + 11) + lo ≤ R.locals) (hn : As.length = n) (hls : ls.size = nL) (hst : st0 = As.reverse ++ rest) (hW : (rest.map fun v => v.category).sum ≤ 8) (hdg : decode cc pc = .ok (.invokestatic idx, 3)) (hf : cells ≤ R.cells ∧ slots ≤ R.slots)
    (kk : ∀ r : Int32, post r → W p l e R s m args below meth c H locs cells slots Q (F0 m (pc + 3) ls (.int r :: rest))) : W p l e R s m args below meth c H locs cells slots Q (F0 m pc ls st0) :=
  vp_callSi (va_Run.run (x_runS G hM hcd hl ⟨Pre.blind, G.pre hP⟩ hR hn hls hst hW hdg hf)) kk
theorem x_cRVi {post : Int32 → Prop} {r : vw_C} (G : Gx p s m args c cc nL own D kA) (hP : va_P D vwCl (hw kA X) H) (hs : Hs X b (.inr (ci, fs))) (hc : vwCl[ci]? = some r) (hcy : r.1 = y.cls) (hM : Met l y (.code y bytes maxL ret :: gd) (rmO fr 0 0 lo) (va_Pc (.ref b :: As) (Pre D kA X)) (vp_Si post) 0 0 (fun _ => False)) (hcd : Cond.code y bytes maxL ret ∈ gd) (hl : MLV own idx y n) (hR : fr + 1 ≤ R.frames ∧ 8 + (maxL + 11) + lo ≤ R.locals) (hn : As.length = n) (hls : ls.size = nL) (hst : st0 = As.reverse ++ .ref b :: rest) (hW : (rest.map fun v => v.category).sum ≤ 8) (hdg : decode cc pc = .ok (.invokevirtual idx, 3)) (hf : cells ≤ R.cells ∧ slots ≤ R.slots)
    (kk : ∀ r : Int32, post r → W p l e R s m args below meth c H locs cells slots Q (F0 m (pc + 3) ls (.int r :: rest))) : W p l e R s m args below meth c H locs cells slots Q (F0 m pc ls st0) :=
  vp_callSi (va_Run.run (x_runV G hP hs hc hcy hM hcd hl ⟨Pre.blind, G.pre hP⟩ hR hn hls hst hW hdg hf)) kk
theorem x_cRVq {post : Option Nat → Prop} {r : vw_C} (G : Gx p s m args c cc nL own D kA) (hP : va_P D vwCl (hw kA X) H) (hs : Hs X b (.inr (ci, fs))) (hc : vwCl[ci]? = some r) (hcy : r.1 = y.cls) (hM : Met l y (.code y bytes maxL ret :: gd) (rmO fr 0 0 lo) (va_Pc (.ref b :: As) (Pre D kA X)) (va_Sq post) 0 0 (fun _ => False)) (hcd : Cond.code y bytes maxL ret ∈ gd) (hl : MLV own idx y n) (hR : fr + 1 ≤ R.frames ∧ 8 + (maxL + 11) + lo ≤ R.locals) (hn : As.length = n) (hls : ls.size = nL) (hst : st0 = As.reverse ++ .ref b :: rest) (hW : (rest.map fun v => v.category).sum ≤ 8) (hdg : decode cc pc = .ok (.invokevirtual idx, 3)) (hf : cells ≤ R.cells ∧ slots ≤ R.slots)
    (kk : ∀ r : Option Nat, post r → W p l e R s m args below meth c H locs cells slots Q (F0 m (pc + 3) ls (va_rf r :: rest))) : W p l e R s m args below meth c H locs cells slots Q (F0 m pc ls st0) :=
  va_csq (va_Run.run (x_runV G hP hs hc hcy hM hcd hl ⟨Pre.blind, G.pre hP⟩ hR hn hls hst hW hdg hf)) kk
-- calls of methods that write
theorem x_cMVi {post : Int32 → Hp → Prop} {r : vw_C} (G : Gx p s m args c cc nL own D kA) (S : Sx D kA A H0 H locs X) (hA : ∀ q, H0.size ≤ q → A q) (hs : Hs X b (.inr (ci, fs))) (hc : vwCl[ci]? = some r) (hcy : r.1 = y.cls) (hM : Met l y (.code y bytes maxL ret :: gd) (rmO fr mc ms lo) (va_Pc (.ref b :: As) (PreM D kA X H.size)) (va_Qi post (PoM D kA X H.size) (va_A (hw kA X) H.size)) mc ms (va_A (hw kA X) H.size)) (hcd : Cond.code y bytes maxL ret ∈ gd) (hl : MLV own idx y n) (hR : fr + 1 ≤ R.frames ∧ 8 + (maxL + 11) + lo ≤ R.locals) (hn : As.length = n) (hls : ls.size = nL) (hst : st0 = As.reverse ++ .ref b :: rest) (hW : (rest.map fun v => v.category).sum ≤ 8) (hdg : decode cc pc = .ok (.invokevirtual idx, 3)) (hf : cells + mc ≤ R.cells ∧ slots + ms ≤ R.slots)
    (kk : ∀ (r : Int32) (X' : Hp) (H1 : Heap) (locs1 : List Loc), post r X' → Sx D kA A H0 H1 locs1 X' → W p l e R s m args below meth c H1 locs1 (cells + mc) (slots + ms) Q (F0 m (pc + 3) ls (.int r :: rest))) : W p l e R s m args below meth c H locs cells slots Q (F0 m pc ls st0) :=
  va_calli (x_runV G S.1 hs hc hcy hM hcd hl ⟨PreM.blind, G.preM S⟩ hR hn hls hst hW hdg hf) S.2.2 (fun q _ h => S.fre hA q h) (S.fre hA) (fun r u t H1 locs1 ht _ hp hB _ _ hS1 => kk r u H1 locs1 hp (Sx.back (S.fre hA) hB ht hS1))
theorem x_cMVv {post : Hp → Prop} {r : vw_C} (G : Gx p s m args c cc nL own D kA) (S : Sx D kA A H0 H locs X) (hA : ∀ q, H0.size ≤ q → A q) (hs : Hs X b (.inr (ci, fs))) (hc : vwCl[ci]? = some r) (hcy : r.1 = y.cls) (hM : Met l y (.code y bytes maxL ret :: gd) (rmO fr mc ms lo) (va_Pc (.ref b :: As) (PreM D kA X H.size)) (va_Qv post (PoM D kA X H.size) (va_A (hw kA X) H.size)) mc ms (va_A (hw kA X) H.size)) (hcd : Cond.code y bytes maxL ret ∈ gd) (hl : MLV own idx y n) (hR : fr + 1 ≤ R.frames ∧ 8 + (maxL + 11) + lo ≤ R.locals) (hn : As.length = n) (hls : ls.size = nL) (hst : st0 = As.reverse ++ .ref b :: rest) (hW : (rest.map fun v => v.category).sum ≤ 8) (hdg : decode cc pc = .ok (.invokevirtual idx, 3)) (hf : cells + mc ≤ R.cells ∧ slots + ms ≤ R.slots)
    (kk : ∀ (X' : Hp) (H1 : Heap) (locs1 : List Loc), post X' → Sx D kA A H0 H1 locs1 X' → W p l e R s m args below meth c H1 locs1 (cells + mc) (slots + ms) Q (F0 m (pc + 3) ls rest)) : W p l e R s m args below meth c H locs cells slots Q (F0 m pc ls st0) :=
  va_callv (x_runV G S.1 hs hc hcy hM hcd hl ⟨PreM.blind, G.preM S⟩ hR hn hls hst hW hdg hf) S.2.2 (fun q _ h => S.fre hA q h) (S.fre hA) (fun u t H1 locs1 ht _ hp hB _ _ hS1 => kk u H1 locs1 hp (Sx.back (S.fre hA) hB ht hS1))
theorem x_cMVq {post : Option Nat → Hp → Prop} {r : vw_C} (G : Gx p s m args c cc nL own D kA) (S : Sx D kA A H0 H locs X) (hA : ∀ q, H0.size ≤ q → A q) (hs : Hs X b (.inr (ci, fs))) (hc : vwCl[ci]? = some r) (hcy : r.1 = y.cls) (hM : Met l y (.code y bytes maxL ret :: gd) (rmO fr mc ms lo) (va_Pc (.ref b :: As) (PreM D kA X H.size)) (va_Qq post (PoM D kA X H.size) (va_A (hw kA X) H.size)) mc ms (va_A (hw kA X) H.size)) (hcd : Cond.code y bytes maxL ret ∈ gd) (hl : MLV own idx y n) (hR : fr + 1 ≤ R.frames ∧ 8 + (maxL + 11) + lo ≤ R.locals) (hn : As.length = n) (hls : ls.size = nL) (hst : st0 = As.reverse ++ .ref b :: rest) (hW : (rest.map fun v => v.category).sum ≤ 8) (hdg : decode cc pc = .ok (.invokevirtual idx, 3)) (hf : cells + mc ≤ R.cells ∧ slots + ms ≤ R.slots)
    (kk : ∀ (r : Option Nat) (X' : Hp) (H1 : Heap) (locs1 : List Loc), post r X' → Sx D kA A H0 H1 locs1 X' → W p l e R s m args below meth c H1 locs1 (cells + mc) (slots + ms) Q (F0 m (pc + 3) ls (va_rf r :: rest))) : W p l e R s m args below meth c H locs cells slots Q (F0 m pc ls st0) :=
  va_callq (x_runV G S.1 hs hc hcy hM hcd hl ⟨PreM.blind, G.preM S⟩ hR hn hls hst hW hdg hf) S.2.2 (fun q _ h => S.fre hA q h) (S.fre hA) (fun r u t H1 locs1 ht _ hp hB _ _ hS1 => kk r u H1 locs1 hp (Sx.back (S.fre hA) hB ht hS1))
theorem x_cMIv {post : Hp → Prop} (G : Gx p s m args c cc nL own D kA) (S : Sx D kA A H0 H locs X) (hA : ∀ q, H0.size ≤ q → A q) (hM : Met l y (.code y bytes maxL none :: gd) (rmO fr mc ms lo) (va_Pc (.ref b :: As) (PreM D kA X H.size)) (va_Qv post (PoM D kA X H.size) (va_A (hw kA X) H.size)) mc ms (va_A (hw kA X) H.size)) (hcd : Cond.code y bytes maxL none ∈ gd) (hl : MLI own idx y n) (hR : fr + 1 ≤ R.frames ∧ 8 + (maxL + 11) + lo ≤ R.locals) (hn : As.length = n) (hls : ls.size = nL) (hst : st0 = As.reverse ++ .ref b :: rest) (hW : (rest.map fun v => v.category).sum ≤ 8) (hdg : decode cc pc = .ok (.invokespecial idx, 3)) (hf : cells + mc ≤ R.cells ∧ slots + ms ≤ R.slots)
    (kk : ∀ (X' : Hp) (H1 : Heap) (locs1 : List Loc), post X' → Sx D kA A H0 H1 locs1 X' → W p l e R s m args below meth c H1 locs1 (cells + mc) (slots + ms) Q (F0 m (pc + 3) ls rest)) : W p l e R s m args below meth c H locs cells slots Q (F0 m pc ls st0) :=
  va_callv (x_runI G hM hcd hl ⟨PreM.blind, G.preM S⟩ hR hn hls hst hW hdg hf) S.2.2 (fun q _ h => S.fre hA q h) (S.fre hA) (fun u t H1 locs1 ht _ hp hB _ _ hS1 => kk u H1 locs1 hp (Sx.back (S.fre hA) hB ht hS1))
theorem x_objInit {a : Nat} (G : Gx p s m args c cc nL own D kA) (hl : Cond.methodLink own idx objectInit ∈ gd) (h1 : Cond.instanceMethod objectInit ∈ gd) (h2 : Cond.code objectInit ⟨#[0xb1]⟩ 1 none ∈ gd) (hls : ls.size = nL) (hdg : decode cc pc = .ok (.invokespecial idx, 3)) (hfr : 1 ≤ R.frames) (hlo : 2 * (F0 m pc ls (.ref a :: rest)).monitorRoom + (rest.map fun v => v.category).sum + 12 ≤ R.locals)
    (kk : W p l e R s m args below meth c H locs cells slots Q (F0 m (pc + 3) ls rest)) : W p l e R s m args below meth c H locs cells slots Q (F0 m pc ls (.ref a :: rest)) := by
  obtain ⟨hx, hb, hml, hown, hts, hE, hK⟩ := G
  exact W.objInit hx hb hown (hts _ hl) (hts _ h1) (hts _ h2) rfl (by rw [hml]; exact hls) rfl hdg hfr hlo kk
end PL
