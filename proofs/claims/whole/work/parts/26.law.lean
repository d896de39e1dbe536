/-! THE CLAIM OUT OF ONE WALK OF THE LAW'S BODY. Your part is whole_start (and what it stands on); all else here is the same for every law, but numbers. -/
def R_law : String := "NapVoyageLaw"
def lw_P (b : Addr) (xs : List Int32) (args : Array Value) (s : State) : Prop := args = #[.ref b] ∧ s.IntsAt b xs ∧ xs.length ≤ 3072 ∧ (Jvm.Cond.and given_1 narrow_1).before args s = true
def lw_Q (_ : Array Value) (s : State) (o : Outcome) (t : State) : Prop := o = .returned (some (.int 1)) ∧ Framed s o t [] 600000 7302249
def lw_Z (below : List Frame) (a : Array Value) (s : State) : State → Prop := fun t => ∃ o, t.status = .running ∧ Ended t below o ∧ lw_Q a s o t
/-- the law's own end, with 1 on the stack, nothing written that was there before, its room as the claim has it -/
theorem lw_ret {p : Program} {l : Launch} {e : Env} {s : State} {m : MethodId} {below : List Frame} {meth : Method} {c : Code} {b : Nat} (hx : p.tables.exec = Jvm.exec) (hb : c.code = code) (hr : meth.sig.returnType = ret) (hlocks : meth.locks = false) {pc : Nat} {H : Heap} {ls : Array Slot} (hdg : decode code pc = .ok (.ireturn, 1)) : W p l e room_1 s m #[Value.ref b] below meth c H [] 600000 7302249 (lw_Z below #[Value.ref b] s) (F0 m pc ls [.int 1]) := by
  intro T hT X
  obtain ⟨fs, hret, hrun, hended, hW, hframe⟩ := X.leave (v := some (.int 1)) (hlocks := hlocks) (fun h => by rw [hr] at h; cases h)
  have hmeth' : T.vm.method? m = some meth := X.method'
  refine ⟨T.setFrames fs, ?_, .returned (some (.int 1)), hrun, hended, rfl, ⟨_, rfl⟩, hW, hframe⟩
  jvm_step X.here [X.here.top, hx, hb, hdg, hmeth', hr, ret, narrow_b1]
  (try refine ⟨rfl, ?_⟩); (try refine ⟨rfl, ?_⟩)
  first | (intro acts; rw [hret _ acts rfl rfl rfl]) | rw [hret _ _ rfl rfl rfl]
  exact Steps.refl _
/-- what holds at the law's entry: the machine, the code, the tables' words (any of lw_tbl by 'hts w (by decide +kernel)'), the script of L ints xs at the cell b, what the Statement gives of the start (any of its parts by flat_of_before) -/
def lw_At (p : Program) (s : State) (m : MethodId) (meth : Method) (c : Code) (b L : Nat) (xs : Nat → Int32) : Prop :=
  p.tables.exec = Jvm.exec ∧ c.code = code ∧ meth.sig.returnType = ret ∧ c.maxLocals = 4 ∧ s.vm.findClass R_law = some m.cls ∧ (∀ w ∈ lw_tbl, w.before #[Value.ref b] s = true) ∧ va_X b L xs s s.heap ∧ b < s.heap.size ∧ meth.locks = false ∧ (Jvm.Cond.and given_1 narrow_1).before #[Value.ref b] s = true
set_option maxHeartbeats 4000000 in
set_option maxRecDepth 100000 in
def bk_L_law_1173 (Lx : Nat) (xs : Nat → Int32) (r_18 : Hp → Nat → Nat → Nat → Nat → Int32 → Prop) (X : Hp) (kc : Nat) (ks : Nat) (b1173_1 : Nat) (b1173_2 : Nat) (b1173_3 : Int32) : Prop := ∀ x213 : Int32, x213 = b1173_3 + (6 : Int32) → r_18 X kc ks b1173_1 b1173_2 x213
set_option maxHeartbeats 4000000 in
set_option maxRecDepth 100000 in
def bk_L_law_18 (Lx : Nat) (xs : Nat → Int32) : Nat → Hp → Nat → Nat → Nat → Nat → Int32 → Prop
  | 0, _, _, _, _, _, _ => False
  | k + 1, X, kc, ks, b18_1, b18_2, b18_3 => (((nI Lx) - (6 : Int32)) < b18_3 → kc ≤ 600000 ∧ ks ≤ 7302249) ∧ (¬ ((nI Lx) - (6 : Int32)) < b18_3 → vp_in b18_3 Lx ∧ (((xs b18_3.toNatClampNeg) &&& (31 : Int32)) = (0 : Int32) → vp_in (b18_3 + (1 : Int32)) Lx ∧ vp_in (b18_3 + (2 : Int32)) Lx ∧ vp_in (b18_3 + (3 : Int32)) Lx ∧ vp_in (b18_3 + (4 : Int32)) Lx ∧ ∃ fs20 : List Value, Hs X b18_1 (.inr (9, fs20)) ∧ kc ≤ 600000 ∧ ks ≤ 7302249 ∧ wp_X9_leg (fun r15 X14 => vp_in (b18_3 + (1 : Int32)) Lx ∧ vp_in (b18_3 + (2 : Int32)) Lx ∧ vp_in (b18_3 + (3 : Int32)) Lx ∧ vp_in (b18_3 + (4 : Int32)) Lx ∧ ∃ fs19 : List Value, Hs X14 b18_2 (.inr (10, fs19)) ∧ kc ≤ 600000 ∧ ks ≤ 7302249 ∧ wp_X10_leg (fun r17 X16 => (r15 = r17 → bk_L_law_1173 Lx xs (bk_L_law_18 Lx xs k) X16 kc ks b18_1 b18_2 b18_3) ∧ (¬ r15 = r17 → False))  X14 b18_2 (xs (b18_3 + (1 : Int32)).toNatClampNeg) (xs (b18_3 + (2 : Int32)).toNatClampNeg) (xs (b18_3 + (3 : Int32)).toNatClampNeg) (xs (b18_3 + (4 : Int32)).toNatClampNeg))  X b18_1 (xs (b18_3 + (1 : Int32)).toNatClampNeg) (xs (b18_3 + (2 : Int32)).toNatClampNeg) (xs (b18_3 + (3 : Int32)).toNatClampNeg) (xs (b18_3 + (4 : Int32)).toNatClampNeg)) ∧ (((xs b18_3.toNatClampNeg) &&& (31 : Int32)) = (1 : Int32) → vp_in (b18_3 + (1 : Int32)) Lx ∧ ∃ fs28 : List Value, Hs X b18_1 (.inr (9, fs28)) ∧ kc ≤ 600000 ∧ ks ≤ 7302249 ∧ wp_X9_cut (fun r23 X22 => vp_in (b18_3 + (1 : Int32)) Lx ∧ ∃ fs27 : List Value, Hs X22 b18_2 (.inr (10, fs27)) ∧ kc ≤ 600000 ∧ ks ≤ 7302249 ∧ wp_X10_cut (fun r25 X24 => (r23 = r25 → bk_L_law_1173 Lx xs (bk_L_law_18 Lx xs k) X24 kc ks b18_1 b18_2 b18_3) ∧ (¬ r23 = r25 → False))  X22 b18_2 (xs (b18_3 + (1 : Int32)).toNatClampNeg))  X b18_1 (xs (b18_3 + (1 : Int32)).toNatClampNeg)) ∧ (((xs b18_3.toNatClampNeg) &&& (31 : Int32)) = (2 : Int32) → vp_in (b18_3 + (1 : Int32)) Lx ∧ vp_in (b18_3 + (2 : Int32)) Lx ∧ vp_in (b18_3 + (3 : Int32)) Lx ∧ ∃ fs34 : List Value, Hs X b18_1 (.inr (9, fs34)) ∧ kc ≤ 600000 ∧ ks ≤ 7302249 ∧ wp_X9_about (fun r30 => vp_in (b18_3 + (1 : Int32)) Lx ∧ vp_in (b18_3 + (2 : Int32)) Lx ∧ vp_in (b18_3 + (3 : Int32)) Lx ∧ ∃ fs33 : List Value, Hs X b18_2 (.inr (10, fs33)) ∧ kc ≤ 600000 ∧ ks ≤ 7302249 ∧ wp_X10_about (fun r31 => (r30 = r31 → bk_L_law_1173 Lx xs (bk_L_law_18 Lx xs k) X kc ks b18_1 b18_2 b18_3) ∧ (¬ r30 = r31 → False))  X b18_2 (xs (b18_3 + (1 : Int32)).toNatClampNeg) (xs (b18_3 + (2 : Int32)).toNatClampNeg) (xs (b18_3 + (3 : Int32)).toNatClampNeg))  X b18_1 (xs (b18_3 + (1 : Int32)).toNatClampNeg) (xs (b18_3 + (2 : Int32)).toNatClampNeg) (xs (b18_3 + (3 : Int32)).toNatClampNeg)) ∧ (((xs b18_3.toNatClampNeg) &&& (31 : Int32)) = (3 : Int32) → vp_in (b18_3 + (1 : Int32)) Lx ∧ vp_in (b18_3 + (2 : Int32)) Lx ∧ vp_in (b18_3 + (3 : Int32)) Lx ∧ ∃ fs42 : List Value, Hs X b18_1 (.inr (9, fs42)) ∧ kc ≤ 600000 ∧ ks ≤ 7302249 ∧ wp_X9_nap (fun r37 X36 => vp_in (b18_3 + (1 : Int32)) Lx ∧ vp_in (b18_3 + (2 : Int32)) Lx ∧ vp_in (b18_3 + (3 : Int32)) Lx ∧ ∃ fs41 : List Value, Hs X36 b18_2 (.inr (10, fs41)) ∧ kc ≤ 600000 ∧ ks ≤ 7302249 ∧ wp_X10_nap (fun r39 X38 => (r37 = r39 → bk_L_law_1173 Lx xs (bk_L_law_18 Lx xs k) X38 kc ks b18_1 b18_2 b18_3) ∧ (¬ r37 = r39 → False))  X36 b18_2 (xs (b18_3 + (1 : Int32)).toNatClampNeg) (xs (b18_3 + (2 : Int32)).toNatClampNeg) (xs (b18_3 + (3 : Int32)).toNatClampNeg))  X b18_1 (xs (b18_3 + (1 : Int32)).toNatClampNeg) (xs (b18_3 + (2 : Int32)).toNatClampNeg) (xs (b18_3 + (3 : Int32)).toNatClampNeg)) ∧ (((xs b18_3.toNatClampNeg) &&& (31 : Int32)) = (4 : Int32) → vp_in (b18_3 + (1 : Int32)) Lx ∧ vp_in (b18_3 + (2 : Int32)) Lx ∧ vp_in (b18_3 + (3 : Int32)) Lx ∧ vp_in (b18_3 + (4 : Int32)) Lx ∧ ∃ fs48 : List Value, Hs X b18_1 (.inr (9, fs48)) ∧ kc ≤ 600000 ∧ ks ≤ 7302249 ∧ wp_X9_owed (fun r44 => vp_in (b18_3 + (1 : Int32)) Lx ∧ vp_in (b18_3 + (2 : Int32)) Lx ∧ vp_in (b18_3 + (3 : Int32)) Lx ∧ vp_in (b18_3 + (4 : Int32)) Lx ∧ ∃ fs47 : List Value, Hs X b18_2 (.inr (10, fs47)) ∧ kc ≤ 600000 ∧ ks ≤ 7302249 ∧ wp_X10_owed (fun r45 => (r44 = r45 → bk_L_law_1173 Lx xs (bk_L_law_18 Lx xs k) X kc ks b18_1 b18_2 b18_3) ∧ (¬ r44 = r45 → False))  X b18_2 (xs (b18_3 + (1 : Int32)).toNatClampNeg) (xs (b18_3 + (2 : Int32)).toNatClampNeg) (xs (b18_3 + (3 : Int32)).toNatClampNeg) (xs (b18_3 + (4 : Int32)).toNatClampNeg))  X b18_1 (xs (b18_3 + (1 : Int32)).toNatClampNeg) (xs (b18_3 + (2 : Int32)).toNatClampNeg) (xs (b18_3 + (3 : Int32)).toNatClampNeg) (xs (b18_3 + (4 : Int32)).toNatClampNeg)) ∧ (((xs b18_3.toNatClampNeg) &&& (31 : Int32)) = (5 : Int32) → vp_in (b18_3 + (1 : Int32)) Lx ∧ vp_in (b18_3 + (2 : Int32)) Lx ∧ vp_in (b18_3 + (3 : Int32)) Lx ∧ vp_in (b18_3 + (4 : Int32)) Lx ∧ vp_in (b18_3 + (5 : Int32)) Lx ∧ ∃ fs54 : List Value, Hs X b18_1 (.inr (9, fs54)) ∧ kc ≤ 600000 ∧ ks ≤ 7302249 ∧ wp_X9_risk (fun r50 => vp_in (b18_3 + (1 : Int32)) Lx ∧ vp_in (b18_3 + (2 : Int32)) Lx ∧ vp_in (b18_3 + (3 : Int32)) Lx ∧ vp_in (b18_3 + (4 : Int32)) Lx ∧ vp_in (b18_3 + (5 : Int32)) Lx ∧ ∃ fs53 : List Value, Hs X b18_2 (.inr (10, fs53)) ∧ kc ≤ 600000 ∧ ks ≤ 7302249 ∧ wp_X10_risk (fun r51 => (r50 = r51 → bk_L_law_1173 Lx xs (bk_L_law_18 Lx xs k) X kc ks b18_1 b18_2 b18_3) ∧ (¬ r50 = r51 → False))  X b18_2 (xs (b18_3 + (1 : Int32)).toNatClampNeg) (xs (b18_3 + (2 : Int32)).toNatClampNeg) (xs (b18_3 + (3 : Int32)).toNatClampNeg) (xs (b18_3 + (4 : Int32)).toNatClampNeg) (xs (b18_3 + (5 : Int32)).toNatClampNeg))  X b18_1 (xs (b18_3 + (1 : Int32)).toNatClampNeg) (xs (b18_3 + (2 : Int32)).toNatClampNeg) (xs (b18_3 + (3 : Int32)).toNatClampNeg) (xs (b18_3 + (4 : Int32)).toNatClampNeg) (xs (b18_3 + (5 : Int32)).toNatClampNeg)) ∧ (((xs b18_3.toNatClampNeg) &&& (31 : Int32)) = (6 : Int32) → vp_in (b18_3 + (1 : Int32)) Lx ∧ ∃ fs62 : List Value, Hs X b18_1 (.inr (9, fs62)) ∧ kc ≤ 600000 ∧ ks ≤ 7302249 ∧ wp_X9_say (fun r57 X56 => vp_in (b18_3 + (1 : Int32)) Lx ∧ ∃ fs61 : List Value, Hs X56 b18_2 (.inr (10, fs61)) ∧ kc ≤ 600000 ∧ ks ≤ 7302249 ∧ wp_X10_say (fun r59 X58 => (r57 = r59 → bk_L_law_1173 Lx xs (bk_L_law_18 Lx xs k) X58 kc ks b18_1 b18_2 b18_3) ∧ (¬ r57 = r59 → False))  X56 b18_2 (xs (b18_3 + (1 : Int32)).toNatClampNeg))  X b18_1 (xs (b18_3 + (1 : Int32)).toNatClampNeg)) ∧ (((xs b18_3.toNatClampNeg) &&& (31 : Int32)) = (7 : Int32) → ∃ fs70 : List Value, Hs X b18_1 (.inr (9, fs70)) ∧ kc ≤ 600000 ∧ ks ≤ 7302249 ∧ wp_X9_wipe (fun r65 X64 => ∃ fs69 : List Value, Hs X64 b18_2 (.inr (10, fs69)) ∧ kc ≤ 600000 ∧ ks ≤ 7302249 ∧ wp_X10_wipe (fun r67 X66 => (r65 = r67 → bk_L_law_1173 Lx xs (bk_L_law_18 Lx xs k) X66 kc ks b18_1 b18_2 b18_3) ∧ (¬ r65 = r67 → False))  X64 b18_2)  X b18_1) ∧ (((xs b18_3.toNatClampNeg) &&& (31 : Int32)) = (8 : Int32) → ∃ fs76 : List Value, Hs X b18_1 (.inr (9, fs76)) ∧ kc ≤ 600000 ∧ ks ≤ 7302249 ∧ wp_X9_fault (fun r72 => ∃ fs75 : List Value, Hs X b18_2 (.inr (10, fs75)) ∧ kc ≤ 600000 ∧ ks ≤ 7302249 ∧ wp_X10_fault (fun r73 => (r72 = r73 → bk_L_law_1173 Lx xs (bk_L_law_18 Lx xs k) X kc ks b18_1 b18_2 b18_3) ∧ (¬ r72 = r73 → False))  X b18_2)  X b18_1) ∧ (((xs b18_3.toNatClampNeg) &&& (31 : Int32)) = (9 : Int32) → vp_in (b18_3 + (1 : Int32)) Lx ∧ vp_in (b18_3 + (2 : Int32)) Lx ∧ vp_in (b18_3 + (3 : Int32)) Lx ∧ vp_in (b18_3 + (4 : Int32)) Lx ∧ ∃ fs84 : List Value, Hs X b18_1 (.inr (9, fs84)) ∧ kc ≤ 600000 ∧ ks ≤ 7302249 ∧ wp_X9_judge (fun r79 X78 => vp_in (b18_3 + (1 : Int32)) Lx ∧ vp_in (b18_3 + (2 : Int32)) Lx ∧ vp_in (b18_3 + (3 : Int32)) Lx ∧ vp_in (b18_3 + (4 : Int32)) Lx ∧ ∃ fs83 : List Value, Hs X78 b18_2 (.inr (10, fs83)) ∧ kc ≤ 600000 ∧ ks ≤ 7302249 ∧ wp_X10_judge (fun r81 X80 => (r79 = r81 → bk_L_law_1173 Lx xs (bk_L_law_18 Lx xs k) X80 kc ks b18_1 b18_2 b18_3) ∧ (¬ r79 = r81 → False))  X78 b18_2 (xs (b18_3 + (1 : Int32)).toNatClampNeg) (xs (b18_3 + (2 : Int32)).toNatClampNeg) (xs (b18_3 + (3 : Int32)).toNatClampNeg) (xs (b18_3 + (4 : Int32)).toNatClampNeg))  X b18_1 (xs (b18_3 + (1 : Int32)).toNatClampNeg) (xs (b18_3 + (2 : Int32)).toNatClampNeg) (xs (b18_3 + (3 : Int32)).toNatClampNeg) (xs (b18_3 + (4 : Int32)).toNatClampNeg)) ∧ (((xs b18_3.toNatClampNeg) &&& (31 : Int32)) = (10 : Int32) → vp_in (b18_3 + (1 : Int32)) Lx ∧ vp_in (b18_3 + (2 : Int32)) Lx ∧ vp_in (b18_3 + (3 : Int32)) Lx ∧ vp_in (b18_3 + (4 : Int32)) Lx ∧ vp_in (b18_3 + (5 : Int32)) Lx ∧ ∃ fs94 : List Value, Hs X b18_1 (.inr (9, fs94)) ∧ ∃ m86 m87 : Nat, kc + m86 ≤ 600000 ∧ ks + m87 ≤ 7302249 ∧ wp_X9_best (fun r89 X88 => vp_in (b18_3 + (1 : Int32)) Lx ∧ vp_in (b18_3 + (2 : Int32)) Lx ∧ vp_in (b18_3 + (3 : Int32)) Lx ∧ vp_in (b18_3 + (4 : Int32)) Lx ∧ vp_in (b18_3 + (5 : Int32)) Lx ∧ ∃ fs93 : List Value, Hs X88 b18_2 (.inr (10, fs93)) ∧ (kc + m86) ≤ 600000 ∧ (ks + m87) ≤ 7302249 ∧ wp_X10_best (fun r91 X90 => (r89 = r91 → bk_L_law_1173 Lx xs (bk_L_law_18 Lx xs k) X90 ((kc + m86)) ((ks + m87)) b18_1 b18_2 b18_3) ∧ (¬ r89 = r91 → False))  X88 b18_2 (xs (b18_3 + (1 : Int32)).toNatClampNeg) (xs (b18_3 + (2 : Int32)).toNatClampNeg) (xs (b18_3 + (3 : Int32)).toNatClampNeg) (xs (b18_3 + (4 : Int32)).toNatClampNeg) (xs (b18_3 + (5 : Int32)).toNatClampNeg)) m86 m87 X b18_1 (xs (b18_3 + (1 : Int32)).toNatClampNeg) (xs (b18_3 + (2 : Int32)).toNatClampNeg) (xs (b18_3 + (3 : Int32)).toNatClampNeg) (xs (b18_3 + (4 : Int32)).toNatClampNeg) (xs (b18_3 + (5 : Int32)).toNatClampNeg)) ∧ (((xs b18_3.toNatClampNeg) &&& (31 : Int32)) = (11 : Int32) → vp_in (b18_3 + (1 : Int32)) Lx ∧ vp_in (b18_3 + (2 : Int32)) Lx ∧ vp_in (b18_3 + (3 : Int32)) Lx ∧ vp_in (b18_3 + (4 : Int32)) Lx ∧ vp_in (b18_3 + (5 : Int32)) Lx ∧ ∃ fs104 : List Value, Hs X b18_1 (.inr (9, fs104)) ∧ ∃ m96 m97 : Nat, kc + m96 ≤ 600000 ∧ ks + m97 ≤ 7302249 ∧ wp_X9_does (fun r99 X98 => vp_in (b18_3 + (1 : Int32)) Lx ∧ vp_in (b18_3 + (2 : Int32)) Lx ∧ vp_in (b18_3 + (3 : Int32)) Lx ∧ vp_in (b18_3 + (4 : Int32)) Lx ∧ vp_in (b18_3 + (5 : Int32)) Lx ∧ ∃ fs103 : List Value, Hs X98 b18_2 (.inr (10, fs103)) ∧ (kc + m96) ≤ 600000 ∧ (ks + m97) ≤ 7302249 ∧ wp_X10_does (fun r101 X100 => (r99 = r101 → bk_L_law_1173 Lx xs (bk_L_law_18 Lx xs k) X100 ((kc + m96)) ((ks + m97)) b18_1 b18_2 b18_3) ∧ (¬ r99 = r101 → False))  X98 b18_2 (xs (b18_3 + (1 : Int32)).toNatClampNeg) (xs (b18_3 + (2 : Int32)).toNatClampNeg) (xs (b18_3 + (3 : Int32)).toNatClampNeg) (xs (b18_3 + (4 : Int32)).toNatClampNeg) (xs (b18_3 + (5 : Int32)).toNatClampNeg)) m96 m97 X b18_1 (xs (b18_3 + (1 : Int32)).toNatClampNeg) (xs (b18_3 + (2 : Int32)).toNatClampNeg) (xs (b18_3 + (3 : Int32)).toNatClampNeg) (xs (b18_3 + (4 : Int32)).toNatClampNeg) (xs (b18_3 + (5 : Int32)).toNatClampNeg)) ∧ (((xs b18_3.toNatClampNeg) &&& (31 : Int32)) = (12 : Int32) → vp_in (b18_3 + (1 : Int32)) Lx ∧ vp_in (b18_3 + (2 : Int32)) Lx ∧ vp_in (b18_3 + (3 : Int32)) Lx ∧ vp_in (b18_3 + (4 : Int32)) Lx ∧ ∃ fs114 : List Value, Hs X b18_1 (.inr (9, fs114)) ∧ ∃ m106 m107 : Nat, kc + m106 ≤ 600000 ∧ ks + m107 ≤ 7302249 ∧ wp_X9_logged (fun r109 X108 => vp_in (b18_3 + (1 : Int32)) Lx ∧ vp_in (b18_3 + (2 : Int32)) Lx ∧ vp_in (b18_3 + (3 : Int32)) Lx ∧ vp_in (b18_3 + (4 : Int32)) Lx ∧ ∃ fs113 : List Value, Hs X108 b18_2 (.inr (10, fs113)) ∧ (kc + m106) ≤ 600000 ∧ (ks + m107) ≤ 7302249 ∧ wp_X10_logged (fun r111 X110 => (r109 = r111 → bk_L_law_1173 Lx xs (bk_L_law_18 Lx xs k) X110 ((kc + m106)) ((ks + m107)) b18_1 b18_2 b18_3) ∧ (¬ r109 = r111 → False))  X108 b18_2 (xs (b18_3 + (1 : Int32)).toNatClampNeg) (xs (b18_3 + (2 : Int32)).toNatClampNeg) (xs (b18_3 + (3 : Int32)).toNatClampNeg) (xs (b18_3 + (4 : Int32)).toNatClampNeg)) m106 m107 X b18_1 (xs (b18_3 + (1 : Int32)).toNatClampNeg) (xs (b18_3 + (2 : Int32)).toNatClampNeg) (xs (b18_3 + (3 : Int32)).toNatClampNeg) (xs (b18_3 + (4 : Int32)).toNatClampNeg)) ∧ (((xs b18_3.toNatClampNeg) &&& (31 : Int32)) = (13 : Int32) → vp_in (b18_3 + (1 : Int32)) Lx ∧ vp_in (b18_3 + (2 : Int32)) Lx ∧ vp_in (b18_3 + (3 : Int32)) Lx ∧ vp_in (b18_3 + (4 : Int32)) Lx ∧ ∃ fs124 : List Value, Hs X b18_1 (.inr (9, fs124)) ∧ ∃ m116 m117 : Nat, kc + m116 ≤ 600000 ∧ ks + m117 ≤ 7302249 ∧ wp_X9_thumb (fun r119 X118 => vp_in (b18_3 + (1 : Int32)) Lx ∧ vp_in (b18_3 + (2 : Int32)) Lx ∧ vp_in (b18_3 + (3 : Int32)) Lx ∧ vp_in (b18_3 + (4 : Int32)) Lx ∧ ∃ fs123 : List Value, Hs X118 b18_2 (.inr (10, fs123)) ∧ (kc + m116) ≤ 600000 ∧ (ks + m117) ≤ 7302249 ∧ wp_X10_thumb (fun r121 X120 => (r119 = r121 → bk_L_law_1173 Lx xs (bk_L_law_18 Lx xs k) X120 ((kc + m116)) ((ks + m117)) b18_1 b18_2 b18_3) ∧ (¬ r119 = r121 → False))  X118 b18_2 (xs (b18_3 + (1 : Int32)).toNatClampNeg) (xs (b18_3 + (2 : Int32)).toNatClampNeg) (xs (b18_3 + (3 : Int32)).toNatClampNeg) (xs (b18_3 + (4 : Int32)).toNatClampNeg)) m116 m117 X b18_1 (xs (b18_3 + (1 : Int32)).toNatClampNeg) (xs (b18_3 + (2 : Int32)).toNatClampNeg) (xs (b18_3 + (3 : Int32)).toNatClampNeg) (xs (b18_3 + (4 : Int32)).toNatClampNeg)) ∧ (((xs b18_3.toNatClampNeg) &&& (31 : Int32)) = (14 : Int32) → vp_in (b18_3 + (1 : Int32)) Lx ∧ vp_in (b18_3 + (2 : Int32)) Lx ∧ vp_in (b18_3 + (3 : Int32)) Lx ∧ vp_in (b18_3 + (4 : Int32)) Lx ∧ ∃ fs134 : List Value, Hs X b18_1 (.inr (9, fs134)) ∧ ∃ m126 m127 : Nat, kc + m126 ≤ 600000 ∧ ks + m127 ≤ 7302249 ∧ wp_X9_worth (fun r129 X128 => vp_in (b18_3 + (1 : Int32)) Lx ∧ vp_in (b18_3 + (2 : Int32)) Lx ∧ vp_in (b18_3 + (3 : Int32)) Lx ∧ vp_in (b18_3 + (4 : Int32)) Lx ∧ ∃ fs133 : List Value, Hs X128 b18_2 (.inr (10, fs133)) ∧ (kc + m126) ≤ 600000 ∧ (ks + m127) ≤ 7302249 ∧ wp_X10_worth (fun r131 X130 => (r129 = r131 → bk_L_law_1173 Lx xs (bk_L_law_18 Lx xs k) X130 ((kc + m126)) ((ks + m127)) b18_1 b18_2 b18_3) ∧ (¬ r129 = r131 → False))  X128 b18_2 (xs (b18_3 + (1 : Int32)).toNatClampNeg) (xs (b18_3 + (2 : Int32)).toNatClampNeg) (xs (b18_3 + (3 : Int32)).toNatClampNeg) (xs (b18_3 + (4 : Int32)).toNatClampNeg)) m126 m127 X b18_1 (xs (b18_3 + (1 : Int32)).toNatClampNeg) (xs (b18_3 + (2 : Int32)).toNatClampNeg) (xs (b18_3 + (3 : Int32)).toNatClampNeg) (xs (b18_3 + (4 : Int32)).toNatClampNeg)) ∧ (((xs b18_3.toNatClampNeg) &&& (31 : Int32)) = (15 : Int32) → vp_in (b18_3 + (1 : Int32)) Lx ∧ vp_in (b18_3 + (2 : Int32)) Lx ∧ ∃ fs144 : List Value, Hs X b18_1 (.inr (9, fs144)) ∧ ∃ m136 m137 : Nat, kc + m136 ≤ 600000 ∧ ks + m137 ≤ 7302249 ∧ wp_X9_round (fun r139 X138 => vp_in (b18_3 + (1 : Int32)) Lx ∧ vp_in (b18_3 + (2 : Int32)) Lx ∧ ∃ fs143 : List Value, Hs X138 b18_2 (.inr (10, fs143)) ∧ (kc + m136) ≤ 600000 ∧ (ks + m137) ≤ 7302249 ∧ wp_X10_round (fun r141 X140 => (r139 = r141 → bk_L_law_1173 Lx xs (bk_L_law_18 Lx xs k) X140 ((kc + m136)) ((ks + m137)) b18_1 b18_2 b18_3) ∧ (¬ r139 = r141 → False))  X138 b18_2 (xs (b18_3 + (1 : Int32)).toNatClampNeg) (xs (b18_3 + (2 : Int32)).toNatClampNeg)) m136 m137 X b18_1 (xs (b18_3 + (1 : Int32)).toNatClampNeg) (xs (b18_3 + (2 : Int32)).toNatClampNeg)) ∧ (((xs b18_3.toNatClampNeg) &&& (31 : Int32)) = (16 : Int32) → vp_in (b18_3 + (1 : Int32)) Lx ∧ vp_in (b18_3 + (2 : Int32)) Lx ∧ vp_in (b18_3 + (3 : Int32)) Lx ∧ vp_in (b18_3 + (4 : Int32)) Lx ∧ ∃ fs154 : List Value, Hs X b18_1 (.inr (9, fs154)) ∧ ∃ m146 m147 : Nat, kc + m146 ≤ 600000 ∧ ks + m147 ≤ 7302249 ∧ wp_X9_soonest (fun r149 X148 => vp_in (b18_3 + (1 : Int32)) Lx ∧ vp_in (b18_3 + (2 : Int32)) Lx ∧ vp_in (b18_3 + (3 : Int32)) Lx ∧ vp_in (b18_3 + (4 : Int32)) Lx ∧ ∃ fs153 : List Value, Hs X148 b18_2 (.inr (10, fs153)) ∧ (kc + m146) ≤ 600000 ∧ (ks + m147) ≤ 7302249 ∧ wp_X10_soonest (fun r151 X150 => (r149 = r151 → bk_L_law_1173 Lx xs (bk_L_law_18 Lx xs k) X150 ((kc + m146)) ((ks + m147)) b18_1 b18_2 b18_3) ∧ (¬ r149 = r151 → False))  X148 b18_2 (xs (b18_3 + (1 : Int32)).toNatClampNeg) (xs (b18_3 + (2 : Int32)).toNatClampNeg) (xs (b18_3 + (3 : Int32)).toNatClampNeg) (xs (b18_3 + (4 : Int32)).toNatClampNeg)) m146 m147 X b18_1 (xs (b18_3 + (1 : Int32)).toNatClampNeg) (xs (b18_3 + (2 : Int32)).toNatClampNeg) (xs (b18_3 + (3 : Int32)).toNatClampNeg) (xs (b18_3 + (4 : Int32)).toNatClampNeg)) ∧ (((xs b18_3.toNatClampNeg) &&& (31 : Int32)) = (17 : Int32) → vp_in (b18_3 + (1 : Int32)) Lx ∧ vp_in (b18_3 + (2 : Int32)) Lx ∧ vp_in (b18_3 + (3 : Int32)) Lx ∧ ∃ fs162 : List Value, Hs X b18_1 (.inr (9, fs162)) ∧ kc ≤ 600000 ∧ ks ≤ 7302249 ∧ wp_X9_two (fun r157 X156 => vp_in (b18_3 + (1 : Int32)) Lx ∧ vp_in (b18_3 + (2 : Int32)) Lx ∧ vp_in (b18_3 + (3 : Int32)) Lx ∧ ∃ fs161 : List Value, Hs X156 b18_2 (.inr (10, fs161)) ∧ kc ≤ 600000 ∧ ks ≤ 7302249 ∧ wp_X10_two (fun r159 X158 => (r157 = r159 → bk_L_law_1173 Lx xs (bk_L_law_18 Lx xs k) X158 kc ks b18_1 b18_2 b18_3) ∧ (¬ r157 = r159 → False))  X156 b18_2 (xs (b18_3 + (1 : Int32)).toNatClampNeg) (xs (b18_3 + (2 : Int32)).toNatClampNeg) (xs (b18_3 + (3 : Int32)).toNatClampNeg))  X b18_1 (xs (b18_3 + (1 : Int32)).toNatClampNeg) (xs (b18_3 + (2 : Int32)).toNatClampNeg) (xs (b18_3 + (3 : Int32)).toNatClampNeg)) ∧ (((xs b18_3.toNatClampNeg) &&& (31 : Int32)) = (18 : Int32) → vp_in (b18_3 + (1 : Int32)) Lx ∧ vp_in (b18_3 + (2 : Int32)) Lx ∧ ∃ fs170 : List Value, Hs X b18_1 (.inr (9, fs170)) ∧ kc ≤ 600000 ∧ ks ≤ 7302249 ∧ wp_X9_share (fun r165 X164 => vp_in (b18_3 + (1 : Int32)) Lx ∧ vp_in (b18_3 + (2 : Int32)) Lx ∧ ∃ fs169 : List Value, Hs X164 b18_2 (.inr (10, fs169)) ∧ kc ≤ 600000 ∧ ks ≤ 7302249 ∧ wp_X10_share (fun r167 X166 => (r165 = r167 → bk_L_law_1173 Lx xs (bk_L_law_18 Lx xs k) X166 kc ks b18_1 b18_2 b18_3) ∧ (¬ r165 = r167 → False))  X164 b18_2 (xs (b18_3 + (1 : Int32)).toNatClampNeg) (xs (b18_3 + (2 : Int32)).toNatClampNeg))  X b18_1 (xs (b18_3 + (1 : Int32)).toNatClampNeg) (xs (b18_3 + (2 : Int32)).toNatClampNeg)) ∧ (((xs b18_3.toNatClampNeg) &&& (31 : Int32)) = (19 : Int32) → vp_in (b18_3 + (1 : Int32)) Lx ∧ vp_in (b18_3 + (2 : Int32)) Lx ∧ vp_in (b18_3 + (3 : Int32)) Lx ∧ ∃ fs176 : List Value, Hs X b18_1 (.inr (9, fs176)) ∧ kc ≤ 600000 ∧ ks ≤ 7302249 ∧ wp_X9_up (fun r172 => vp_in (b18_3 + (1 : Int32)) Lx ∧ vp_in (b18_3 + (2 : Int32)) Lx ∧ vp_in (b18_3 + (3 : Int32)) Lx ∧ ∃ fs175 : List Value, Hs X b18_2 (.inr (10, fs175)) ∧ kc ≤ 600000 ∧ ks ≤ 7302249 ∧ wp_X10_up (fun r173 => (r172 = r173 → bk_L_law_1173 Lx xs (bk_L_law_18 Lx xs k) X kc ks b18_1 b18_2 b18_3) ∧ (¬ r172 = r173 → False))  X b18_2 (xs (b18_3 + (1 : Int32)).toNatClampNeg) (xs (b18_3 + (2 : Int32)).toNatClampNeg) (xs (b18_3 + (3 : Int32)).toNatClampNeg))  X b18_1 (xs (b18_3 + (1 : Int32)).toNatClampNeg) (xs (b18_3 + (2 : Int32)).toNatClampNeg) (xs (b18_3 + (3 : Int32)).toNatClampNeg)) ∧ (((xs b18_3.toNatClampNeg) &&& (31 : Int32)) = (20 : Int32) → vp_in (b18_3 + (1 : Int32)) Lx ∧ vp_in (b18_3 + (2 : Int32)) Lx ∧ ∃ fs182 : List Value, Hs X b18_1 (.inr (9, fs182)) ∧ kc ≤ 600000 ∧ ks ≤ 7302249 ∧ wp_X9_trust (fun r178 => vp_in (b18_3 + (1 : Int32)) Lx ∧ vp_in (b18_3 + (2 : Int32)) Lx ∧ ∃ fs181 : List Value, Hs X b18_2 (.inr (10, fs181)) ∧ kc ≤ 600000 ∧ ks ≤ 7302249 ∧ wp_X10_trust (fun r179 => (r178 = r179 → bk_L_law_1173 Lx xs (bk_L_law_18 Lx xs k) X kc ks b18_1 b18_2 b18_3) ∧ (¬ r178 = r179 → False))  X b18_2 (xs (b18_3 + (1 : Int32)).toNatClampNeg) (xs (b18_3 + (2 : Int32)).toNatClampNeg))  X b18_1 (xs (b18_3 + (1 : Int32)).toNatClampNeg) (xs (b18_3 + (2 : Int32)).toNatClampNeg)) ∧ (((xs b18_3.toNatClampNeg) &&& (31 : Int32)) = (21 : Int32) → vp_in (b18_3 + (1 : Int32)) Lx ∧ vp_in (b18_3 + (2 : Int32)) Lx ∧ vp_in (b18_3 + (3 : Int32)) Lx ∧ vp_in (b18_3 + (4 : Int32)) Lx ∧ ∃ fs190 : List Value, Hs X b18_1 (.inr (9, fs190)) ∧ kc ≤ 600000 ∧ ks ≤ 7302249 ∧ wp_X9_draw (fun r185 X184 => vp_in (b18_3 + (1 : Int32)) Lx ∧ vp_in (b18_3 + (2 : Int32)) Lx ∧ vp_in (b18_3 + (3 : Int32)) Lx ∧ vp_in (b18_3 + (4 : Int32)) Lx ∧ ∃ fs189 : List Value, Hs X184 b18_2 (.inr (10, fs189)) ∧ kc ≤ 600000 ∧ ks ≤ 7302249 ∧ wp_X10_draw (fun r187 X186 => (r185 = r187 → bk_L_law_1173 Lx xs (bk_L_law_18 Lx xs k) X186 kc ks b18_1 b18_2 b18_3) ∧ (¬ r185 = r187 → False))  X184 b18_2 (xs (b18_3 + (1 : Int32)).toNatClampNeg) (xs (b18_3 + (2 : Int32)).toNatClampNeg) (xs (b18_3 + (3 : Int32)).toNatClampNeg) (xs (b18_3 + (4 : Int32)).toNatClampNeg))  X b18_1 (xs (b18_3 + (1 : Int32)).toNatClampNeg) (xs (b18_3 + (2 : Int32)).toNatClampNeg) (xs (b18_3 + (3 : Int32)).toNatClampNeg) (xs (b18_3 + (4 : Int32)).toNatClampNeg)) ∧ (((xs b18_3.toNatClampNeg) &&& (31 : Int32)) = (22 : Int32) → vp_in (b18_3 + (1 : Int32)) Lx ∧ ∃ fs198 : List Value, Hs X b18_1 (.inr (9, fs198)) ∧ kc ≤ 600000 ∧ ks ≤ 7302249 ∧ wp_X9_image (fun r193 X192 => vp_in (b18_3 + (1 : Int32)) Lx ∧ ∃ fs197 : List Value, Hs X192 b18_2 (.inr (10, fs197)) ∧ kc ≤ 600000 ∧ ks ≤ 7302249 ∧ wp_X10_image (fun r195 X194 => (r193 = r195 → bk_L_law_1173 Lx xs (bk_L_law_18 Lx xs k) X194 kc ks b18_1 b18_2 b18_3) ∧ (¬ r193 = r195 → False))  X192 b18_2 (xs (b18_3 + (1 : Int32)).toNatClampNeg))  X b18_1 (xs (b18_3 + (1 : Int32)).toNatClampNeg)) ∧ (((xs b18_3.toNatClampNeg) &&& (31 : Int32)) = (23 : Int32) → vp_in (b18_3 + (1 : Int32)) Lx ∧ ∃ fs206 : List Value, Hs X b18_1 (.inr (9, fs206)) ∧ kc ≤ 600000 ∧ ks ≤ 7302249 ∧ wp_X9_restore (fun r201 X200 => vp_in (b18_3 + (1 : Int32)) Lx ∧ ∃ fs205 : List Value, Hs X200 b18_2 (.inr (10, fs205)) ∧ kc ≤ 600000 ∧ ks ≤ 7302249 ∧ wp_X10_restore (fun r203 X202 => (r201 = r203 → bk_L_law_1173 Lx xs (bk_L_law_18 Lx xs k) X202 kc ks b18_1 b18_2 b18_3) ∧ (¬ r201 = r203 → False))  X200 b18_2 (xs (b18_3 + (1 : Int32)).toNatClampNeg))  X b18_1 (xs (b18_3 + (1 : Int32)).toNatClampNeg)) ∧ (((xs b18_3.toNatClampNeg) &&& (31 : Int32)) = (24 : Int32) → vp_in (b18_3 + (1 : Int32)) Lx ∧ ∃ fs212 : List Value, Hs X b18_1 (.inr (9, fs212)) ∧ kc ≤ 600000 ∧ ks ≤ 7302249 ∧ wp_X9_told (fun r208 => vp_in (b18_3 + (1 : Int32)) Lx ∧ ∃ fs211 : List Value, Hs X b18_2 (.inr (10, fs211)) ∧ kc ≤ 600000 ∧ ks ≤ 7302249 ∧ wp_X10_told (fun r209 => (r208 = r209 → bk_L_law_1173 Lx xs (bk_L_law_18 Lx xs k) X kc ks b18_1 b18_2 b18_3) ∧ (¬ r208 = r209 → False))  X b18_2 (xs (b18_3 + (1 : Int32)).toNatClampNeg))  X b18_1 (xs (b18_3 + (1 : Int32)).toNatClampNeg)) ∧ (¬ ((xs b18_3.toNatClampNeg) &&& (31 : Int32)) = (0 : Int32) ∧ ¬ ((xs b18_3.toNatClampNeg) &&& (31 : Int32)) = (1 : Int32) ∧ ¬ ((xs b18_3.toNatClampNeg) &&& (31 : Int32)) = (2 : Int32) ∧ ¬ ((xs b18_3.toNatClampNeg) &&& (31 : Int32)) = (3 : Int32) ∧ ¬ ((xs b18_3.toNatClampNeg) &&& (31 : Int32)) = (4 : Int32) ∧ ¬ ((xs b18_3.toNatClampNeg) &&& (31 : Int32)) = (5 : Int32) ∧ ¬ ((xs b18_3.toNatClampNeg) &&& (31 : Int32)) = (6 : Int32) ∧ ¬ ((xs b18_3.toNatClampNeg) &&& (31 : Int32)) = (7 : Int32) ∧ ¬ ((xs b18_3.toNatClampNeg) &&& (31 : Int32)) = (8 : Int32) ∧ ¬ ((xs b18_3.toNatClampNeg) &&& (31 : Int32)) = (9 : Int32) ∧ ¬ ((xs b18_3.toNatClampNeg) &&& (31 : Int32)) = (10 : Int32) ∧ ¬ ((xs b18_3.toNatClampNeg) &&& (31 : Int32)) = (11 : Int32) ∧ ¬ ((xs b18_3.toNatClampNeg) &&& (31 : Int32)) = (12 : Int32) ∧ ¬ ((xs b18_3.toNatClampNeg) &&& (31 : Int32)) = (13 : Int32) ∧ ¬ ((xs b18_3.toNatClampNeg) &&& (31 : Int32)) = (14 : Int32) ∧ ¬ ((xs b18_3.toNatClampNeg) &&& (31 : Int32)) = (15 : Int32) ∧ ¬ ((xs b18_3.toNatClampNeg) &&& (31 : Int32)) = (16 : Int32) ∧ ¬ ((xs b18_3.toNatClampNeg) &&& (31 : Int32)) = (17 : Int32) ∧ ¬ ((xs b18_3.toNatClampNeg) &&& (31 : Int32)) = (18 : Int32) ∧ ¬ ((xs b18_3.toNatClampNeg) &&& (31 : Int32)) = (19 : Int32) ∧ ¬ ((xs b18_3.toNatClampNeg) &&& (31 : Int32)) = (20 : Int32) ∧ ¬ ((xs b18_3.toNatClampNeg) &&& (31 : Int32)) = (21 : Int32) ∧ ¬ ((xs b18_3.toNatClampNeg) &&& (31 : Int32)) = (22 : Int32) ∧ ¬ ((xs b18_3.toNatClampNeg) &&& (31 : Int32)) = (23 : Int32) ∧ ¬ ((xs b18_3.toNatClampNeg) &&& (31 : Int32)) = (24 : Int32) → bk_L_law_1173 Lx xs (bk_L_law_18 Lx xs k) X kc ks b18_1 b18_2 b18_3))
set_option maxHeartbeats 4000000 in
set_option maxRecDepth 100000 in
def wp_L_law (Lx : Nat) (xs : Nat → Int32) (X : Hp) : Prop := 0 + 1 ≤ 600000 ∧ 0 + 6 ≤ 7302249 ∧ ∀ q1 : Nat, q1 ∉ X.1 → ∀ X2 : Hp, X2 = hadd X q1 (.inr (9, [.null, .null, .null, .null, .null, .null])) → ∃ m3 m4 : Nat, (0 + 1) + m3 ≤ 600000 ∧ (0 + 6) + m4 ≤ 7302249 ∧ wp_X9_init (fun X5 => ((0 + 1) + m3) + 1 ≤ 600000 ∧ ((0 + 6) + m4) + 27 ≤ 7302249 ∧ ∀ q6 : Nat, q6 ∉ X5.1 → ∀ X7 : Hp, X7 = hadd X5 q6 (.inr (10, [.null, .null, .null, .null, .null, .null, .null, .null, .null, .null, .int 0, .null, .null, .null, .int 0, .int 0, .int 0, .int 0, .int 0, .null, .null, .null, .int 0, .null, .null, .int 0, .int 0])) → ∃ m8 m9 : Nat, (((0 + 1) + m3) + 1) + m8 ≤ 600000 ∧ (((0 + 6) + m4) + 27) + m9 ≤ 7302249 ∧ wp_X10_init (fun X10 => ∃ n11 : Nat, bk_L_law_18 Lx xs n11 X10 (((((0 + 1) + m3) + 1) + m8)) (((((0 + 6) + m4) + 27) + m9)) q1 q6 (0 : Int32)) m8 m9 X7 q6) m3 m4 X2 q1
set_option maxHeartbeats 40000000 in
set_option maxRecDepth 100000 in
theorem c_L_law_18 {p : Program} {l : Launch} {e : Env} {s : State} {m : MethodId} {below : List Frame} {meth : Method} {c : Code} {D : va_G} {kA : Nat → ClassId} {v0 Lx : Nat} {xs : Nat → Int32} (G : Gx p s m #[Value.ref v0] c cL_law 4 RL D kA) (hr : meth.sig.returnType = ret) (hlk : meth.locks = false) (hX : va_X v0 Lx xs s s.heap) (hbl : v0 < s.heap.size) : ∀ (n : Nat) (X : Hp) (kc : Nat) (ks : Nat) (b18_1 : Nat) (b18_2 : Nat) (b18_3 : Int32) (H : Heap) (locs : List Loc) (_ : bk_L_law_18 Lx xs n X kc ks b18_1 b18_2 b18_3), Sx D kA (fun q : Nat => s.heap.size ≤ q) s.heap H locs X → ∀ ls, lv_has ls 4 [(0, .ref v0), (1, .ref b18_1), (2, .ref b18_2), (3, .int b18_3)] → W p l e room_1 s m #[Value.ref v0] below meth c H locs kc ks (lw_Z below #[Value.ref v0] s) (F0 m 18 ls []) := by
  obtain ⟨hx, hb, hml, hown, hts, hE, hK⟩ := id G
  have hA : ∀ q : Nat, s.heap.size ≤ q → (fun q : Nat => s.heap.size ≤ q) q := fun _ h => h
  have hbA : ¬ (fun q : Nat => s.heap.size ≤ q) v0 := Nat.not_le.mpr hbl
  intro n
  induction n with
  | zero =>
    intro X kc ks b18_1 b18_2 b18_3 H locs h S ls hl
    rw [bk_L_law_18] at h
    exact h.elim
  | succ n_18 ih_18 =>
    have J_1173 : ∀ (X : Hp) (kc : Nat) (ks : Nat) (b1173_1 : Nat) (b1173_2 : Nat) (b1173_3 : Int32) (H : Heap) (locs : List Loc) (_ : bk_L_law_1173 Lx xs (bk_L_law_18 Lx xs n_18) X kc ks b1173_1 b1173_2 b1173_3), Sx D kA (fun q : Nat => s.heap.size ≤ q) s.heap H locs X → ∀ ls, lv_has ls 4 [(0, .ref v0), (1, .ref b1173_1), (2, .ref b1173_2), (3, .int b1173_3)] → W p l e room_1 s m #[Value.ref v0] below meth c H locs kc ks (lw_Z below #[Value.ref v0] s) (F0 m 1173 ls []) := by
      intro X kc ks b1173_1 b1173_2 b1173_3 H locs h S ls hl
      unfold bk_L_law_1173 at h
      obtain ⟨x213, ex213⟩ : ∃ y : Int32, y = b1173_3 + (6 : Int32) := ⟨_, rfl⟩
      have h := h x213 ex213
      refine lv_iinc (v := x213) (lv' := [(3, .int x213), (0, .ref v0), (1, .ref b1173_1), (2, .ref b1173_2)]) hx hb dL_law_1173 hl (k := 3) rfl (by rw [ex213]; rfl) (by decide) rfl (fun ls hl => ?_)
      refine lv_goto (tgt := 18) hx hb dL_law_1176 (by decide) ?_
      exact ih_18 _ _ _ _ _ _ _ _ h S ls (lv_sub hl [1, 2, 3, 0] rfl)
    intro X kc ks b18_1 b18_2 b18_3 H locs h S ls hl
    rw [bk_L_law_18] at h
    refine lv_iload_n hx hb dL_law_18 rfl (lv_at hl 3 rfl) ?_
    refine lv_aload_n hx hb dL_law_19 rfl (lv_at hl 0 rfl) ?_
    refine va_slen hx hb hX hbl hbA S.2.2 dL_law_20 ?_
    refine lv_bipush (v := (6 : Int32)) hx hb dL_law_21 (by decide) ?_
    refine lv_isub hx hb dL_law_23 ?_
    refine lv_icmp_gt (tgt := 1179) hx hb dL_law_24 (by decide) (fun c12 => ?_) (fun c12 => ?_)
    · have h := h.1 c12
      refine lv_iconst (v := (1 : Int32)) hx hb dL_law_1179 (by decide) ?_
      refine va_forget (fun q hq => S.2.2.2.2 q hq) ?_
      refine W.widen (k := 600000) (n := 7302249) h.1 h.2 ?_
      exact lw_ret hx hb hr hlk dL_law_1180
    · have h := h.2 c12
      refine lv_aload_n hx hb dL_law_27 rfl (lv_at hl 0 rfl) ?_
      refine lv_iload_n hx hb dL_law_28 rfl (lv_at hl 3 rfl) ?_
      have hi := h.1
      have h := h.2
      refine va_sld hx hb hX hbl hbA S.2.2 hi dL_law_29 ?_
      refine lv_bipush (v := (31 : Int32)) hx hb dL_law_30 (by decide) ?_
      refine lv_iand hx hb dL_law_32 ?_
      by_cases c13 : ((xs b18_3.toNatClampNeg) &&& (31 : Int32)) = (0 : Int32)
      · have h := h.1 c13
        refine lv_tableIn (off := 115) (tgt := 148) hx hb dL_law_33 (by rw [c13]; decide) (by rw [c13]; decide) (by rw [c13]; decide) (by decide) ?_
        refine lv_aload_n hx hb dL_law_148 rfl (lv_at hl 1 rfl) ?_
        refine lv_aload_n hx hb dL_law_149 rfl (lv_at hl 0 rfl) ?_
        refine lv_iload_n hx hb dL_law_150 rfl (lv_at hl 3 rfl) ?_
        refine lv_iconst (v := (1 : Int32)) hx hb dL_law_151 (by decide) ?_
        refine lv_iadd hx hb dL_law_152 ?_
        have hi := h.1
        have h := h.2
        refine va_sld hx hb hX hbl hbA S.2.2 hi dL_law_153 ?_
        refine lv_aload_n hx hb dL_law_154 rfl (lv_at hl 0 rfl) ?_
        refine lv_iload_n hx hb dL_law_155 rfl (lv_at hl 3 rfl) ?_
        refine lv_iconst (v := (2 : Int32)) hx hb dL_law_156 (by decide) ?_
        refine lv_iadd hx hb dL_law_157 ?_
        have hi := h.1
        have h := h.2
        refine va_sld hx hb hX hbl hbA S.2.2 hi dL_law_158 ?_
        refine lv_aload_n hx hb dL_law_159 rfl (lv_at hl 0 rfl) ?_
        refine lv_iload_n hx hb dL_law_160 rfl (lv_at hl 3 rfl) ?_
        refine lv_iconst (v := (3 : Int32)) hx hb dL_law_161 (by decide) ?_
        refine lv_iadd hx hb dL_law_162 ?_
        have hi := h.1
        have h := h.2
        refine va_sld hx hb hX hbl hbA S.2.2 hi dL_law_163 ?_
        refine lv_aload_n hx hb dL_law_164 rfl (lv_at hl 0 rfl) ?_
        refine lv_iload_n hx hb dL_law_165 rfl (lv_at hl 3 rfl) ?_
        refine lv_iconst (v := (4 : Int32)) hx hb dL_law_166 (by decide) ?_
        refine lv_iadd hx hb dL_law_167 ?_
        have hi := h.1
        have h := h.2
        refine va_sld hx hb hX hbl hbA S.2.2 hi dL_law_168 ?_
        obtain ⟨fs20, hfs20, h⟩ := h
        obtain ⟨hkc, hks, h⟩ := h
        refine x_cMVi (As := [.int (xs (b18_3 + (1 : Int32)).toNatClampNeg), .int (xs (b18_3 + (2 : Int32)).toNatClampNeg), .int (xs (b18_3 + (3 : Int32)).toNatClampNeg), .int (xs (b18_3 + (4 : Int32)).toNatClampNeg)]) (rest := []) G S hA hfs20 rfl rfl (c_X9_leg l D kA _ _ _ b18_1 (xs (b18_3 + (1 : Int32)).toNatClampNeg) (xs (b18_3 + (2 : Int32)).toNatClampNeg) (xs (b18_3 + (3 : Int32)).toNatClampNeg) (xs (b18_3 + (4 : Int32)).toNatClampNeg) h) cd_X9_leg ml_L_13 ⟨(Nat.le_of_ble_eq_true rfl), (Nat.le_of_ble_eq_true rfl)⟩ rfl hl.1 rfl (Nat.le_of_ble_eq_true rfl) dL_law_169 ⟨hkc, hks⟩ (fun r15 X H locs h S => ?_)
        refine lv_aload_n hx hb dL_law_172 rfl (lv_at hl 2 rfl) ?_
        refine lv_aload_n hx hb dL_law_173 rfl (lv_at hl 0 rfl) ?_
        refine lv_iload_n hx hb dL_law_174 rfl (lv_at hl 3 rfl) ?_
        refine lv_iconst (v := (1 : Int32)) hx hb dL_law_175 (by decide) ?_
        refine lv_iadd hx hb dL_law_176 ?_
        have hi := h.1
        have h := h.2
        refine va_sld hx hb hX hbl hbA S.2.2 hi dL_law_177 ?_
        refine lv_aload_n hx hb dL_law_178 rfl (lv_at hl 0 rfl) ?_
        refine lv_iload_n hx hb dL_law_179 rfl (lv_at hl 3 rfl) ?_
        refine lv_iconst (v := (2 : Int32)) hx hb dL_law_180 (by decide) ?_
        refine lv_iadd hx hb dL_law_181 ?_
        have hi := h.1
        have h := h.2
        refine va_sld hx hb hX hbl hbA S.2.2 hi dL_law_182 ?_
        refine lv_aload_n hx hb dL_law_183 rfl (lv_at hl 0 rfl) ?_
        refine lv_iload_n hx hb dL_law_184 rfl (lv_at hl 3 rfl) ?_
        refine lv_iconst (v := (3 : Int32)) hx hb dL_law_185 (by decide) ?_
        refine lv_iadd hx hb dL_law_186 ?_
        have hi := h.1
        have h := h.2
        refine va_sld hx hb hX hbl hbA S.2.2 hi dL_law_187 ?_
        refine lv_aload_n hx hb dL_law_188 rfl (lv_at hl 0 rfl) ?_
        refine lv_iload_n hx hb dL_law_189 rfl (lv_at hl 3 rfl) ?_
        refine lv_iconst (v := (4 : Int32)) hx hb dL_law_190 (by decide) ?_
        refine lv_iadd hx hb dL_law_191 ?_
        have hi := h.1
        have h := h.2
        refine va_sld hx hb hX hbl hbA S.2.2 hi dL_law_192 ?_
        obtain ⟨fs19, hfs19, h⟩ := h
        obtain ⟨hkc, hks, h⟩ := h
        refine x_cMVi (As := [.int (xs (b18_3 + (1 : Int32)).toNatClampNeg), .int (xs (b18_3 + (2 : Int32)).toNatClampNeg), .int (xs (b18_3 + (3 : Int32)).toNatClampNeg), .int (xs (b18_3 + (4 : Int32)).toNatClampNeg)]) (rest := [.int r15]) G S hA hfs19 rfl rfl (c_X10_leg l D kA _ _ _ b18_2 (xs (b18_3 + (1 : Int32)).toNatClampNeg) (xs (b18_3 + (2 : Int32)).toNatClampNeg) (xs (b18_3 + (3 : Int32)).toNatClampNeg) (xs (b18_3 + (4 : Int32)).toNatClampNeg) h) cd_X10_leg ml_L_17 ⟨(Nat.le_of_ble_eq_true rfl), (Nat.le_of_ble_eq_true rfl)⟩ rfl hl.1 rfl (Nat.le_of_ble_eq_true rfl) dL_law_193 ⟨hkc, hks⟩ (fun r17 X H locs h S => ?_)
        refine lv_icmp_eq (tgt := 1173) hx hb dL_law_196 (by decide) (fun c18 => ?_) (fun c18 => ?_)
        · have h := h.1 c18
          exact J_1173 _ _ _ _ _ _ _ _ h S ls (lv_sub hl [0, 1, 2, 3] rfl)
        · have h := h.2 c18
          refine lv_iconst (v := (0 : Int32)) hx hb dL_law_199 (by decide) ?_
          exact h.elim
      have h := h.2
      by_cases c21 : ((xs b18_3.toNatClampNeg) &&& (31 : Int32)) = (1 : Int32)
      · have h := h.1 c21
        refine lv_tableIn (off := 168) (tgt := 201) hx hb dL_law_33 (by rw [c21]; decide) (by rw [c21]; decide) (by rw [c21]; decide) (by decide) ?_
        refine lv_aload_n hx hb dL_law_201 rfl (lv_at hl 1 rfl) ?_
        refine lv_aload_n hx hb dL_law_202 rfl (lv_at hl 0 rfl) ?_
        refine lv_iload_n hx hb dL_law_203 rfl (lv_at hl 3 rfl) ?_
        refine lv_iconst (v := (1 : Int32)) hx hb dL_law_204 (by decide) ?_
        refine lv_iadd hx hb dL_law_205 ?_
        have hi := h.1
        have h := h.2
        refine va_sld hx hb hX hbl hbA S.2.2 hi dL_law_206 ?_
        obtain ⟨fs28, hfs28, h⟩ := h
        obtain ⟨hkc, hks, h⟩ := h
        refine x_cMVi (As := [.int (xs (b18_3 + (1 : Int32)).toNatClampNeg)]) (rest := []) G S hA hfs28 rfl rfl (c_X9_cut l D kA _ _ _ b18_1 (xs (b18_3 + (1 : Int32)).toNatClampNeg) h) cd_X9_cut ml_L_18 ⟨(Nat.le_of_ble_eq_true rfl), (Nat.le_of_ble_eq_true rfl)⟩ rfl hl.1 rfl (Nat.le_of_ble_eq_true rfl) dL_law_207 ⟨hkc, hks⟩ (fun r23 X H locs h S => ?_)
        refine lv_aload_n hx hb dL_law_210 rfl (lv_at hl 2 rfl) ?_
        refine lv_aload_n hx hb dL_law_211 rfl (lv_at hl 0 rfl) ?_
        refine lv_iload_n hx hb dL_law_212 rfl (lv_at hl 3 rfl) ?_
        refine lv_iconst (v := (1 : Int32)) hx hb dL_law_213 (by decide) ?_
        refine lv_iadd hx hb dL_law_214 ?_
        have hi := h.1
        have h := h.2
        refine va_sld hx hb hX hbl hbA S.2.2 hi dL_law_215 ?_
        obtain ⟨fs27, hfs27, h⟩ := h
        obtain ⟨hkc, hks, h⟩ := h
        refine x_cMVi (As := [.int (xs (b18_3 + (1 : Int32)).toNatClampNeg)]) (rest := [.int r23]) G S hA hfs27 rfl rfl (c_X10_cut l D kA _ _ _ b18_2 (xs (b18_3 + (1 : Int32)).toNatClampNeg) h) cd_X10_cut ml_L_22 ⟨(Nat.le_of_ble_eq_true rfl), (Nat.le_of_ble_eq_true rfl)⟩ rfl hl.1 rfl (Nat.le_of_ble_eq_true rfl) dL_law_216 ⟨hkc, hks⟩ (fun r25 X H locs h S => ?_)
        refine lv_icmp_eq (tgt := 1173) hx hb dL_law_219 (by decide) (fun c26 => ?_) (fun c26 => ?_)
        · have h := h.1 c26
          exact J_1173 _ _ _ _ _ _ _ _ h S ls (lv_sub hl [0, 1, 2, 3] rfl)
        · have h := h.2 c26
          refine lv_iconst (v := (0 : Int32)) hx hb dL_law_222 (by decide) ?_
          exact h.elim
      have h := h.2
      by_cases c29 : ((xs b18_3.toNatClampNeg) &&& (31 : Int32)) = (2 : Int32)
      · have h := h.1 c29
        refine lv_tableIn (off := 191) (tgt := 224) hx hb dL_law_33 (by rw [c29]; decide) (by rw [c29]; decide) (by rw [c29]; decide) (by decide) ?_
        refine lv_aload_n hx hb dL_law_224 rfl (lv_at hl 1 rfl) ?_
        refine lv_aload_n hx hb dL_law_225 rfl (lv_at hl 0 rfl) ?_
        refine lv_iload_n hx hb dL_law_226 rfl (lv_at hl 3 rfl) ?_
        refine lv_iconst (v := (1 : Int32)) hx hb dL_law_227 (by decide) ?_
        refine lv_iadd hx hb dL_law_228 ?_
        have hi := h.1
        have h := h.2
        refine va_sld hx hb hX hbl hbA S.2.2 hi dL_law_229 ?_
        refine lv_aload_n hx hb dL_law_230 rfl (lv_at hl 0 rfl) ?_
        refine lv_iload_n hx hb dL_law_231 rfl (lv_at hl 3 rfl) ?_
        refine lv_iconst (v := (2 : Int32)) hx hb dL_law_232 (by decide) ?_
        refine lv_iadd hx hb dL_law_233 ?_
        have hi := h.1
        have h := h.2
        refine va_sld hx hb hX hbl hbA S.2.2 hi dL_law_234 ?_
        refine lv_aload_n hx hb dL_law_235 rfl (lv_at hl 0 rfl) ?_
        refine lv_iload_n hx hb dL_law_236 rfl (lv_at hl 3 rfl) ?_
        refine lv_iconst (v := (3 : Int32)) hx hb dL_law_237 (by decide) ?_
        refine lv_iadd hx hb dL_law_238 ?_
        have hi := h.1
        have h := h.2
        refine va_sld hx hb hX hbl hbA S.2.2 hi dL_law_239 ?_
        obtain ⟨fs34, hfs34, h⟩ := h
        obtain ⟨hkc, hks, h⟩ := h
        refine x_cRVi (As := [.int (xs (b18_3 + (1 : Int32)).toNatClampNeg), .int (xs (b18_3 + (2 : Int32)).toNatClampNeg), .int (xs (b18_3 + (3 : Int32)).toNatClampNeg)]) (rest := []) G S.1 hfs34 rfl rfl (c_X9_about l D kA _ _ b18_1 (xs (b18_3 + (1 : Int32)).toNatClampNeg) (xs (b18_3 + (2 : Int32)).toNatClampNeg) (xs (b18_3 + (3 : Int32)).toNatClampNeg) h) cd_X9_about ml_L_23 ⟨(Nat.le_of_ble_eq_true rfl), (Nat.le_of_ble_eq_true rfl)⟩ rfl hl.1 rfl (Nat.le_of_ble_eq_true rfl) dL_law_240 ⟨hkc, hks⟩ (fun r30 h => ?_)
        refine lv_aload_n hx hb dL_law_243 rfl (lv_at hl 2 rfl) ?_
        refine lv_aload_n hx hb dL_law_244 rfl (lv_at hl 0 rfl) ?_
        refine lv_iload_n hx hb dL_law_245 rfl (lv_at hl 3 rfl) ?_
        refine lv_iconst (v := (1 : Int32)) hx hb dL_law_246 (by decide) ?_
        refine lv_iadd hx hb dL_law_247 ?_
        have hi := h.1
        have h := h.2
        refine va_sld hx hb hX hbl hbA S.2.2 hi dL_law_248 ?_
        refine lv_aload_n hx hb dL_law_249 rfl (lv_at hl 0 rfl) ?_
        refine lv_iload_n hx hb dL_law_250 rfl (lv_at hl 3 rfl) ?_
        refine lv_iconst (v := (2 : Int32)) hx hb dL_law_251 (by decide) ?_
        refine lv_iadd hx hb dL_law_252 ?_
        have hi := h.1
        have h := h.2
        refine va_sld hx hb hX hbl hbA S.2.2 hi dL_law_253 ?_
        refine lv_aload_n hx hb dL_law_254 rfl (lv_at hl 0 rfl) ?_
        refine lv_iload_n hx hb dL_law_255 rfl (lv_at hl 3 rfl) ?_
        refine lv_iconst (v := (3 : Int32)) hx hb dL_law_256 (by decide) ?_
        refine lv_iadd hx hb dL_law_257 ?_
        have hi := h.1
        have h := h.2
        refine va_sld hx hb hX hbl hbA S.2.2 hi dL_law_258 ?_
        obtain ⟨fs33, hfs33, h⟩ := h
        obtain ⟨hkc, hks, h⟩ := h
        refine x_cRVi (As := [.int (xs (b18_3 + (1 : Int32)).toNatClampNeg), .int (xs (b18_3 + (2 : Int32)).toNatClampNeg), .int (xs (b18_3 + (3 : Int32)).toNatClampNeg)]) (rest := [.int r30]) G S.1 hfs33 rfl rfl (c_X10_about l D kA _ _ b18_2 (xs (b18_3 + (1 : Int32)).toNatClampNeg) (xs (b18_3 + (2 : Int32)).toNatClampNeg) (xs (b18_3 + (3 : Int32)).toNatClampNeg) h) cd_X10_about ml_L_27 ⟨(Nat.le_of_ble_eq_true rfl), (Nat.le_of_ble_eq_true rfl)⟩ rfl hl.1 rfl (Nat.le_of_ble_eq_true rfl) dL_law_259 ⟨hkc, hks⟩ (fun r31 h => ?_)
        refine lv_icmp_eq (tgt := 1173) hx hb dL_law_262 (by decide) (fun c32 => ?_) (fun c32 => ?_)
        · have h := h.1 c32
          exact J_1173 _ _ _ _ _ _ _ _ h S ls (lv_sub hl [0, 1, 2, 3] rfl)
        · have h := h.2 c32
          refine lv_iconst (v := (0 : Int32)) hx hb dL_law_265 (by decide) ?_
          exact h.elim
      have h := h.2
      by_cases c35 : ((xs b18_3.toNatClampNeg) &&& (31 : Int32)) = (3 : Int32)
      · have h := h.1 c35
        refine lv_tableIn (off := 234) (tgt := 267) hx hb dL_law_33 (by rw [c35]; decide) (by rw [c35]; decide) (by rw [c35]; decide) (by decide) ?_
        refine lv_aload_n hx hb dL_law_267 rfl (lv_at hl 1 rfl) ?_
        refine lv_aload_n hx hb dL_law_268 rfl (lv_at hl 0 rfl) ?_
        refine lv_iload_n hx hb dL_law_269 rfl (lv_at hl 3 rfl) ?_
        refine lv_iconst (v := (1 : Int32)) hx hb dL_law_270 (by decide) ?_
        refine lv_iadd hx hb dL_law_271 ?_
        have hi := h.1
        have h := h.2
        refine va_sld hx hb hX hbl hbA S.2.2 hi dL_law_272 ?_
        refine lv_aload_n hx hb dL_law_273 rfl (lv_at hl 0 rfl) ?_
        refine lv_iload_n hx hb dL_law_274 rfl (lv_at hl 3 rfl) ?_
        refine lv_iconst (v := (2 : Int32)) hx hb dL_law_275 (by decide) ?_
        refine lv_iadd hx hb dL_law_276 ?_
        have hi := h.1
        have h := h.2
        refine va_sld hx hb hX hbl hbA S.2.2 hi dL_law_277 ?_
        refine lv_aload_n hx hb dL_law_278 rfl (lv_at hl 0 rfl) ?_
        refine lv_iload_n hx hb dL_law_279 rfl (lv_at hl 3 rfl) ?_
        refine lv_iconst (v := (3 : Int32)) hx hb dL_law_280 (by decide) ?_
        refine lv_iadd hx hb dL_law_281 ?_
        have hi := h.1
        have h := h.2
        refine va_sld hx hb hX hbl hbA S.2.2 hi dL_law_282 ?_
        obtain ⟨fs42, hfs42, h⟩ := h
        obtain ⟨hkc, hks, h⟩ := h
        refine x_cMVi (As := [.int (xs (b18_3 + (1 : Int32)).toNatClampNeg), .int (xs (b18_3 + (2 : Int32)).toNatClampNeg), .int (xs (b18_3 + (3 : Int32)).toNatClampNeg)]) (rest := []) G S hA hfs42 rfl rfl (c_X9_nap l D kA _ _ _ b18_1 (xs (b18_3 + (1 : Int32)).toNatClampNeg) (xs (b18_3 + (2 : Int32)).toNatClampNeg) (xs (b18_3 + (3 : Int32)).toNatClampNeg) h) cd_X9_nap ml_L_28 ⟨(Nat.le_of_ble_eq_true rfl), (Nat.le_of_ble_eq_true rfl)⟩ rfl hl.1 rfl (Nat.le_of_ble_eq_true rfl) dL_law_283 ⟨hkc, hks⟩ (fun r37 X H locs h S => ?_)
        refine lv_aload_n hx hb dL_law_286 rfl (lv_at hl 2 rfl) ?_
        refine lv_aload_n hx hb dL_law_287 rfl (lv_at hl 0 rfl) ?_
        refine lv_iload_n hx hb dL_law_288 rfl (lv_at hl 3 rfl) ?_
        refine lv_iconst (v := (1 : Int32)) hx hb dL_law_289 (by decide) ?_
        refine lv_iadd hx hb dL_law_290 ?_
        have hi := h.1
        have h := h.2
        refine va_sld hx hb hX hbl hbA S.2.2 hi dL_law_291 ?_
        refine lv_aload_n hx hb dL_law_292 rfl (lv_at hl 0 rfl) ?_
        refine lv_iload_n hx hb dL_law_293 rfl (lv_at hl 3 rfl) ?_
        refine lv_iconst (v := (2 : Int32)) hx hb dL_law_294 (by decide) ?_
        refine lv_iadd hx hb dL_law_295 ?_
        have hi := h.1
        have h := h.2
        refine va_sld hx hb hX hbl hbA S.2.2 hi dL_law_296 ?_
        refine lv_aload_n hx hb dL_law_297 rfl (lv_at hl 0 rfl) ?_
        refine lv_iload_n hx hb dL_law_298 rfl (lv_at hl 3 rfl) ?_
        refine lv_iconst (v := (3 : Int32)) hx hb dL_law_299 (by decide) ?_
        refine lv_iadd hx hb dL_law_300 ?_
        have hi := h.1
        have h := h.2
        refine va_sld hx hb hX hbl hbA S.2.2 hi dL_law_301 ?_
        obtain ⟨fs41, hfs41, h⟩ := h
        obtain ⟨hkc, hks, h⟩ := h
        refine x_cMVi (As := [.int (xs (b18_3 + (1 : Int32)).toNatClampNeg), .int (xs (b18_3 + (2 : Int32)).toNatClampNeg), .int (xs (b18_3 + (3 : Int32)).toNatClampNeg)]) (rest := [.int r37]) G S hA hfs41 rfl rfl (c_X10_nap l D kA _ _ _ b18_2 (xs (b18_3 + (1 : Int32)).toNatClampNeg) (xs (b18_3 + (2 : Int32)).toNatClampNeg) (xs (b18_3 + (3 : Int32)).toNatClampNeg) h) cd_X10_nap ml_L_31 ⟨(Nat.le_of_ble_eq_true rfl), (Nat.le_of_ble_eq_true rfl)⟩ rfl hl.1 rfl (Nat.le_of_ble_eq_true rfl) dL_law_302 ⟨hkc, hks⟩ (fun r39 X H locs h S => ?_)
        refine lv_icmp_eq (tgt := 1173) hx hb dL_law_305 (by decide) (fun c40 => ?_) (fun c40 => ?_)
        · have h := h.1 c40
          exact J_1173 _ _ _ _ _ _ _ _ h S ls (lv_sub hl [0, 1, 2, 3] rfl)
        · have h := h.2 c40
          refine lv_iconst (v := (0 : Int32)) hx hb dL_law_308 (by decide) ?_
          exact h.elim
      have h := h.2
      by_cases c43 : ((xs b18_3.toNatClampNeg) &&& (31 : Int32)) = (4 : Int32)
      · have h := h.1 c43
        refine lv_tableIn (off := 277) (tgt := 310) hx hb dL_law_33 (by rw [c43]; decide) (by rw [c43]; decide) (by rw [c43]; decide) (by decide) ?_
        refine lv_aload_n hx hb dL_law_310 rfl (lv_at hl 1 rfl) ?_
        refine lv_aload_n hx hb dL_law_311 rfl (lv_at hl 0 rfl) ?_
        refine lv_iload_n hx hb dL_law_312 rfl (lv_at hl 3 rfl) ?_
        refine lv_iconst (v := (1 : Int32)) hx hb dL_law_313 (by decide) ?_
        refine lv_iadd hx hb dL_law_314 ?_
        have hi := h.1
        have h := h.2
        refine va_sld hx hb hX hbl hbA S.2.2 hi dL_law_315 ?_
        refine lv_aload_n hx hb dL_law_316 rfl (lv_at hl 0 rfl) ?_
        refine lv_iload_n hx hb dL_law_317 rfl (lv_at hl 3 rfl) ?_
        refine lv_iconst (v := (2 : Int32)) hx hb dL_law_318 (by decide) ?_
        refine lv_iadd hx hb dL_law_319 ?_
        have hi := h.1
        have h := h.2
        refine va_sld hx hb hX hbl hbA S.2.2 hi dL_law_320 ?_
        refine lv_aload_n hx hb dL_law_321 rfl (lv_at hl 0 rfl) ?_
        refine lv_iload_n hx hb dL_law_322 rfl (lv_at hl 3 rfl) ?_
        refine lv_iconst (v := (3 : Int32)) hx hb dL_law_323 (by decide) ?_
        refine lv_iadd hx hb dL_law_324 ?_
        have hi := h.1
        have h := h.2
        refine va_sld hx hb hX hbl hbA S.2.2 hi dL_law_325 ?_
        refine lv_aload_n hx hb dL_law_326 rfl (lv_at hl 0 rfl) ?_
        refine lv_iload_n hx hb dL_law_327 rfl (lv_at hl 3 rfl) ?_
        refine lv_iconst (v := (4 : Int32)) hx hb dL_law_328 (by decide) ?_
        refine lv_iadd hx hb dL_law_329 ?_
        have hi := h.1
        have h := h.2
        refine va_sld hx hb hX hbl hbA S.2.2 hi dL_law_330 ?_
        obtain ⟨fs48, hfs48, h⟩ := h
        obtain ⟨hkc, hks, h⟩ := h
        refine x_cRVi (As := [.int (xs (b18_3 + (1 : Int32)).toNatClampNeg), .int (xs (b18_3 + (2 : Int32)).toNatClampNeg), .int (xs (b18_3 + (3 : Int32)).toNatClampNeg), .int (xs (b18_3 + (4 : Int32)).toNatClampNeg)]) (rest := []) G S.1 hfs48 rfl rfl (c_X9_owed l D kA _ _ b18_1 (xs (b18_3 + (1 : Int32)).toNatClampNeg) (xs (b18_3 + (2 : Int32)).toNatClampNeg) (xs (b18_3 + (3 : Int32)).toNatClampNeg) (xs (b18_3 + (4 : Int32)).toNatClampNeg) h) cd_X9_owed ml_L_32 ⟨(Nat.le_of_ble_eq_true rfl), (Nat.le_of_ble_eq_true rfl)⟩ rfl hl.1 rfl (Nat.le_of_ble_eq_true rfl) dL_law_331 ⟨hkc, hks⟩ (fun r44 h => ?_)
        refine lv_aload_n hx hb dL_law_334 rfl (lv_at hl 2 rfl) ?_
        refine lv_aload_n hx hb dL_law_335 rfl (lv_at hl 0 rfl) ?_
        refine lv_iload_n hx hb dL_law_336 rfl (lv_at hl 3 rfl) ?_
        refine lv_iconst (v := (1 : Int32)) hx hb dL_law_337 (by decide) ?_
        refine lv_iadd hx hb dL_law_338 ?_
        have hi := h.1
        have h := h.2
        refine va_sld hx hb hX hbl hbA S.2.2 hi dL_law_339 ?_
        refine lv_aload_n hx hb dL_law_340 rfl (lv_at hl 0 rfl) ?_
        refine lv_iload_n hx hb dL_law_341 rfl (lv_at hl 3 rfl) ?_
        refine lv_iconst (v := (2 : Int32)) hx hb dL_law_342 (by decide) ?_
        refine lv_iadd hx hb dL_law_343 ?_
        have hi := h.1
        have h := h.2
        refine va_sld hx hb hX hbl hbA S.2.2 hi dL_law_344 ?_
        refine lv_aload_n hx hb dL_law_345 rfl (lv_at hl 0 rfl) ?_
        refine lv_iload_n hx hb dL_law_346 rfl (lv_at hl 3 rfl) ?_
        refine lv_iconst (v := (3 : Int32)) hx hb dL_law_347 (by decide) ?_
        refine lv_iadd hx hb dL_law_348 ?_
        have hi := h.1
        have h := h.2
        refine va_sld hx hb hX hbl hbA S.2.2 hi dL_law_349 ?_
        refine lv_aload_n hx hb dL_law_350 rfl (lv_at hl 0 rfl) ?_
        refine lv_iload_n hx hb dL_law_351 rfl (lv_at hl 3 rfl) ?_
        refine lv_iconst (v := (4 : Int32)) hx hb dL_law_352 (by decide) ?_
        refine lv_iadd hx hb dL_law_353 ?_
        have hi := h.1
        have h := h.2
        refine va_sld hx hb hX hbl hbA S.2.2 hi dL_law_354 ?_
        obtain ⟨fs47, hfs47, h⟩ := h
        obtain ⟨hkc, hks, h⟩ := h
        refine x_cRVi (As := [.int (xs (b18_3 + (1 : Int32)).toNatClampNeg), .int (xs (b18_3 + (2 : Int32)).toNatClampNeg), .int (xs (b18_3 + (3 : Int32)).toNatClampNeg), .int (xs (b18_3 + (4 : Int32)).toNatClampNeg)]) (rest := [.int r44]) G S.1 hfs47 rfl rfl (c_X10_owed l D kA _ _ b18_2 (xs (b18_3 + (1 : Int32)).toNatClampNeg) (xs (b18_3 + (2 : Int32)).toNatClampNeg) (xs (b18_3 + (3 : Int32)).toNatClampNeg) (xs (b18_3 + (4 : Int32)).toNatClampNeg) h) cd_X10_owed ml_L_35 ⟨(Nat.le_of_ble_eq_true rfl), (Nat.le_of_ble_eq_true rfl)⟩ rfl hl.1 rfl (Nat.le_of_ble_eq_true rfl) dL_law_355 ⟨hkc, hks⟩ (fun r45 h => ?_)
        refine lv_icmp_eq (tgt := 1173) hx hb dL_law_358 (by decide) (fun c46 => ?_) (fun c46 => ?_)
        · have h := h.1 c46
          exact J_1173 _ _ _ _ _ _ _ _ h S ls (lv_sub hl [0, 1, 2, 3] rfl)
        · have h := h.2 c46
          refine lv_iconst (v := (0 : Int32)) hx hb dL_law_361 (by decide) ?_
          exact h.elim
      have h := h.2
      by_cases c49 : ((xs b18_3.toNatClampNeg) &&& (31 : Int32)) = (5 : Int32)
      · have h := h.1 c49
        refine lv_tableIn (off := 330) (tgt := 363) hx hb dL_law_33 (by rw [c49]; decide) (by rw [c49]; decide) (by rw [c49]; decide) (by decide) ?_
        refine lv_aload_n hx hb dL_law_363 rfl (lv_at hl 1 rfl) ?_
        refine lv_aload_n hx hb dL_law_364 rfl (lv_at hl 0 rfl) ?_
        refine lv_iload_n hx hb dL_law_365 rfl (lv_at hl 3 rfl) ?_
        refine lv_iconst (v := (1 : Int32)) hx hb dL_law_366 (by decide) ?_
        refine lv_iadd hx hb dL_law_367 ?_
        have hi := h.1
        have h := h.2
        refine va_sld hx hb hX hbl hbA S.2.2 hi dL_law_368 ?_
        refine lv_aload_n hx hb dL_law_369 rfl (lv_at hl 0 rfl) ?_
        refine lv_iload_n hx hb dL_law_370 rfl (lv_at hl 3 rfl) ?_
        refine lv_iconst (v := (2 : Int32)) hx hb dL_law_371 (by decide) ?_
        refine lv_iadd hx hb dL_law_372 ?_
        have hi := h.1
        have h := h.2
        refine va_sld hx hb hX hbl hbA S.2.2 hi dL_law_373 ?_
        refine lv_aload_n hx hb dL_law_374 rfl (lv_at hl 0 rfl) ?_
        refine lv_iload_n hx hb dL_law_375 rfl (lv_at hl 3 rfl) ?_
        refine lv_iconst (v := (3 : Int32)) hx hb dL_law_376 (by decide) ?_
        refine lv_iadd hx hb dL_law_377 ?_
        have hi := h.1
        have h := h.2
        refine va_sld hx hb hX hbl hbA S.2.2 hi dL_law_378 ?_
        refine lv_aload_n hx hb dL_law_379 rfl (lv_at hl 0 rfl) ?_
        refine lv_iload_n hx hb dL_law_380 rfl (lv_at hl 3 rfl) ?_
        refine lv_iconst (v := (4 : Int32)) hx hb dL_law_381 (by decide) ?_
        refine lv_iadd hx hb dL_law_382 ?_
        have hi := h.1
        have h := h.2
        refine va_sld hx hb hX hbl hbA S.2.2 hi dL_law_383 ?_
        refine lv_aload_n hx hb dL_law_384 rfl (lv_at hl 0 rfl) ?_
        refine lv_iload_n hx hb dL_law_385 rfl (lv_at hl 3 rfl) ?_
        refine lv_iconst (v := (5 : Int32)) hx hb dL_law_386 (by decide) ?_
        refine lv_iadd hx hb dL_law_387 ?_
        have hi := h.1
        have h := h.2
        refine va_sld hx hb hX hbl hbA S.2.2 hi dL_law_388 ?_
        obtain ⟨fs54, hfs54, h⟩ := h
        obtain ⟨hkc, hks, h⟩ := h
        refine x_cRVi (As := [.int (xs (b18_3 + (1 : Int32)).toNatClampNeg), .int (xs (b18_3 + (2 : Int32)).toNatClampNeg), .int (xs (b18_3 + (3 : Int32)).toNatClampNeg), .int (xs (b18_3 + (4 : Int32)).toNatClampNeg), .int (xs (b18_3 + (5 : Int32)).toNatClampNeg)]) (rest := []) G S.1 hfs54 rfl rfl (c_X9_risk l D kA _ _ b18_1 (xs (b18_3 + (1 : Int32)).toNatClampNeg) (xs (b18_3 + (2 : Int32)).toNatClampNeg) (xs (b18_3 + (3 : Int32)).toNatClampNeg) (xs (b18_3 + (4 : Int32)).toNatClampNeg) (xs (b18_3 + (5 : Int32)).toNatClampNeg) h) cd_X9_risk ml_L_36 ⟨(Nat.le_of_ble_eq_true rfl), (Nat.le_of_ble_eq_true rfl)⟩ rfl hl.1 rfl (Nat.le_of_ble_eq_true rfl) dL_law_389 ⟨hkc, hks⟩ (fun r50 h => ?_)
        refine lv_aload_n hx hb dL_law_392 rfl (lv_at hl 2 rfl) ?_
        refine lv_aload_n hx hb dL_law_393 rfl (lv_at hl 0 rfl) ?_
        refine lv_iload_n hx hb dL_law_394 rfl (lv_at hl 3 rfl) ?_
        refine lv_iconst (v := (1 : Int32)) hx hb dL_law_395 (by decide) ?_
        refine lv_iadd hx hb dL_law_396 ?_
        have hi := h.1
        have h := h.2
        refine va_sld hx hb hX hbl hbA S.2.2 hi dL_law_397 ?_
        refine lv_aload_n hx hb dL_law_398 rfl (lv_at hl 0 rfl) ?_
        refine lv_iload_n hx hb dL_law_399 rfl (lv_at hl 3 rfl) ?_
        refine lv_iconst (v := (2 : Int32)) hx hb dL_law_400 (by decide) ?_
        refine lv_iadd hx hb dL_law_401 ?_
        have hi := h.1
        have h := h.2
        refine va_sld hx hb hX hbl hbA S.2.2 hi dL_law_402 ?_
        refine lv_aload_n hx hb dL_law_403 rfl (lv_at hl 0 rfl) ?_
        refine lv_iload_n hx hb dL_law_404 rfl (lv_at hl 3 rfl) ?_
        refine lv_iconst (v := (3 : Int32)) hx hb dL_law_405 (by decide) ?_
        refine lv_iadd hx hb dL_law_406 ?_
        have hi := h.1
        have h := h.2
        refine va_sld hx hb hX hbl hbA S.2.2 hi dL_law_407 ?_
        refine lv_aload_n hx hb dL_law_408 rfl (lv_at hl 0 rfl) ?_
        refine lv_iload_n hx hb dL_law_409 rfl (lv_at hl 3 rfl) ?_
        refine lv_iconst (v := (4 : Int32)) hx hb dL_law_410 (by decide) ?_
        refine lv_iadd hx hb dL_law_411 ?_
        have hi := h.1
        have h := h.2
        refine va_sld hx hb hX hbl hbA S.2.2 hi dL_law_412 ?_
        refine lv_aload_n hx hb dL_law_413 rfl (lv_at hl 0 rfl) ?_
        refine lv_iload_n hx hb dL_law_414 rfl (lv_at hl 3 rfl) ?_
        refine lv_iconst (v := (5 : Int32)) hx hb dL_law_415 (by decide) ?_
        refine lv_iadd hx hb dL_law_416 ?_
        have hi := h.1
        have h := h.2
        refine va_sld hx hb hX hbl hbA S.2.2 hi dL_law_417 ?_
        obtain ⟨fs53, hfs53, h⟩ := h
        obtain ⟨hkc, hks, h⟩ := h
        refine x_cRVi (As := [.int (xs (b18_3 + (1 : Int32)).toNatClampNeg), .int (xs (b18_3 + (2 : Int32)).toNatClampNeg), .int (xs (b18_3 + (3 : Int32)).toNatClampNeg), .int (xs (b18_3 + (4 : Int32)).toNatClampNeg), .int (xs (b18_3 + (5 : Int32)).toNatClampNeg)]) (rest := [.int r50]) G S.1 hfs53 rfl rfl (c_X10_risk l D kA _ _ b18_2 (xs (b18_3 + (1 : Int32)).toNatClampNeg) (xs (b18_3 + (2 : Int32)).toNatClampNeg) (xs (b18_3 + (3 : Int32)).toNatClampNeg) (xs (b18_3 + (4 : Int32)).toNatClampNeg) (xs (b18_3 + (5 : Int32)).toNatClampNeg) h) cd_X10_risk ml_L_40 ⟨(Nat.le_of_ble_eq_true rfl), (Nat.le_of_ble_eq_true rfl)⟩ rfl hl.1 rfl (Nat.le_of_ble_eq_true rfl) dL_law_418 ⟨hkc, hks⟩ (fun r51 h => ?_)
        refine lv_icmp_eq (tgt := 1173) hx hb dL_law_421 (by decide) (fun c52 => ?_) (fun c52 => ?_)
        · have h := h.1 c52
          exact J_1173 _ _ _ _ _ _ _ _ h S ls (lv_sub hl [0, 1, 2, 3] rfl)
        · have h := h.2 c52
          refine lv_iconst (v := (0 : Int32)) hx hb dL_law_424 (by decide) ?_
          exact h.elim
      have h := h.2
      by_cases c55 : ((xs b18_3.toNatClampNeg) &&& (31 : Int32)) = (6 : Int32)
      · have h := h.1 c55
        refine lv_tableIn (off := 393) (tgt := 426) hx hb dL_law_33 (by rw [c55]; decide) (by rw [c55]; decide) (by rw [c55]; decide) (by decide) ?_
        refine lv_aload_n hx hb dL_law_426 rfl (lv_at hl 1 rfl) ?_
        refine lv_aload_n hx hb dL_law_427 rfl (lv_at hl 0 rfl) ?_
        refine lv_iload_n hx hb dL_law_428 rfl (lv_at hl 3 rfl) ?_
        refine lv_iconst (v := (1 : Int32)) hx hb dL_law_429 (by decide) ?_
        refine lv_iadd hx hb dL_law_430 ?_
        have hi := h.1
        have h := h.2
        refine va_sld hx hb hX hbl hbA S.2.2 hi dL_law_431 ?_
        obtain ⟨fs62, hfs62, h⟩ := h
        obtain ⟨hkc, hks, h⟩ := h
        refine x_cMVi (As := [.int (xs (b18_3 + (1 : Int32)).toNatClampNeg)]) (rest := []) G S hA hfs62 rfl rfl (c_X9_say l D kA _ _ _ b18_1 (xs (b18_3 + (1 : Int32)).toNatClampNeg) h) cd_X9_say ml_L_41 ⟨(Nat.le_of_ble_eq_true rfl), (Nat.le_of_ble_eq_true rfl)⟩ rfl hl.1 rfl (Nat.le_of_ble_eq_true rfl) dL_law_432 ⟨hkc, hks⟩ (fun r57 X H locs h S => ?_)
        refine lv_aload_n hx hb dL_law_435 rfl (lv_at hl 2 rfl) ?_
        refine lv_aload_n hx hb dL_law_436 rfl (lv_at hl 0 rfl) ?_
        refine lv_iload_n hx hb dL_law_437 rfl (lv_at hl 3 rfl) ?_
        refine lv_iconst (v := (1 : Int32)) hx hb dL_law_438 (by decide) ?_
        refine lv_iadd hx hb dL_law_439 ?_
        have hi := h.1
        have h := h.2
        refine va_sld hx hb hX hbl hbA S.2.2 hi dL_law_440 ?_
        obtain ⟨fs61, hfs61, h⟩ := h
        obtain ⟨hkc, hks, h⟩ := h
        refine x_cMVi (As := [.int (xs (b18_3 + (1 : Int32)).toNatClampNeg)]) (rest := [.int r57]) G S hA hfs61 rfl rfl (c_X10_say l D kA _ _ _ b18_2 (xs (b18_3 + (1 : Int32)).toNatClampNeg) h) cd_X10_say ml_L_44 ⟨(Nat.le_of_ble_eq_true rfl), (Nat.le_of_ble_eq_true rfl)⟩ rfl hl.1 rfl (Nat.le_of_ble_eq_true rfl) dL_law_441 ⟨hkc, hks⟩ (fun r59 X H locs h S => ?_)
        refine lv_icmp_eq (tgt := 1173) hx hb dL_law_444 (by decide) (fun c60 => ?_) (fun c60 => ?_)
        · have h := h.1 c60
          exact J_1173 _ _ _ _ _ _ _ _ h S ls (lv_sub hl [0, 1, 2, 3] rfl)
        · have h := h.2 c60
          refine lv_iconst (v := (0 : Int32)) hx hb dL_law_447 (by decide) ?_
          exact h.elim
      have h := h.2
      by_cases c63 : ((xs b18_3.toNatClampNeg) &&& (31 : Int32)) = (7 : Int32)
      · have h := h.1 c63
        refine lv_tableIn (off := 416) (tgt := 449) hx hb dL_law_33 (by rw [c63]; decide) (by rw [c63]; decide) (by rw [c63]; decide) (by decide) ?_
        refine lv_aload_n hx hb dL_law_449 rfl (lv_at hl 1 rfl) ?_
        obtain ⟨fs70, hfs70, h⟩ := h
        obtain ⟨hkc, hks, h⟩ := h
        refine x_cMVi (As := []) (rest := []) G S hA hfs70 rfl rfl (c_X9_wipe l D kA _ _ _ b18_1 h) cd_X9_wipe ml_L_45 ⟨(Nat.le_of_ble_eq_true rfl), (Nat.le_of_ble_eq_true rfl)⟩ rfl hl.1 rfl (Nat.le_of_ble_eq_true rfl) dL_law_450 ⟨hkc, hks⟩ (fun r65 X H locs h S => ?_)
        refine lv_aload_n hx hb dL_law_453 rfl (lv_at hl 2 rfl) ?_
        obtain ⟨fs69, hfs69, h⟩ := h
        obtain ⟨hkc, hks, h⟩ := h
        refine x_cMVi (As := []) (rest := [.int r65]) G S hA hfs69 rfl rfl (c_X10_wipe l D kA _ _ _ b18_2 h) cd_X10_wipe ml_L_49 ⟨(Nat.le_of_ble_eq_true rfl), (Nat.le_of_ble_eq_true rfl)⟩ rfl hl.1 rfl (Nat.le_of_ble_eq_true rfl) dL_law_454 ⟨hkc, hks⟩ (fun r67 X H locs h S => ?_)
        refine lv_icmp_eq (tgt := 1173) hx hb dL_law_457 (by decide) (fun c68 => ?_) (fun c68 => ?_)
        · have h := h.1 c68
          exact J_1173 _ _ _ _ _ _ _ _ h S ls (lv_sub hl [0, 1, 2, 3] rfl)
        · have h := h.2 c68
          refine lv_iconst (v := (0 : Int32)) hx hb dL_law_460 (by decide) ?_
          exact h.elim
      have h := h.2
      by_cases c71 : ((xs b18_3.toNatClampNeg) &&& (31 : Int32)) = (8 : Int32)
      · have h := h.1 c71
        refine lv_tableIn (off := 429) (tgt := 462) hx hb dL_law_33 (by rw [c71]; decide) (by rw [c71]; decide) (by rw [c71]; decide) (by decide) ?_
        refine lv_aload_n hx hb dL_law_462 rfl (lv_at hl 1 rfl) ?_
        obtain ⟨fs76, hfs76, h⟩ := h
        obtain ⟨hkc, hks, h⟩ := h
        refine x_cRVi (As := []) (rest := []) G S.1 hfs76 rfl rfl (c_X9_fault l D kA _ _ b18_1 h) cd_X9_fault ml_L_50 ⟨(Nat.le_of_ble_eq_true rfl), (Nat.le_of_ble_eq_true rfl)⟩ rfl hl.1 rfl (Nat.le_of_ble_eq_true rfl) dL_law_463 ⟨hkc, hks⟩ (fun r72 h => ?_)
        refine lv_aload_n hx hb dL_law_466 rfl (lv_at hl 2 rfl) ?_
        obtain ⟨fs75, hfs75, h⟩ := h
        obtain ⟨hkc, hks, h⟩ := h
        refine x_cRVi (As := []) (rest := [.int r72]) G S.1 hfs75 rfl rfl (c_X10_fault l D kA _ _ b18_2 h) cd_X10_fault ml_L_53 ⟨(Nat.le_of_ble_eq_true rfl), (Nat.le_of_ble_eq_true rfl)⟩ rfl hl.1 rfl (Nat.le_of_ble_eq_true rfl) dL_law_467 ⟨hkc, hks⟩ (fun r73 h => ?_)
        refine lv_icmp_eq (tgt := 1173) hx hb dL_law_470 (by decide) (fun c74 => ?_) (fun c74 => ?_)
        · have h := h.1 c74
          exact J_1173 _ _ _ _ _ _ _ _ h S ls (lv_sub hl [0, 1, 2, 3] rfl)
        · have h := h.2 c74
          refine lv_iconst (v := (0 : Int32)) hx hb dL_law_473 (by decide) ?_
          exact h.elim
      have h := h.2
      by_cases c77 : ((xs b18_3.toNatClampNeg) &&& (31 : Int32)) = (9 : Int32)
      · have h := h.1 c77
        refine lv_tableIn (off := 442) (tgt := 475) hx hb dL_law_33 (by rw [c77]; decide) (by rw [c77]; decide) (by rw [c77]; decide) (by decide) ?_
        refine lv_aload_n hx hb dL_law_475 rfl (lv_at hl 1 rfl) ?_
        refine lv_aload_n hx hb dL_law_476 rfl (lv_at hl 0 rfl) ?_
        refine lv_iload_n hx hb dL_law_477 rfl (lv_at hl 3 rfl) ?_
        refine lv_iconst (v := (1 : Int32)) hx hb dL_law_478 (by decide) ?_
        refine lv_iadd hx hb dL_law_479 ?_
        have hi := h.1
        have h := h.2
        refine va_sld hx hb hX hbl hbA S.2.2 hi dL_law_480 ?_
        refine lv_aload_n hx hb dL_law_481 rfl (lv_at hl 0 rfl) ?_
        refine lv_iload_n hx hb dL_law_482 rfl (lv_at hl 3 rfl) ?_
        refine lv_iconst (v := (2 : Int32)) hx hb dL_law_483 (by decide) ?_
        refine lv_iadd hx hb dL_law_484 ?_
        have hi := h.1
        have h := h.2
        refine va_sld hx hb hX hbl hbA S.2.2 hi dL_law_485 ?_
        refine lv_aload_n hx hb dL_law_486 rfl (lv_at hl 0 rfl) ?_
        refine lv_iload_n hx hb dL_law_487 rfl (lv_at hl 3 rfl) ?_
        refine lv_iconst (v := (3 : Int32)) hx hb dL_law_488 (by decide) ?_
        refine lv_iadd hx hb dL_law_489 ?_
        have hi := h.1
        have h := h.2
        refine va_sld hx hb hX hbl hbA S.2.2 hi dL_law_490 ?_
        refine lv_aload_n hx hb dL_law_491 rfl (lv_at hl 0 rfl) ?_
        refine lv_iload_n hx hb dL_law_492 rfl (lv_at hl 3 rfl) ?_
        refine lv_iconst (v := (4 : Int32)) hx hb dL_law_493 (by decide) ?_
        refine lv_iadd hx hb dL_law_494 ?_
        have hi := h.1
        have h := h.2
        refine va_sld hx hb hX hbl hbA S.2.2 hi dL_law_495 ?_
        obtain ⟨fs84, hfs84, h⟩ := h
        obtain ⟨hkc, hks, h⟩ := h
        refine x_cMVi (As := [.int (xs (b18_3 + (1 : Int32)).toNatClampNeg), .int (xs (b18_3 + (2 : Int32)).toNatClampNeg), .int (xs (b18_3 + (3 : Int32)).toNatClampNeg), .int (xs (b18_3 + (4 : Int32)).toNatClampNeg)]) (rest := []) G S hA hfs84 rfl rfl (c_X9_judge l D kA _ _ _ b18_1 (xs (b18_3 + (1 : Int32)).toNatClampNeg) (xs (b18_3 + (2 : Int32)).toNatClampNeg) (xs (b18_3 + (3 : Int32)).toNatClampNeg) (xs (b18_3 + (4 : Int32)).toNatClampNeg) h) cd_X9_judge ml_L_54 ⟨(Nat.le_of_ble_eq_true rfl), (Nat.le_of_ble_eq_true rfl)⟩ rfl hl.1 rfl (Nat.le_of_ble_eq_true rfl) dL_law_496 ⟨hkc, hks⟩ (fun r79 X H locs h S => ?_)
        refine lv_aload_n hx hb dL_law_499 rfl (lv_at hl 2 rfl) ?_
        refine lv_aload_n hx hb dL_law_500 rfl (lv_at hl 0 rfl) ?_
        refine lv_iload_n hx hb dL_law_501 rfl (lv_at hl 3 rfl) ?_
        refine lv_iconst (v := (1 : Int32)) hx hb dL_law_502 (by decide) ?_
        refine lv_iadd hx hb dL_law_503 ?_
        have hi := h.1
        have h := h.2
        refine va_sld hx hb hX hbl hbA S.2.2 hi dL_law_504 ?_
        refine lv_aload_n hx hb dL_law_505 rfl (lv_at hl 0 rfl) ?_
        refine lv_iload_n hx hb dL_law_506 rfl (lv_at hl 3 rfl) ?_
        refine lv_iconst (v := (2 : Int32)) hx hb dL_law_507 (by decide) ?_
        refine lv_iadd hx hb dL_law_508 ?_
        have hi := h.1
        have h := h.2
        refine va_sld hx hb hX hbl hbA S.2.2 hi dL_law_509 ?_
        refine lv_aload_n hx hb dL_law_510 rfl (lv_at hl 0 rfl) ?_
        refine lv_iload_n hx hb dL_law_511 rfl (lv_at hl 3 rfl) ?_
        refine lv_iconst (v := (3 : Int32)) hx hb dL_law_512 (by decide) ?_
        refine lv_iadd hx hb dL_law_513 ?_
        have hi := h.1
        have h := h.2
        refine va_sld hx hb hX hbl hbA S.2.2 hi dL_law_514 ?_
        refine lv_aload_n hx hb dL_law_515 rfl (lv_at hl 0 rfl) ?_
        refine lv_iload_n hx hb dL_law_516 rfl (lv_at hl 3 rfl) ?_
        refine lv_iconst (v := (4 : Int32)) hx hb dL_law_517 (by decide) ?_
        refine lv_iadd hx hb dL_law_518 ?_
        have hi := h.1
        have h := h.2
        refine va_sld hx hb hX hbl hbA S.2.2 hi dL_law_519 ?_
        obtain ⟨fs83, hfs83, h⟩ := h
        obtain ⟨hkc, hks, h⟩ := h
        refine x_cMVi (As := [.int (xs (b18_3 + (1 : Int32)).toNatClampNeg), .int (xs (b18_3 + (2 : Int32)).toNatClampNeg), .int (xs (b18_3 + (3 : Int32)).toNatClampNeg), .int (xs (b18_3 + (4 : Int32)).toNatClampNeg)]) (rest := [.int r79]) G S hA hfs83 rfl rfl (c_X10_judge l D kA _ _ _ b18_2 (xs (b18_3 + (1 : Int32)).toNatClampNeg) (xs (b18_3 + (2 : Int32)).toNatClampNeg) (xs (b18_3 + (3 : Int32)).toNatClampNeg) (xs (b18_3 + (4 : Int32)).toNatClampNeg) h) cd_X10_judge ml_L_57 ⟨(Nat.le_of_ble_eq_true rfl), (Nat.le_of_ble_eq_true rfl)⟩ rfl hl.1 rfl (Nat.le_of_ble_eq_true rfl) dL_law_520 ⟨hkc, hks⟩ (fun r81 X H locs h S => ?_)
        refine lv_icmp_eq (tgt := 1173) hx hb dL_law_523 (by decide) (fun c82 => ?_) (fun c82 => ?_)
        · have h := h.1 c82
          exact J_1173 _ _ _ _ _ _ _ _ h S ls (lv_sub hl [0, 1, 2, 3] rfl)
        · have h := h.2 c82
          refine lv_iconst (v := (0 : Int32)) hx hb dL_law_526 (by decide) ?_
          exact h.elim
      have h := h.2
      by_cases c85 : ((xs b18_3.toNatClampNeg) &&& (31 : Int32)) = (10 : Int32)
      · have h := h.1 c85
        refine lv_tableIn (off := 495) (tgt := 528) hx hb dL_law_33 (by rw [c85]; decide) (by rw [c85]; decide) (by rw [c85]; decide) (by decide) ?_
        refine lv_aload_n hx hb dL_law_528 rfl (lv_at hl 1 rfl) ?_
        refine lv_aload_n hx hb dL_law_529 rfl (lv_at hl 0 rfl) ?_
        refine lv_iload_n hx hb dL_law_530 rfl (lv_at hl 3 rfl) ?_
        refine lv_iconst (v := (1 : Int32)) hx hb dL_law_531 (by decide) ?_
        refine lv_iadd hx hb dL_law_532 ?_
        have hi := h.1
        have h := h.2
        refine va_sld hx hb hX hbl hbA S.2.2 hi dL_law_533 ?_
        refine lv_aload_n hx hb dL_law_534 rfl (lv_at hl 0 rfl) ?_
        refine lv_iload_n hx hb dL_law_535 rfl (lv_at hl 3 rfl) ?_
        refine lv_iconst (v := (2 : Int32)) hx hb dL_law_536 (by decide) ?_
        refine lv_iadd hx hb dL_law_537 ?_
        have hi := h.1
        have h := h.2
        refine va_sld hx hb hX hbl hbA S.2.2 hi dL_law_538 ?_
        refine lv_aload_n hx hb dL_law_539 rfl (lv_at hl 0 rfl) ?_
        refine lv_iload_n hx hb dL_law_540 rfl (lv_at hl 3 rfl) ?_
        refine lv_iconst (v := (3 : Int32)) hx hb dL_law_541 (by decide) ?_
        refine lv_iadd hx hb dL_law_542 ?_
        have hi := h.1
        have h := h.2
        refine va_sld hx hb hX hbl hbA S.2.2 hi dL_law_543 ?_
        refine lv_aload_n hx hb dL_law_544 rfl (lv_at hl 0 rfl) ?_
        refine lv_iload_n hx hb dL_law_545 rfl (lv_at hl 3 rfl) ?_
        refine lv_iconst (v := (4 : Int32)) hx hb dL_law_546 (by decide) ?_
        refine lv_iadd hx hb dL_law_547 ?_
        have hi := h.1
        have h := h.2
        refine va_sld hx hb hX hbl hbA S.2.2 hi dL_law_548 ?_
        refine lv_aload_n hx hb dL_law_549 rfl (lv_at hl 0 rfl) ?_
        refine lv_iload_n hx hb dL_law_550 rfl (lv_at hl 3 rfl) ?_
        refine lv_iconst (v := (5 : Int32)) hx hb dL_law_551 (by decide) ?_
        refine lv_iadd hx hb dL_law_552 ?_
        have hi := h.1
        have h := h.2
        refine va_sld hx hb hX hbl hbA S.2.2 hi dL_law_553 ?_
        obtain ⟨fs94, hfs94, h⟩ := h
        obtain ⟨m86, m87, hm1, hm2, h⟩ := h
        refine x_cMVi (As := [.int (xs (b18_3 + (1 : Int32)).toNatClampNeg), .int (xs (b18_3 + (2 : Int32)).toNatClampNeg), .int (xs (b18_3 + (3 : Int32)).toNatClampNeg), .int (xs (b18_3 + (4 : Int32)).toNatClampNeg), .int (xs (b18_3 + (5 : Int32)).toNatClampNeg)]) (rest := []) G S hA hfs94 rfl rfl (c_X9_best l D kA _ _ _ _ _ b18_1 (xs (b18_3 + (1 : Int32)).toNatClampNeg) (xs (b18_3 + (2 : Int32)).toNatClampNeg) (xs (b18_3 + (3 : Int32)).toNatClampNeg) (xs (b18_3 + (4 : Int32)).toNatClampNeg) (xs (b18_3 + (5 : Int32)).toNatClampNeg) h) cd_X9_best ml_L_58 ⟨(Nat.le_of_ble_eq_true rfl), (Nat.le_of_ble_eq_true rfl)⟩ rfl hl.1 rfl (Nat.le_of_ble_eq_true rfl) dL_law_554 ⟨hm1, hm2⟩ (fun r89 X H locs h S => ?_)
        refine lv_aload_n hx hb dL_law_557 rfl (lv_at hl 2 rfl) ?_
        refine lv_aload_n hx hb dL_law_558 rfl (lv_at hl 0 rfl) ?_
        refine lv_iload_n hx hb dL_law_559 rfl (lv_at hl 3 rfl) ?_
        refine lv_iconst (v := (1 : Int32)) hx hb dL_law_560 (by decide) ?_
        refine lv_iadd hx hb dL_law_561 ?_
        have hi := h.1
        have h := h.2
        refine va_sld hx hb hX hbl hbA S.2.2 hi dL_law_562 ?_
        refine lv_aload_n hx hb dL_law_563 rfl (lv_at hl 0 rfl) ?_
        refine lv_iload_n hx hb dL_law_564 rfl (lv_at hl 3 rfl) ?_
        refine lv_iconst (v := (2 : Int32)) hx hb dL_law_565 (by decide) ?_
        refine lv_iadd hx hb dL_law_566 ?_
        have hi := h.1
        have h := h.2
        refine va_sld hx hb hX hbl hbA S.2.2 hi dL_law_567 ?_
        refine lv_aload_n hx hb dL_law_568 rfl (lv_at hl 0 rfl) ?_
        refine lv_iload_n hx hb dL_law_569 rfl (lv_at hl 3 rfl) ?_
        refine lv_iconst (v := (3 : Int32)) hx hb dL_law_570 (by decide) ?_
        refine lv_iadd hx hb dL_law_571 ?_
        have hi := h.1
        have h := h.2
        refine va_sld hx hb hX hbl hbA S.2.2 hi dL_law_572 ?_
        refine lv_aload_n hx hb dL_law_573 rfl (lv_at hl 0 rfl) ?_
        refine lv_iload_n hx hb dL_law_574 rfl (lv_at hl 3 rfl) ?_
        refine lv_iconst (v := (4 : Int32)) hx hb dL_law_575 (by decide) ?_
        refine lv_iadd hx hb dL_law_576 ?_
        have hi := h.1
        have h := h.2
        refine va_sld hx hb hX hbl hbA S.2.2 hi dL_law_577 ?_
        refine lv_aload_n hx hb dL_law_578 rfl (lv_at hl 0 rfl) ?_
        refine lv_iload_n hx hb dL_law_579 rfl (lv_at hl 3 rfl) ?_
        refine lv_iconst (v := (5 : Int32)) hx hb dL_law_580 (by decide) ?_
        refine lv_iadd hx hb dL_law_581 ?_
        have hi := h.1
        have h := h.2
        refine va_sld hx hb hX hbl hbA S.2.2 hi dL_law_582 ?_
        obtain ⟨fs93, hfs93, h⟩ := h
        obtain ⟨hkc, hks, h⟩ := h
        refine x_cMVi (As := [.int (xs (b18_3 + (1 : Int32)).toNatClampNeg), .int (xs (b18_3 + (2 : Int32)).toNatClampNeg), .int (xs (b18_3 + (3 : Int32)).toNatClampNeg), .int (xs (b18_3 + (4 : Int32)).toNatClampNeg), .int (xs (b18_3 + (5 : Int32)).toNatClampNeg)]) (rest := [.int r89]) G S hA hfs93 rfl rfl (c_X10_best l D kA _ _ _ b18_2 (xs (b18_3 + (1 : Int32)).toNatClampNeg) (xs (b18_3 + (2 : Int32)).toNatClampNeg) (xs (b18_3 + (3 : Int32)).toNatClampNeg) (xs (b18_3 + (4 : Int32)).toNatClampNeg) (xs (b18_3 + (5 : Int32)).toNatClampNeg) h) cd_X10_best ml_L_61 ⟨(Nat.le_of_ble_eq_true rfl), (Nat.le_of_ble_eq_true rfl)⟩ rfl hl.1 rfl (Nat.le_of_ble_eq_true rfl) dL_law_583 ⟨hkc, hks⟩ (fun r91 X H locs h S => ?_)
        refine lv_icmp_eq (tgt := 1173) hx hb dL_law_586 (by decide) (fun c92 => ?_) (fun c92 => ?_)
        · have h := h.1 c92
          exact J_1173 _ _ _ _ _ _ _ _ h S ls (lv_sub hl [0, 1, 2, 3] rfl)
        · have h := h.2 c92
          refine lv_iconst (v := (0 : Int32)) hx hb dL_law_589 (by decide) ?_
          exact h.elim
      have h := h.2
      by_cases c95 : ((xs b18_3.toNatClampNeg) &&& (31 : Int32)) = (11 : Int32)
      · have h := h.1 c95
        refine lv_tableIn (off := 558) (tgt := 591) hx hb dL_law_33 (by rw [c95]; decide) (by rw [c95]; decide) (by rw [c95]; decide) (by decide) ?_
        refine lv_aload_n hx hb dL_law_591 rfl (lv_at hl 1 rfl) ?_
        refine lv_aload_n hx hb dL_law_592 rfl (lv_at hl 0 rfl) ?_
        refine lv_iload_n hx hb dL_law_593 rfl (lv_at hl 3 rfl) ?_
        refine lv_iconst (v := (1 : Int32)) hx hb dL_law_594 (by decide) ?_
        refine lv_iadd hx hb dL_law_595 ?_
        have hi := h.1
        have h := h.2
        refine va_sld hx hb hX hbl hbA S.2.2 hi dL_law_596 ?_
        refine lv_aload_n hx hb dL_law_597 rfl (lv_at hl 0 rfl) ?_
        refine lv_iload_n hx hb dL_law_598 rfl (lv_at hl 3 rfl) ?_
        refine lv_iconst (v := (2 : Int32)) hx hb dL_law_599 (by decide) ?_
        refine lv_iadd hx hb dL_law_600 ?_
        have hi := h.1
        have h := h.2
        refine va_sld hx hb hX hbl hbA S.2.2 hi dL_law_601 ?_
        refine lv_aload_n hx hb dL_law_602 rfl (lv_at hl 0 rfl) ?_
        refine lv_iload_n hx hb dL_law_603 rfl (lv_at hl 3 rfl) ?_
        refine lv_iconst (v := (3 : Int32)) hx hb dL_law_604 (by decide) ?_
        refine lv_iadd hx hb dL_law_605 ?_
        have hi := h.1
        have h := h.2
        refine va_sld hx hb hX hbl hbA S.2.2 hi dL_law_606 ?_
        refine lv_aload_n hx hb dL_law_607 rfl (lv_at hl 0 rfl) ?_
        refine lv_iload_n hx hb dL_law_608 rfl (lv_at hl 3 rfl) ?_
        refine lv_iconst (v := (4 : Int32)) hx hb dL_law_609 (by decide) ?_
        refine lv_iadd hx hb dL_law_610 ?_
        have hi := h.1
        have h := h.2
        refine va_sld hx hb hX hbl hbA S.2.2 hi dL_law_611 ?_
        refine lv_aload_n hx hb dL_law_612 rfl (lv_at hl 0 rfl) ?_
        refine lv_iload_n hx hb dL_law_613 rfl (lv_at hl 3 rfl) ?_
        refine lv_iconst (v := (5 : Int32)) hx hb dL_law_614 (by decide) ?_
        refine lv_iadd hx hb dL_law_615 ?_
        have hi := h.1
        have h := h.2
        refine va_sld hx hb hX hbl hbA S.2.2 hi dL_law_616 ?_
        obtain ⟨fs104, hfs104, h⟩ := h
        obtain ⟨m96, m97, hm1, hm2, h⟩ := h
        refine x_cMVi (As := [.int (xs (b18_3 + (1 : Int32)).toNatClampNeg), .int (xs (b18_3 + (2 : Int32)).toNatClampNeg), .int (xs (b18_3 + (3 : Int32)).toNatClampNeg), .int (xs (b18_3 + (4 : Int32)).toNatClampNeg), .int (xs (b18_3 + (5 : Int32)).toNatClampNeg)]) (rest := []) G S hA hfs104 rfl rfl (c_X9_does l D kA _ _ _ _ _ b18_1 (xs (b18_3 + (1 : Int32)).toNatClampNeg) (xs (b18_3 + (2 : Int32)).toNatClampNeg) (xs (b18_3 + (3 : Int32)).toNatClampNeg) (xs (b18_3 + (4 : Int32)).toNatClampNeg) (xs (b18_3 + (5 : Int32)).toNatClampNeg) h) cd_X9_does ml_L_62 ⟨(Nat.le_of_ble_eq_true rfl), (Nat.le_of_ble_eq_true rfl)⟩ rfl hl.1 rfl (Nat.le_of_ble_eq_true rfl) dL_law_617 ⟨hm1, hm2⟩ (fun r99 X H locs h S => ?_)
        refine lv_aload_n hx hb dL_law_620 rfl (lv_at hl 2 rfl) ?_
        refine lv_aload_n hx hb dL_law_621 rfl (lv_at hl 0 rfl) ?_
        refine lv_iload_n hx hb dL_law_622 rfl (lv_at hl 3 rfl) ?_
        refine lv_iconst (v := (1 : Int32)) hx hb dL_law_623 (by decide) ?_
        refine lv_iadd hx hb dL_law_624 ?_
        have hi := h.1
        have h := h.2
        refine va_sld hx hb hX hbl hbA S.2.2 hi dL_law_625 ?_
        refine lv_aload_n hx hb dL_law_626 rfl (lv_at hl 0 rfl) ?_
        refine lv_iload_n hx hb dL_law_627 rfl (lv_at hl 3 rfl) ?_
        refine lv_iconst (v := (2 : Int32)) hx hb dL_law_628 (by decide) ?_
        refine lv_iadd hx hb dL_law_629 ?_
        have hi := h.1
        have h := h.2
        refine va_sld hx hb hX hbl hbA S.2.2 hi dL_law_630 ?_
        refine lv_aload_n hx hb dL_law_631 rfl (lv_at hl 0 rfl) ?_
        refine lv_iload_n hx hb dL_law_632 rfl (lv_at hl 3 rfl) ?_
        refine lv_iconst (v := (3 : Int32)) hx hb dL_law_633 (by decide) ?_
        refine lv_iadd hx hb dL_law_634 ?_
        have hi := h.1
        have h := h.2
        refine va_sld hx hb hX hbl hbA S.2.2 hi dL_law_635 ?_
        refine lv_aload_n hx hb dL_law_636 rfl (lv_at hl 0 rfl) ?_
        refine lv_iload_n hx hb dL_law_637 rfl (lv_at hl 3 rfl) ?_
        refine lv_iconst (v := (4 : Int32)) hx hb dL_law_638 (by decide) ?_
        refine lv_iadd hx hb dL_law_639 ?_
        have hi := h.1
        have h := h.2
        refine va_sld hx hb hX hbl hbA S.2.2 hi dL_law_640 ?_
        refine lv_aload_n hx hb dL_law_641 rfl (lv_at hl 0 rfl) ?_
        refine lv_iload_n hx hb dL_law_642 rfl (lv_at hl 3 rfl) ?_
        refine lv_iconst (v := (5 : Int32)) hx hb dL_law_643 (by decide) ?_
        refine lv_iadd hx hb dL_law_644 ?_
        have hi := h.1
        have h := h.2
        refine va_sld hx hb hX hbl hbA S.2.2 hi dL_law_645 ?_
        obtain ⟨fs103, hfs103, h⟩ := h
        obtain ⟨hkc, hks, h⟩ := h
        refine x_cMVi (As := [.int (xs (b18_3 + (1 : Int32)).toNatClampNeg), .int (xs (b18_3 + (2 : Int32)).toNatClampNeg), .int (xs (b18_3 + (3 : Int32)).toNatClampNeg), .int (xs (b18_3 + (4 : Int32)).toNatClampNeg), .int (xs (b18_3 + (5 : Int32)).toNatClampNeg)]) (rest := [.int r99]) G S hA hfs103 rfl rfl (c_X10_does l D kA _ _ _ b18_2 (xs (b18_3 + (1 : Int32)).toNatClampNeg) (xs (b18_3 + (2 : Int32)).toNatClampNeg) (xs (b18_3 + (3 : Int32)).toNatClampNeg) (xs (b18_3 + (4 : Int32)).toNatClampNeg) (xs (b18_3 + (5 : Int32)).toNatClampNeg) h) cd_X10_does ml_L_65 ⟨(Nat.le_of_ble_eq_true rfl), (Nat.le_of_ble_eq_true rfl)⟩ rfl hl.1 rfl (Nat.le_of_ble_eq_true rfl) dL_law_646 ⟨hkc, hks⟩ (fun r101 X H locs h S => ?_)
        refine lv_icmp_eq (tgt := 1173) hx hb dL_law_649 (by decide) (fun c102 => ?_) (fun c102 => ?_)
        · have h := h.1 c102
          exact J_1173 _ _ _ _ _ _ _ _ h S ls (lv_sub hl [0, 1, 2, 3] rfl)
        · have h := h.2 c102
          refine lv_iconst (v := (0 : Int32)) hx hb dL_law_652 (by decide) ?_
          exact h.elim
      have h := h.2
      by_cases c105 : ((xs b18_3.toNatClampNeg) &&& (31 : Int32)) = (12 : Int32)
      · have h := h.1 c105
        refine lv_tableIn (off := 621) (tgt := 654) hx hb dL_law_33 (by rw [c105]; decide) (by rw [c105]; decide) (by rw [c105]; decide) (by decide) ?_
        refine lv_aload_n hx hb dL_law_654 rfl (lv_at hl 1 rfl) ?_
        refine lv_aload_n hx hb dL_law_655 rfl (lv_at hl 0 rfl) ?_
        refine lv_iload_n hx hb dL_law_656 rfl (lv_at hl 3 rfl) ?_
        refine lv_iconst (v := (1 : Int32)) hx hb dL_law_657 (by decide) ?_
        refine lv_iadd hx hb dL_law_658 ?_
        have hi := h.1
        have h := h.2
        refine va_sld hx hb hX hbl hbA S.2.2 hi dL_law_659 ?_
        refine lv_aload_n hx hb dL_law_660 rfl (lv_at hl 0 rfl) ?_
        refine lv_iload_n hx hb dL_law_661 rfl (lv_at hl 3 rfl) ?_
        refine lv_iconst (v := (2 : Int32)) hx hb dL_law_662 (by decide) ?_
        refine lv_iadd hx hb dL_law_663 ?_
        have hi := h.1
        have h := h.2
        refine va_sld hx hb hX hbl hbA S.2.2 hi dL_law_664 ?_
        refine lv_aload_n hx hb dL_law_665 rfl (lv_at hl 0 rfl) ?_
        refine lv_iload_n hx hb dL_law_666 rfl (lv_at hl 3 rfl) ?_
        refine lv_iconst (v := (3 : Int32)) hx hb dL_law_667 (by decide) ?_
        refine lv_iadd hx hb dL_law_668 ?_
        have hi := h.1
        have h := h.2
        refine va_sld hx hb hX hbl hbA S.2.2 hi dL_law_669 ?_
        refine lv_aload_n hx hb dL_law_670 rfl (lv_at hl 0 rfl) ?_
        refine lv_iload_n hx hb dL_law_671 rfl (lv_at hl 3 rfl) ?_
        refine lv_iconst (v := (4 : Int32)) hx hb dL_law_672 (by decide) ?_
        refine lv_iadd hx hb dL_law_673 ?_
        have hi := h.1
        have h := h.2
        refine va_sld hx hb hX hbl hbA S.2.2 hi dL_law_674 ?_
        obtain ⟨fs114, hfs114, h⟩ := h
        obtain ⟨m106, m107, hm1, hm2, h⟩ := h
        refine x_cMVi (As := [.int (xs (b18_3 + (1 : Int32)).toNatClampNeg), .int (xs (b18_3 + (2 : Int32)).toNatClampNeg), .int (xs (b18_3 + (3 : Int32)).toNatClampNeg), .int (xs (b18_3 + (4 : Int32)).toNatClampNeg)]) (rest := []) G S hA hfs114 rfl rfl (c_X9_logged l D kA _ _ _ _ _ b18_1 (xs (b18_3 + (1 : Int32)).toNatClampNeg) (xs (b18_3 + (2 : Int32)).toNatClampNeg) (xs (b18_3 + (3 : Int32)).toNatClampNeg) (xs (b18_3 + (4 : Int32)).toNatClampNeg) h) cd_X9_logged ml_L_66 ⟨(Nat.le_of_ble_eq_true rfl), (Nat.le_of_ble_eq_true rfl)⟩ rfl hl.1 rfl (Nat.le_of_ble_eq_true rfl) dL_law_675 ⟨hm1, hm2⟩ (fun r109 X H locs h S => ?_)
        refine lv_aload_n hx hb dL_law_678 rfl (lv_at hl 2 rfl) ?_
        refine lv_aload_n hx hb dL_law_679 rfl (lv_at hl 0 rfl) ?_
        refine lv_iload_n hx hb dL_law_680 rfl (lv_at hl 3 rfl) ?_
        refine lv_iconst (v := (1 : Int32)) hx hb dL_law_681 (by decide) ?_
        refine lv_iadd hx hb dL_law_682 ?_
        have hi := h.1
        have h := h.2
        refine va_sld hx hb hX hbl hbA S.2.2 hi dL_law_683 ?_
        refine lv_aload_n hx hb dL_law_684 rfl (lv_at hl 0 rfl) ?_
        refine lv_iload_n hx hb dL_law_685 rfl (lv_at hl 3 rfl) ?_
        refine lv_iconst (v := (2 : Int32)) hx hb dL_law_686 (by decide) ?_
        refine lv_iadd hx hb dL_law_687 ?_
        have hi := h.1
        have h := h.2
        refine va_sld hx hb hX hbl hbA S.2.2 hi dL_law_688 ?_
        refine lv_aload_n hx hb dL_law_689 rfl (lv_at hl 0 rfl) ?_
        refine lv_iload_n hx hb dL_law_690 rfl (lv_at hl 3 rfl) ?_
        refine lv_iconst (v := (3 : Int32)) hx hb dL_law_691 (by decide) ?_
        refine lv_iadd hx hb dL_law_692 ?_
        have hi := h.1
        have h := h.2
        refine va_sld hx hb hX hbl hbA S.2.2 hi dL_law_693 ?_
        refine lv_aload_n hx hb dL_law_694 rfl (lv_at hl 0 rfl) ?_
        refine lv_iload_n hx hb dL_law_695 rfl (lv_at hl 3 rfl) ?_
        refine lv_iconst (v := (4 : Int32)) hx hb dL_law_696 (by decide) ?_
        refine lv_iadd hx hb dL_law_697 ?_
        have hi := h.1
        have h := h.2
        refine va_sld hx hb hX hbl hbA S.2.2 hi dL_law_698 ?_
        obtain ⟨fs113, hfs113, h⟩ := h
        obtain ⟨hkc, hks, h⟩ := h
        refine x_cMVi (As := [.int (xs (b18_3 + (1 : Int32)).toNatClampNeg), .int (xs (b18_3 + (2 : Int32)).toNatClampNeg), .int (xs (b18_3 + (3 : Int32)).toNatClampNeg), .int (xs (b18_3 + (4 : Int32)).toNatClampNeg)]) (rest := [.int r109]) G S hA hfs113 rfl rfl (c_X10_logged l D kA _ _ _ b18_2 (xs (b18_3 + (1 : Int32)).toNatClampNeg) (xs (b18_3 + (2 : Int32)).toNatClampNeg) (xs (b18_3 + (3 : Int32)).toNatClampNeg) (xs (b18_3 + (4 : Int32)).toNatClampNeg) h) cd_X10_logged ml_L_69 ⟨(Nat.le_of_ble_eq_true rfl), (Nat.le_of_ble_eq_true rfl)⟩ rfl hl.1 rfl (Nat.le_of_ble_eq_true rfl) dL_law_699 ⟨hkc, hks⟩ (fun r111 X H locs h S => ?_)
        refine lv_icmp_eq (tgt := 1173) hx hb dL_law_702 (by decide) (fun c112 => ?_) (fun c112 => ?_)
        · have h := h.1 c112
          exact J_1173 _ _ _ _ _ _ _ _ h S ls (lv_sub hl [0, 1, 2, 3] rfl)
        · have h := h.2 c112
          refine lv_iconst (v := (0 : Int32)) hx hb dL_law_705 (by decide) ?_
          exact h.elim
      have h := h.2
      by_cases c115 : ((xs b18_3.toNatClampNeg) &&& (31 : Int32)) = (13 : Int32)
      · have h := h.1 c115
        refine lv_tableIn (off := 674) (tgt := 707) hx hb dL_law_33 (by rw [c115]; decide) (by rw [c115]; decide) (by rw [c115]; decide) (by decide) ?_
        refine lv_aload_n hx hb dL_law_707 rfl (lv_at hl 1 rfl) ?_
        refine lv_aload_n hx hb dL_law_708 rfl (lv_at hl 0 rfl) ?_
        refine lv_iload_n hx hb dL_law_709 rfl (lv_at hl 3 rfl) ?_
        refine lv_iconst (v := (1 : Int32)) hx hb dL_law_710 (by decide) ?_
        refine lv_iadd hx hb dL_law_711 ?_
        have hi := h.1
        have h := h.2
        refine va_sld hx hb hX hbl hbA S.2.2 hi dL_law_712 ?_
        refine lv_aload_n hx hb dL_law_713 rfl (lv_at hl 0 rfl) ?_
        refine lv_iload_n hx hb dL_law_714 rfl (lv_at hl 3 rfl) ?_
        refine lv_iconst (v := (2 : Int32)) hx hb dL_law_715 (by decide) ?_
        refine lv_iadd hx hb dL_law_716 ?_
        have hi := h.1
        have h := h.2
        refine va_sld hx hb hX hbl hbA S.2.2 hi dL_law_717 ?_
        refine lv_aload_n hx hb dL_law_718 rfl (lv_at hl 0 rfl) ?_
        refine lv_iload_n hx hb dL_law_719 rfl (lv_at hl 3 rfl) ?_
        refine lv_iconst (v := (3 : Int32)) hx hb dL_law_720 (by decide) ?_
        refine lv_iadd hx hb dL_law_721 ?_
        have hi := h.1
        have h := h.2
        refine va_sld hx hb hX hbl hbA S.2.2 hi dL_law_722 ?_
        refine lv_aload_n hx hb dL_law_723 rfl (lv_at hl 0 rfl) ?_
        refine lv_iload_n hx hb dL_law_724 rfl (lv_at hl 3 rfl) ?_
        refine lv_iconst (v := (4 : Int32)) hx hb dL_law_725 (by decide) ?_
        refine lv_iadd hx hb dL_law_726 ?_
        have hi := h.1
        have h := h.2
        refine va_sld hx hb hX hbl hbA S.2.2 hi dL_law_727 ?_
        obtain ⟨fs124, hfs124, h⟩ := h
        obtain ⟨m116, m117, hm1, hm2, h⟩ := h
        refine x_cMVi (As := [.int (xs (b18_3 + (1 : Int32)).toNatClampNeg), .int (xs (b18_3 + (2 : Int32)).toNatClampNeg), .int (xs (b18_3 + (3 : Int32)).toNatClampNeg), .int (xs (b18_3 + (4 : Int32)).toNatClampNeg)]) (rest := []) G S hA hfs124 rfl rfl (c_X9_thumb l D kA _ _ _ _ _ b18_1 (xs (b18_3 + (1 : Int32)).toNatClampNeg) (xs (b18_3 + (2 : Int32)).toNatClampNeg) (xs (b18_3 + (3 : Int32)).toNatClampNeg) (xs (b18_3 + (4 : Int32)).toNatClampNeg) h) cd_X9_thumb ml_L_70 ⟨(Nat.le_of_ble_eq_true rfl), (Nat.le_of_ble_eq_true rfl)⟩ rfl hl.1 rfl (Nat.le_of_ble_eq_true rfl) dL_law_728 ⟨hm1, hm2⟩ (fun r119 X H locs h S => ?_)
        refine lv_aload_n hx hb dL_law_731 rfl (lv_at hl 2 rfl) ?_
        refine lv_aload_n hx hb dL_law_732 rfl (lv_at hl 0 rfl) ?_
        refine lv_iload_n hx hb dL_law_733 rfl (lv_at hl 3 rfl) ?_
        refine lv_iconst (v := (1 : Int32)) hx hb dL_law_734 (by decide) ?_
        refine lv_iadd hx hb dL_law_735 ?_
        have hi := h.1
        have h := h.2
        refine va_sld hx hb hX hbl hbA S.2.2 hi dL_law_736 ?_
        refine lv_aload_n hx hb dL_law_737 rfl (lv_at hl 0 rfl) ?_
        refine lv_iload_n hx hb dL_law_738 rfl (lv_at hl 3 rfl) ?_
        refine lv_iconst (v := (2 : Int32)) hx hb dL_law_739 (by decide) ?_
        refine lv_iadd hx hb dL_law_740 ?_
        have hi := h.1
        have h := h.2
        refine va_sld hx hb hX hbl hbA S.2.2 hi dL_law_741 ?_
        refine lv_aload_n hx hb dL_law_742 rfl (lv_at hl 0 rfl) ?_
        refine lv_iload_n hx hb dL_law_743 rfl (lv_at hl 3 rfl) ?_
        refine lv_iconst (v := (3 : Int32)) hx hb dL_law_744 (by decide) ?_
        refine lv_iadd hx hb dL_law_745 ?_
        have hi := h.1
        have h := h.2
        refine va_sld hx hb hX hbl hbA S.2.2 hi dL_law_746 ?_
        refine lv_aload_n hx hb dL_law_747 rfl (lv_at hl 0 rfl) ?_
        refine lv_iload_n hx hb dL_law_748 rfl (lv_at hl 3 rfl) ?_
        refine lv_iconst (v := (4 : Int32)) hx hb dL_law_749 (by decide) ?_
        refine lv_iadd hx hb dL_law_750 ?_
        have hi := h.1
        have h := h.2
        refine va_sld hx hb hX hbl hbA S.2.2 hi dL_law_751 ?_
        obtain ⟨fs123, hfs123, h⟩ := h
        obtain ⟨hkc, hks, h⟩ := h
        refine x_cMVi (As := [.int (xs (b18_3 + (1 : Int32)).toNatClampNeg), .int (xs (b18_3 + (2 : Int32)).toNatClampNeg), .int (xs (b18_3 + (3 : Int32)).toNatClampNeg), .int (xs (b18_3 + (4 : Int32)).toNatClampNeg)]) (rest := [.int r119]) G S hA hfs123 rfl rfl (c_X10_thumb l D kA _ _ _ b18_2 (xs (b18_3 + (1 : Int32)).toNatClampNeg) (xs (b18_3 + (2 : Int32)).toNatClampNeg) (xs (b18_3 + (3 : Int32)).toNatClampNeg) (xs (b18_3 + (4 : Int32)).toNatClampNeg) h) cd_X10_thumb ml_L_73 ⟨(Nat.le_of_ble_eq_true rfl), (Nat.le_of_ble_eq_true rfl)⟩ rfl hl.1 rfl (Nat.le_of_ble_eq_true rfl) dL_law_752 ⟨hkc, hks⟩ (fun r121 X H locs h S => ?_)
        refine lv_icmp_eq (tgt := 1173) hx hb dL_law_755 (by decide) (fun c122 => ?_) (fun c122 => ?_)
        · have h := h.1 c122
          exact J_1173 _ _ _ _ _ _ _ _ h S ls (lv_sub hl [0, 1, 2, 3] rfl)
        · have h := h.2 c122
          refine lv_iconst (v := (0 : Int32)) hx hb dL_law_758 (by decide) ?_
          exact h.elim
      have h := h.2
      by_cases c125 : ((xs b18_3.toNatClampNeg) &&& (31 : Int32)) = (14 : Int32)
      · have h := h.1 c125
        refine lv_tableIn (off := 727) (tgt := 760) hx hb dL_law_33 (by rw [c125]; decide) (by rw [c125]; decide) (by rw [c125]; decide) (by decide) ?_
        refine lv_aload_n hx hb dL_law_760 rfl (lv_at hl 1 rfl) ?_
        refine lv_aload_n hx hb dL_law_761 rfl (lv_at hl 0 rfl) ?_
        refine lv_iload_n hx hb dL_law_762 rfl (lv_at hl 3 rfl) ?_
        refine lv_iconst (v := (1 : Int32)) hx hb dL_law_763 (by decide) ?_
        refine lv_iadd hx hb dL_law_764 ?_
        have hi := h.1
        have h := h.2
        refine va_sld hx hb hX hbl hbA S.2.2 hi dL_law_765 ?_
        refine lv_aload_n hx hb dL_law_766 rfl (lv_at hl 0 rfl) ?_
        refine lv_iload_n hx hb dL_law_767 rfl (lv_at hl 3 rfl) ?_
        refine lv_iconst (v := (2 : Int32)) hx hb dL_law_768 (by decide) ?_
        refine lv_iadd hx hb dL_law_769 ?_
        have hi := h.1
        have h := h.2
        refine va_sld hx hb hX hbl hbA S.2.2 hi dL_law_770 ?_
        refine lv_aload_n hx hb dL_law_771 rfl (lv_at hl 0 rfl) ?_
        refine lv_iload_n hx hb dL_law_772 rfl (lv_at hl 3 rfl) ?_
        refine lv_iconst (v := (3 : Int32)) hx hb dL_law_773 (by decide) ?_
        refine lv_iadd hx hb dL_law_774 ?_
        have hi := h.1
        have h := h.2
        refine va_sld hx hb hX hbl hbA S.2.2 hi dL_law_775 ?_
        refine lv_aload_n hx hb dL_law_776 rfl (lv_at hl 0 rfl) ?_
        refine lv_iload_n hx hb dL_law_777 rfl (lv_at hl 3 rfl) ?_
        refine lv_iconst (v := (4 : Int32)) hx hb dL_law_778 (by decide) ?_
        refine lv_iadd hx hb dL_law_779 ?_
        have hi := h.1
        have h := h.2
        refine va_sld hx hb hX hbl hbA S.2.2 hi dL_law_780 ?_
        obtain ⟨fs134, hfs134, h⟩ := h
        obtain ⟨m126, m127, hm1, hm2, h⟩ := h
        refine x_cMVi (As := [.int (xs (b18_3 + (1 : Int32)).toNatClampNeg), .int (xs (b18_3 + (2 : Int32)).toNatClampNeg), .int (xs (b18_3 + (3 : Int32)).toNatClampNeg), .int (xs (b18_3 + (4 : Int32)).toNatClampNeg)]) (rest := []) G S hA hfs134 rfl rfl (c_X9_worth l D kA _ _ _ _ _ b18_1 (xs (b18_3 + (1 : Int32)).toNatClampNeg) (xs (b18_3 + (2 : Int32)).toNatClampNeg) (xs (b18_3 + (3 : Int32)).toNatClampNeg) (xs (b18_3 + (4 : Int32)).toNatClampNeg) h) cd_X9_worth ml_L_74 ⟨(Nat.le_of_ble_eq_true rfl), (Nat.le_of_ble_eq_true rfl)⟩ rfl hl.1 rfl (Nat.le_of_ble_eq_true rfl) dL_law_781 ⟨hm1, hm2⟩ (fun r129 X H locs h S => ?_)
        refine lv_aload_n hx hb dL_law_784 rfl (lv_at hl 2 rfl) ?_
        refine lv_aload_n hx hb dL_law_785 rfl (lv_at hl 0 rfl) ?_
        refine lv_iload_n hx hb dL_law_786 rfl (lv_at hl 3 rfl) ?_
        refine lv_iconst (v := (1 : Int32)) hx hb dL_law_787 (by decide) ?_
        refine lv_iadd hx hb dL_law_788 ?_
        have hi := h.1
        have h := h.2
        refine va_sld hx hb hX hbl hbA S.2.2 hi dL_law_789 ?_
        refine lv_aload_n hx hb dL_law_790 rfl (lv_at hl 0 rfl) ?_
        refine lv_iload_n hx hb dL_law_791 rfl (lv_at hl 3 rfl) ?_
        refine lv_iconst (v := (2 : Int32)) hx hb dL_law_792 (by decide) ?_
        refine lv_iadd hx hb dL_law_793 ?_
        have hi := h.1
        have h := h.2
        refine va_sld hx hb hX hbl hbA S.2.2 hi dL_law_794 ?_
        refine lv_aload_n hx hb dL_law_795 rfl (lv_at hl 0 rfl) ?_
        refine lv_iload_n hx hb dL_law_796 rfl (lv_at hl 3 rfl) ?_
        refine lv_iconst (v := (3 : Int32)) hx hb dL_law_797 (by decide) ?_
        refine lv_iadd hx hb dL_law_798 ?_
        have hi := h.1
        have h := h.2
        refine va_sld hx hb hX hbl hbA S.2.2 hi dL_law_799 ?_
        refine lv_aload_n hx hb dL_law_800 rfl (lv_at hl 0 rfl) ?_
        refine lv_iload_n hx hb dL_law_801 rfl (lv_at hl 3 rfl) ?_
        refine lv_iconst (v := (4 : Int32)) hx hb dL_law_802 (by decide) ?_
        refine lv_iadd hx hb dL_law_803 ?_
        have hi := h.1
        have h := h.2
        refine va_sld hx hb hX hbl hbA S.2.2 hi dL_law_804 ?_
        obtain ⟨fs133, hfs133, h⟩ := h
        obtain ⟨hkc, hks, h⟩ := h
        refine x_cMVi (As := [.int (xs (b18_3 + (1 : Int32)).toNatClampNeg), .int (xs (b18_3 + (2 : Int32)).toNatClampNeg), .int (xs (b18_3 + (3 : Int32)).toNatClampNeg), .int (xs (b18_3 + (4 : Int32)).toNatClampNeg)]) (rest := [.int r129]) G S hA hfs133 rfl rfl (c_X10_worth l D kA _ _ _ b18_2 (xs (b18_3 + (1 : Int32)).toNatClampNeg) (xs (b18_3 + (2 : Int32)).toNatClampNeg) (xs (b18_3 + (3 : Int32)).toNatClampNeg) (xs (b18_3 + (4 : Int32)).toNatClampNeg) h) cd_X10_worth ml_L_77 ⟨(Nat.le_of_ble_eq_true rfl), (Nat.le_of_ble_eq_true rfl)⟩ rfl hl.1 rfl (Nat.le_of_ble_eq_true rfl) dL_law_805 ⟨hkc, hks⟩ (fun r131 X H locs h S => ?_)
        refine lv_icmp_eq (tgt := 1173) hx hb dL_law_808 (by decide) (fun c132 => ?_) (fun c132 => ?_)
        · have h := h.1 c132
          exact J_1173 _ _ _ _ _ _ _ _ h S ls (lv_sub hl [0, 1, 2, 3] rfl)
        · have h := h.2 c132
          refine lv_iconst (v := (0 : Int32)) hx hb dL_law_811 (by decide) ?_
          exact h.elim
      have h := h.2
      by_cases c135 : ((xs b18_3.toNatClampNeg) &&& (31 : Int32)) = (15 : Int32)
      · have h := h.1 c135
        refine lv_tableIn (off := 780) (tgt := 813) hx hb dL_law_33 (by rw [c135]; decide) (by rw [c135]; decide) (by rw [c135]; decide) (by decide) ?_
        refine lv_aload_n hx hb dL_law_813 rfl (lv_at hl 1 rfl) ?_
        refine lv_aload_n hx hb dL_law_814 rfl (lv_at hl 0 rfl) ?_
        refine lv_iload_n hx hb dL_law_815 rfl (lv_at hl 3 rfl) ?_
        refine lv_iconst (v := (1 : Int32)) hx hb dL_law_816 (by decide) ?_
        refine lv_iadd hx hb dL_law_817 ?_
        have hi := h.1
        have h := h.2
        refine va_sld hx hb hX hbl hbA S.2.2 hi dL_law_818 ?_
        refine lv_aload_n hx hb dL_law_819 rfl (lv_at hl 0 rfl) ?_
        refine lv_iload_n hx hb dL_law_820 rfl (lv_at hl 3 rfl) ?_
        refine lv_iconst (v := (2 : Int32)) hx hb dL_law_821 (by decide) ?_
        refine lv_iadd hx hb dL_law_822 ?_
        have hi := h.1
        have h := h.2
        refine va_sld hx hb hX hbl hbA S.2.2 hi dL_law_823 ?_
        obtain ⟨fs144, hfs144, h⟩ := h
        obtain ⟨m136, m137, hm1, hm2, h⟩ := h
        refine x_cMVi (As := [.int (xs (b18_3 + (1 : Int32)).toNatClampNeg), .int (xs (b18_3 + (2 : Int32)).toNatClampNeg)]) (rest := []) G S hA hfs144 rfl rfl (c_X9_round l D kA _ _ _ _ _ b18_1 (xs (b18_3 + (1 : Int32)).toNatClampNeg) (xs (b18_3 + (2 : Int32)).toNatClampNeg) h) cd_X9_round ml_L_78 ⟨(Nat.le_of_ble_eq_true rfl), (Nat.le_of_ble_eq_true rfl)⟩ rfl hl.1 rfl (Nat.le_of_ble_eq_true rfl) dL_law_824 ⟨hm1, hm2⟩ (fun r139 X H locs h S => ?_)
        refine lv_aload_n hx hb dL_law_827 rfl (lv_at hl 2 rfl) ?_
        refine lv_aload_n hx hb dL_law_828 rfl (lv_at hl 0 rfl) ?_
        refine lv_iload_n hx hb dL_law_829 rfl (lv_at hl 3 rfl) ?_
        refine lv_iconst (v := (1 : Int32)) hx hb dL_law_830 (by decide) ?_
        refine lv_iadd hx hb dL_law_831 ?_
        have hi := h.1
        have h := h.2
        refine va_sld hx hb hX hbl hbA S.2.2 hi dL_law_832 ?_
        refine lv_aload_n hx hb dL_law_833 rfl (lv_at hl 0 rfl) ?_
        refine lv_iload_n hx hb dL_law_834 rfl (lv_at hl 3 rfl) ?_
        refine lv_iconst (v := (2 : Int32)) hx hb dL_law_835 (by decide) ?_
        refine lv_iadd hx hb dL_law_836 ?_
        have hi := h.1
        have h := h.2
        refine va_sld hx hb hX hbl hbA S.2.2 hi dL_law_837 ?_
        obtain ⟨fs143, hfs143, h⟩ := h
        obtain ⟨hkc, hks, h⟩ := h
        refine x_cMVi (As := [.int (xs (b18_3 + (1 : Int32)).toNatClampNeg), .int (xs (b18_3 + (2 : Int32)).toNatClampNeg)]) (rest := [.int r139]) G S hA hfs143 rfl rfl (c_X10_round l D kA _ _ _ b18_2 (xs (b18_3 + (1 : Int32)).toNatClampNeg) (xs (b18_3 + (2 : Int32)).toNatClampNeg) h) cd_X10_round ml_L_82 ⟨(Nat.le_of_ble_eq_true rfl), (Nat.le_of_ble_eq_true rfl)⟩ rfl hl.1 rfl (Nat.le_of_ble_eq_true rfl) dL_law_838 ⟨hkc, hks⟩ (fun r141 X H locs h S => ?_)
        refine lv_icmp_eq (tgt := 1173) hx hb dL_law_841 (by decide) (fun c142 => ?_) (fun c142 => ?_)
        · have h := h.1 c142
          exact J_1173 _ _ _ _ _ _ _ _ h S ls (lv_sub hl [0, 1, 2, 3] rfl)
        · have h := h.2 c142
          refine lv_iconst (v := (0 : Int32)) hx hb dL_law_844 (by decide) ?_
          exact h.elim
      have h := h.2
      by_cases c145 : ((xs b18_3.toNatClampNeg) &&& (31 : Int32)) = (16 : Int32)
      · have h := h.1 c145
        refine lv_tableIn (off := 813) (tgt := 846) hx hb dL_law_33 (by rw [c145]; decide) (by rw [c145]; decide) (by rw [c145]; decide) (by decide) ?_
        refine lv_aload_n hx hb dL_law_846 rfl (lv_at hl 1 rfl) ?_
        refine lv_aload_n hx hb dL_law_847 rfl (lv_at hl 0 rfl) ?_
        refine lv_iload_n hx hb dL_law_848 rfl (lv_at hl 3 rfl) ?_
        refine lv_iconst (v := (1 : Int32)) hx hb dL_law_849 (by decide) ?_
        refine lv_iadd hx hb dL_law_850 ?_
        have hi := h.1
        have h := h.2
        refine va_sld hx hb hX hbl hbA S.2.2 hi dL_law_851 ?_
        refine lv_aload_n hx hb dL_law_852 rfl (lv_at hl 0 rfl) ?_
        refine lv_iload_n hx hb dL_law_853 rfl (lv_at hl 3 rfl) ?_
        refine lv_iconst (v := (2 : Int32)) hx hb dL_law_854 (by decide) ?_
        refine lv_iadd hx hb dL_law_855 ?_
        have hi := h.1
        have h := h.2
        refine va_sld hx hb hX hbl hbA S.2.2 hi dL_law_856 ?_
        refine lv_aload_n hx hb dL_law_857 rfl (lv_at hl 0 rfl) ?_
        refine lv_iload_n hx hb dL_law_858 rfl (lv_at hl 3 rfl) ?_
        refine lv_iconst (v := (3 : Int32)) hx hb dL_law_859 (by decide) ?_
        refine lv_iadd hx hb dL_law_860 ?_
        have hi := h.1
        have h := h.2
        refine va_sld hx hb hX hbl hbA S.2.2 hi dL_law_861 ?_
        refine lv_aload_n hx hb dL_law_862 rfl (lv_at hl 0 rfl) ?_
        refine lv_iload_n hx hb dL_law_863 rfl (lv_at hl 3 rfl) ?_
        refine lv_iconst (v := (4 : Int32)) hx hb dL_law_864 (by decide) ?_
        refine lv_iadd hx hb dL_law_865 ?_
        have hi := h.1
        have h := h.2
        refine va_sld hx hb hX hbl hbA S.2.2 hi dL_law_866 ?_
        obtain ⟨fs154, hfs154, h⟩ := h
        obtain ⟨m146, m147, hm1, hm2, h⟩ := h
        refine x_cMVi (As := [.int (xs (b18_3 + (1 : Int32)).toNatClampNeg), .int (xs (b18_3 + (2 : Int32)).toNatClampNeg), .int (xs (b18_3 + (3 : Int32)).toNatClampNeg), .int (xs (b18_3 + (4 : Int32)).toNatClampNeg)]) (rest := []) G S hA hfs154 rfl rfl (c_X9_soonest l D kA _ _ _ _ _ b18_1 (xs (b18_3 + (1 : Int32)).toNatClampNeg) (xs (b18_3 + (2 : Int32)).toNatClampNeg) (xs (b18_3 + (3 : Int32)).toNatClampNeg) (xs (b18_3 + (4 : Int32)).toNatClampNeg) h) cd_X9_soonest ml_L_83 ⟨(Nat.le_of_ble_eq_true rfl), (Nat.le_of_ble_eq_true rfl)⟩ rfl hl.1 rfl (Nat.le_of_ble_eq_true rfl) dL_law_867 ⟨hm1, hm2⟩ (fun r149 X H locs h S => ?_)
        refine lv_aload_n hx hb dL_law_870 rfl (lv_at hl 2 rfl) ?_
        refine lv_aload_n hx hb dL_law_871 rfl (lv_at hl 0 rfl) ?_
        refine lv_iload_n hx hb dL_law_872 rfl (lv_at hl 3 rfl) ?_
        refine lv_iconst (v := (1 : Int32)) hx hb dL_law_873 (by decide) ?_
        refine lv_iadd hx hb dL_law_874 ?_
        have hi := h.1
        have h := h.2
        refine va_sld hx hb hX hbl hbA S.2.2 hi dL_law_875 ?_
        refine lv_aload_n hx hb dL_law_876 rfl (lv_at hl 0 rfl) ?_
        refine lv_iload_n hx hb dL_law_877 rfl (lv_at hl 3 rfl) ?_
        refine lv_iconst (v := (2 : Int32)) hx hb dL_law_878 (by decide) ?_
        refine lv_iadd hx hb dL_law_879 ?_
        have hi := h.1
        have h := h.2
        refine va_sld hx hb hX hbl hbA S.2.2 hi dL_law_880 ?_
        refine lv_aload_n hx hb dL_law_881 rfl (lv_at hl 0 rfl) ?_
        refine lv_iload_n hx hb dL_law_882 rfl (lv_at hl 3 rfl) ?_
        refine lv_iconst (v := (3 : Int32)) hx hb dL_law_883 (by decide) ?_
        refine lv_iadd hx hb dL_law_884 ?_
        have hi := h.1
        have h := h.2
        refine va_sld hx hb hX hbl hbA S.2.2 hi dL_law_885 ?_
        refine lv_aload_n hx hb dL_law_886 rfl (lv_at hl 0 rfl) ?_
        refine lv_iload_n hx hb dL_law_887 rfl (lv_at hl 3 rfl) ?_
        refine lv_iconst (v := (4 : Int32)) hx hb dL_law_888 (by decide) ?_
        refine lv_iadd hx hb dL_law_889 ?_
        have hi := h.1
        have h := h.2
        refine va_sld hx hb hX hbl hbA S.2.2 hi dL_law_890 ?_
        obtain ⟨fs153, hfs153, h⟩ := h
        obtain ⟨hkc, hks, h⟩ := h
        refine x_cMVi (As := [.int (xs (b18_3 + (1 : Int32)).toNatClampNeg), .int (xs (b18_3 + (2 : Int32)).toNatClampNeg), .int (xs (b18_3 + (3 : Int32)).toNatClampNeg), .int (xs (b18_3 + (4 : Int32)).toNatClampNeg)]) (rest := [.int r149]) G S hA hfs153 rfl rfl (c_X10_soonest l D kA _ _ _ b18_2 (xs (b18_3 + (1 : Int32)).toNatClampNeg) (xs (b18_3 + (2 : Int32)).toNatClampNeg) (xs (b18_3 + (3 : Int32)).toNatClampNeg) (xs (b18_3 + (4 : Int32)).toNatClampNeg) h) cd_X10_soonest ml_L_86 ⟨(Nat.le_of_ble_eq_true rfl), (Nat.le_of_ble_eq_true rfl)⟩ rfl hl.1 rfl (Nat.le_of_ble_eq_true rfl) dL_law_891 ⟨hkc, hks⟩ (fun r151 X H locs h S => ?_)
        refine lv_icmp_eq (tgt := 1173) hx hb dL_law_894 (by decide) (fun c152 => ?_) (fun c152 => ?_)
        · have h := h.1 c152
          exact J_1173 _ _ _ _ _ _ _ _ h S ls (lv_sub hl [0, 1, 2, 3] rfl)
        · have h := h.2 c152
          refine lv_iconst (v := (0 : Int32)) hx hb dL_law_897 (by decide) ?_
          exact h.elim
      have h := h.2
      by_cases c155 : ((xs b18_3.toNatClampNeg) &&& (31 : Int32)) = (17 : Int32)
      · have h := h.1 c155
        refine lv_tableIn (off := 866) (tgt := 899) hx hb dL_law_33 (by rw [c155]; decide) (by rw [c155]; decide) (by rw [c155]; decide) (by decide) ?_
        refine lv_aload_n hx hb dL_law_899 rfl (lv_at hl 1 rfl) ?_
        refine lv_aload_n hx hb dL_law_900 rfl (lv_at hl 0 rfl) ?_
        refine lv_iload_n hx hb dL_law_901 rfl (lv_at hl 3 rfl) ?_
        refine lv_iconst (v := (1 : Int32)) hx hb dL_law_902 (by decide) ?_
        refine lv_iadd hx hb dL_law_903 ?_
        have hi := h.1
        have h := h.2
        refine va_sld hx hb hX hbl hbA S.2.2 hi dL_law_904 ?_
        refine lv_aload_n hx hb dL_law_905 rfl (lv_at hl 0 rfl) ?_
        refine lv_iload_n hx hb dL_law_906 rfl (lv_at hl 3 rfl) ?_
        refine lv_iconst (v := (2 : Int32)) hx hb dL_law_907 (by decide) ?_
        refine lv_iadd hx hb dL_law_908 ?_
        have hi := h.1
        have h := h.2
        refine va_sld hx hb hX hbl hbA S.2.2 hi dL_law_909 ?_
        refine lv_aload_n hx hb dL_law_910 rfl (lv_at hl 0 rfl) ?_
        refine lv_iload_n hx hb dL_law_911 rfl (lv_at hl 3 rfl) ?_
        refine lv_iconst (v := (3 : Int32)) hx hb dL_law_912 (by decide) ?_
        refine lv_iadd hx hb dL_law_913 ?_
        have hi := h.1
        have h := h.2
        refine va_sld hx hb hX hbl hbA S.2.2 hi dL_law_914 ?_
        obtain ⟨fs162, hfs162, h⟩ := h
        obtain ⟨hkc, hks, h⟩ := h
        refine x_cMVi (As := [.int (xs (b18_3 + (1 : Int32)).toNatClampNeg), .int (xs (b18_3 + (2 : Int32)).toNatClampNeg), .int (xs (b18_3 + (3 : Int32)).toNatClampNeg)]) (rest := []) G S hA hfs162 rfl rfl (c_X9_two l D kA _ _ _ b18_1 (xs (b18_3 + (1 : Int32)).toNatClampNeg) (xs (b18_3 + (2 : Int32)).toNatClampNeg) (xs (b18_3 + (3 : Int32)).toNatClampNeg) h) cd_X9_two ml_L_87 ⟨(Nat.le_of_ble_eq_true rfl), (Nat.le_of_ble_eq_true rfl)⟩ rfl hl.1 rfl (Nat.le_of_ble_eq_true rfl) dL_law_915 ⟨hkc, hks⟩ (fun r157 X H locs h S => ?_)
        refine lv_aload_n hx hb dL_law_918 rfl (lv_at hl 2 rfl) ?_
        refine lv_aload_n hx hb dL_law_919 rfl (lv_at hl 0 rfl) ?_
        refine lv_iload_n hx hb dL_law_920 rfl (lv_at hl 3 rfl) ?_
        refine lv_iconst (v := (1 : Int32)) hx hb dL_law_921 (by decide) ?_
        refine lv_iadd hx hb dL_law_922 ?_
        have hi := h.1
        have h := h.2
        refine va_sld hx hb hX hbl hbA S.2.2 hi dL_law_923 ?_
        refine lv_aload_n hx hb dL_law_924 rfl (lv_at hl 0 rfl) ?_
        refine lv_iload_n hx hb dL_law_925 rfl (lv_at hl 3 rfl) ?_
        refine lv_iconst (v := (2 : Int32)) hx hb dL_law_926 (by decide) ?_
        refine lv_iadd hx hb dL_law_927 ?_
        have hi := h.1
        have h := h.2
        refine va_sld hx hb hX hbl hbA S.2.2 hi dL_law_928 ?_
        refine lv_aload_n hx hb dL_law_929 rfl (lv_at hl 0 rfl) ?_
        refine lv_iload_n hx hb dL_law_930 rfl (lv_at hl 3 rfl) ?_
        refine lv_iconst (v := (3 : Int32)) hx hb dL_law_931 (by decide) ?_
        refine lv_iadd hx hb dL_law_932 ?_
        have hi := h.1
        have h := h.2
        refine va_sld hx hb hX hbl hbA S.2.2 hi dL_law_933 ?_
        obtain ⟨fs161, hfs161, h⟩ := h
        obtain ⟨hkc, hks, h⟩ := h
        refine x_cMVi (As := [.int (xs (b18_3 + (1 : Int32)).toNatClampNeg), .int (xs (b18_3 + (2 : Int32)).toNatClampNeg), .int (xs (b18_3 + (3 : Int32)).toNatClampNeg)]) (rest := [.int r157]) G S hA hfs161 rfl rfl (c_X10_two l D kA _ _ _ b18_2 (xs (b18_3 + (1 : Int32)).toNatClampNeg) (xs (b18_3 + (2 : Int32)).toNatClampNeg) (xs (b18_3 + (3 : Int32)).toNatClampNeg) h) cd_X10_two ml_L_90 ⟨(Nat.le_of_ble_eq_true rfl), (Nat.le_of_ble_eq_true rfl)⟩ rfl hl.1 rfl (Nat.le_of_ble_eq_true rfl) dL_law_934 ⟨hkc, hks⟩ (fun r159 X H locs h S => ?_)
        refine lv_icmp_eq (tgt := 1173) hx hb dL_law_937 (by decide) (fun c160 => ?_) (fun c160 => ?_)
        · have h := h.1 c160
          exact J_1173 _ _ _ _ _ _ _ _ h S ls (lv_sub hl [0, 1, 2, 3] rfl)
        · have h := h.2 c160
          refine lv_iconst (v := (0 : Int32)) hx hb dL_law_940 (by decide) ?_
          exact h.elim
      have h := h.2
      by_cases c163 : ((xs b18_3.toNatClampNeg) &&& (31 : Int32)) = (18 : Int32)
      · have h := h.1 c163
        refine lv_tableIn (off := 909) (tgt := 942) hx hb dL_law_33 (by rw [c163]; decide) (by rw [c163]; decide) (by rw [c163]; decide) (by decide) ?_
        refine lv_aload_n hx hb dL_law_942 rfl (lv_at hl 1 rfl) ?_
        refine lv_aload_n hx hb dL_law_943 rfl (lv_at hl 0 rfl) ?_
        refine lv_iload_n hx hb dL_law_944 rfl (lv_at hl 3 rfl) ?_
        refine lv_iconst (v := (1 : Int32)) hx hb dL_law_945 (by decide) ?_
        refine lv_iadd hx hb dL_law_946 ?_
        have hi := h.1
        have h := h.2
        refine va_sld hx hb hX hbl hbA S.2.2 hi dL_law_947 ?_
        refine lv_aload_n hx hb dL_law_948 rfl (lv_at hl 0 rfl) ?_
        refine lv_iload_n hx hb dL_law_949 rfl (lv_at hl 3 rfl) ?_
        refine lv_iconst (v := (2 : Int32)) hx hb dL_law_950 (by decide) ?_
        refine lv_iadd hx hb dL_law_951 ?_
        have hi := h.1
        have h := h.2
        refine va_sld hx hb hX hbl hbA S.2.2 hi dL_law_952 ?_
        obtain ⟨fs170, hfs170, h⟩ := h
        obtain ⟨hkc, hks, h⟩ := h
        refine x_cMVi (As := [.int (xs (b18_3 + (1 : Int32)).toNatClampNeg), .int (xs (b18_3 + (2 : Int32)).toNatClampNeg)]) (rest := []) G S hA hfs170 rfl rfl (c_X9_share l D kA _ _ _ b18_1 (xs (b18_3 + (1 : Int32)).toNatClampNeg) (xs (b18_3 + (2 : Int32)).toNatClampNeg) h) cd_X9_share ml_L_91 ⟨(Nat.le_of_ble_eq_true rfl), (Nat.le_of_ble_eq_true rfl)⟩ rfl hl.1 rfl (Nat.le_of_ble_eq_true rfl) dL_law_953 ⟨hkc, hks⟩ (fun r165 X H locs h S => ?_)
        refine lv_aload_n hx hb dL_law_956 rfl (lv_at hl 2 rfl) ?_
        refine lv_aload_n hx hb dL_law_957 rfl (lv_at hl 0 rfl) ?_
        refine lv_iload_n hx hb dL_law_958 rfl (lv_at hl 3 rfl) ?_
        refine lv_iconst (v := (1 : Int32)) hx hb dL_law_959 (by decide) ?_
        refine lv_iadd hx hb dL_law_960 ?_
        have hi := h.1
        have h := h.2
        refine va_sld hx hb hX hbl hbA S.2.2 hi dL_law_961 ?_
        refine lv_aload_n hx hb dL_law_962 rfl (lv_at hl 0 rfl) ?_
        refine lv_iload_n hx hb dL_law_963 rfl (lv_at hl 3 rfl) ?_
        refine lv_iconst (v := (2 : Int32)) hx hb dL_law_964 (by decide) ?_
        refine lv_iadd hx hb dL_law_965 ?_
        have hi := h.1
        have h := h.2
        refine va_sld hx hb hX hbl hbA S.2.2 hi dL_law_966 ?_
        obtain ⟨fs169, hfs169, h⟩ := h
        obtain ⟨hkc, hks, h⟩ := h
        refine x_cMVi (As := [.int (xs (b18_3 + (1 : Int32)).toNatClampNeg), .int (xs (b18_3 + (2 : Int32)).toNatClampNeg)]) (rest := [.int r165]) G S hA hfs169 rfl rfl (c_X10_share l D kA _ _ _ b18_2 (xs (b18_3 + (1 : Int32)).toNatClampNeg) (xs (b18_3 + (2 : Int32)).toNatClampNeg) h) cd_X10_share ml_L_94 ⟨(Nat.le_of_ble_eq_true rfl), (Nat.le_of_ble_eq_true rfl)⟩ rfl hl.1 rfl (Nat.le_of_ble_eq_true rfl) dL_law_967 ⟨hkc, hks⟩ (fun r167 X H locs h S => ?_)
        refine lv_icmp_eq (tgt := 1173) hx hb dL_law_970 (by decide) (fun c168 => ?_) (fun c168 => ?_)
        · have h := h.1 c168
          exact J_1173 _ _ _ _ _ _ _ _ h S ls (lv_sub hl [0, 1, 2, 3] rfl)
        · have h := h.2 c168
          refine lv_iconst (v := (0 : Int32)) hx hb dL_law_973 (by decide) ?_
          exact h.elim
      have h := h.2
      by_cases c171 : ((xs b18_3.toNatClampNeg) &&& (31 : Int32)) = (19 : Int32)
      · have h := h.1 c171
        refine lv_tableIn (off := 942) (tgt := 975) hx hb dL_law_33 (by rw [c171]; decide) (by rw [c171]; decide) (by rw [c171]; decide) (by decide) ?_
        refine lv_aload_n hx hb dL_law_975 rfl (lv_at hl 1 rfl) ?_
        refine lv_aload_n hx hb dL_law_976 rfl (lv_at hl 0 rfl) ?_
        refine lv_iload_n hx hb dL_law_977 rfl (lv_at hl 3 rfl) ?_
        refine lv_iconst (v := (1 : Int32)) hx hb dL_law_978 (by decide) ?_
        refine lv_iadd hx hb dL_law_979 ?_
        have hi := h.1
        have h := h.2
        refine va_sld hx hb hX hbl hbA S.2.2 hi dL_law_980 ?_
        refine lv_aload_n hx hb dL_law_981 rfl (lv_at hl 0 rfl) ?_
        refine lv_iload_n hx hb dL_law_982 rfl (lv_at hl 3 rfl) ?_
        refine lv_iconst (v := (2 : Int32)) hx hb dL_law_983 (by decide) ?_
        refine lv_iadd hx hb dL_law_984 ?_
        have hi := h.1
        have h := h.2
        refine va_sld hx hb hX hbl hbA S.2.2 hi dL_law_985 ?_
        refine lv_aload_n hx hb dL_law_986 rfl (lv_at hl 0 rfl) ?_
        refine lv_iload_n hx hb dL_law_987 rfl (lv_at hl 3 rfl) ?_
        refine lv_iconst (v := (3 : Int32)) hx hb dL_law_988 (by decide) ?_
        refine lv_iadd hx hb dL_law_989 ?_
        have hi := h.1
        have h := h.2
        refine va_sld hx hb hX hbl hbA S.2.2 hi dL_law_990 ?_
        obtain ⟨fs176, hfs176, h⟩ := h
        obtain ⟨hkc, hks, h⟩ := h
        refine x_cRVi (As := [.int (xs (b18_3 + (1 : Int32)).toNatClampNeg), .int (xs (b18_3 + (2 : Int32)).toNatClampNeg), .int (xs (b18_3 + (3 : Int32)).toNatClampNeg)]) (rest := []) G S.1 hfs176 rfl rfl (c_X9_up l D kA _ _ b18_1 (xs (b18_3 + (1 : Int32)).toNatClampNeg) (xs (b18_3 + (2 : Int32)).toNatClampNeg) (xs (b18_3 + (3 : Int32)).toNatClampNeg) h) cd_X9_up ml_L_95 ⟨(Nat.le_of_ble_eq_true rfl), (Nat.le_of_ble_eq_true rfl)⟩ rfl hl.1 rfl (Nat.le_of_ble_eq_true rfl) dL_law_991 ⟨hkc, hks⟩ (fun r172 h => ?_)
        refine lv_aload_n hx hb dL_law_994 rfl (lv_at hl 2 rfl) ?_
        refine lv_aload_n hx hb dL_law_995 rfl (lv_at hl 0 rfl) ?_
        refine lv_iload_n hx hb dL_law_996 rfl (lv_at hl 3 rfl) ?_
        refine lv_iconst (v := (1 : Int32)) hx hb dL_law_997 (by decide) ?_
        refine lv_iadd hx hb dL_law_998 ?_
        have hi := h.1
        have h := h.2
        refine va_sld hx hb hX hbl hbA S.2.2 hi dL_law_999 ?_
        refine lv_aload_n hx hb dL_law_1000 rfl (lv_at hl 0 rfl) ?_
        refine lv_iload_n hx hb dL_law_1001 rfl (lv_at hl 3 rfl) ?_
        refine lv_iconst (v := (2 : Int32)) hx hb dL_law_1002 (by decide) ?_
        refine lv_iadd hx hb dL_law_1003 ?_
        have hi := h.1
        have h := h.2
        refine va_sld hx hb hX hbl hbA S.2.2 hi dL_law_1004 ?_
        refine lv_aload_n hx hb dL_law_1005 rfl (lv_at hl 0 rfl) ?_
        refine lv_iload_n hx hb dL_law_1006 rfl (lv_at hl 3 rfl) ?_
        refine lv_iconst (v := (3 : Int32)) hx hb dL_law_1007 (by decide) ?_
        refine lv_iadd hx hb dL_law_1008 ?_
        have hi := h.1
        have h := h.2
        refine va_sld hx hb hX hbl hbA S.2.2 hi dL_law_1009 ?_
        obtain ⟨fs175, hfs175, h⟩ := h
        obtain ⟨hkc, hks, h⟩ := h
        refine x_cRVi (As := [.int (xs (b18_3 + (1 : Int32)).toNatClampNeg), .int (xs (b18_3 + (2 : Int32)).toNatClampNeg), .int (xs (b18_3 + (3 : Int32)).toNatClampNeg)]) (rest := [.int r172]) G S.1 hfs175 rfl rfl (c_X10_up l D kA _ _ b18_2 (xs (b18_3 + (1 : Int32)).toNatClampNeg) (xs (b18_3 + (2 : Int32)).toNatClampNeg) (xs (b18_3 + (3 : Int32)).toNatClampNeg) h) cd_X10_up ml_L_98 ⟨(Nat.le_of_ble_eq_true rfl), (Nat.le_of_ble_eq_true rfl)⟩ rfl hl.1 rfl (Nat.le_of_ble_eq_true rfl) dL_law_1010 ⟨hkc, hks⟩ (fun r173 h => ?_)
        refine lv_icmp_eq (tgt := 1173) hx hb dL_law_1013 (by decide) (fun c174 => ?_) (fun c174 => ?_)
        · have h := h.1 c174
          exact J_1173 _ _ _ _ _ _ _ _ h S ls (lv_sub hl [0, 1, 2, 3] rfl)
        · have h := h.2 c174
          refine lv_iconst (v := (0 : Int32)) hx hb dL_law_1016 (by decide) ?_
          exact h.elim
      have h := h.2
      by_cases c177 : ((xs b18_3.toNatClampNeg) &&& (31 : Int32)) = (20 : Int32)
      · have h := h.1 c177
        refine lv_tableIn (off := 985) (tgt := 1018) hx hb dL_law_33 (by rw [c177]; decide) (by rw [c177]; decide) (by rw [c177]; decide) (by decide) ?_
        refine lv_aload_n hx hb dL_law_1018 rfl (lv_at hl 1 rfl) ?_
        refine lv_aload_n hx hb dL_law_1019 rfl (lv_at hl 0 rfl) ?_
        refine lv_iload_n hx hb dL_law_1020 rfl (lv_at hl 3 rfl) ?_
        refine lv_iconst (v := (1 : Int32)) hx hb dL_law_1021 (by decide) ?_
        refine lv_iadd hx hb dL_law_1022 ?_
        have hi := h.1
        have h := h.2
        refine va_sld hx hb hX hbl hbA S.2.2 hi dL_law_1023 ?_
        refine lv_aload_n hx hb dL_law_1024 rfl (lv_at hl 0 rfl) ?_
        refine lv_iload_n hx hb dL_law_1025 rfl (lv_at hl 3 rfl) ?_
        refine lv_iconst (v := (2 : Int32)) hx hb dL_law_1026 (by decide) ?_
        refine lv_iadd hx hb dL_law_1027 ?_
        have hi := h.1
        have h := h.2
        refine va_sld hx hb hX hbl hbA S.2.2 hi dL_law_1028 ?_
        obtain ⟨fs182, hfs182, h⟩ := h
        obtain ⟨hkc, hks, h⟩ := h
        refine x_cRVi (As := [.int (xs (b18_3 + (1 : Int32)).toNatClampNeg), .int (xs (b18_3 + (2 : Int32)).toNatClampNeg)]) (rest := []) G S.1 hfs182 rfl rfl (c_X9_trust l D kA _ _ b18_1 (xs (b18_3 + (1 : Int32)).toNatClampNeg) (xs (b18_3 + (2 : Int32)).toNatClampNeg) h) cd_X9_trust ml_L_99 ⟨(Nat.le_of_ble_eq_true rfl), (Nat.le_of_ble_eq_true rfl)⟩ rfl hl.1 rfl (Nat.le_of_ble_eq_true rfl) dL_law_1029 ⟨hkc, hks⟩ (fun r178 h => ?_)
        refine lv_aload_n hx hb dL_law_1032 rfl (lv_at hl 2 rfl) ?_
        refine lv_aload_n hx hb dL_law_1033 rfl (lv_at hl 0 rfl) ?_
        refine lv_iload_n hx hb dL_law_1034 rfl (lv_at hl 3 rfl) ?_
        refine lv_iconst (v := (1 : Int32)) hx hb dL_law_1035 (by decide) ?_
        refine lv_iadd hx hb dL_law_1036 ?_
        have hi := h.1
        have h := h.2
        refine va_sld hx hb hX hbl hbA S.2.2 hi dL_law_1037 ?_
        refine lv_aload_n hx hb dL_law_1038 rfl (lv_at hl 0 rfl) ?_
        refine lv_iload_n hx hb dL_law_1039 rfl (lv_at hl 3 rfl) ?_
        refine lv_iconst (v := (2 : Int32)) hx hb dL_law_1040 (by decide) ?_
        refine lv_iadd hx hb dL_law_1041 ?_
        have hi := h.1
        have h := h.2
        refine va_sld hx hb hX hbl hbA S.2.2 hi dL_law_1042 ?_
        obtain ⟨fs181, hfs181, h⟩ := h
        obtain ⟨hkc, hks, h⟩ := h
        refine x_cRVi (As := [.int (xs (b18_3 + (1 : Int32)).toNatClampNeg), .int (xs (b18_3 + (2 : Int32)).toNatClampNeg)]) (rest := [.int r178]) G S.1 hfs181 rfl rfl (c_X10_trust l D kA _ _ b18_2 (xs (b18_3 + (1 : Int32)).toNatClampNeg) (xs (b18_3 + (2 : Int32)).toNatClampNeg) h) cd_X10_trust ml_L_102 ⟨(Nat.le_of_ble_eq_true rfl), (Nat.le_of_ble_eq_true rfl)⟩ rfl hl.1 rfl (Nat.le_of_ble_eq_true rfl) dL_law_1043 ⟨hkc, hks⟩ (fun r179 h => ?_)
        refine lv_icmp_eq (tgt := 1173) hx hb dL_law_1046 (by decide) (fun c180 => ?_) (fun c180 => ?_)
        · have h := h.1 c180
          exact J_1173 _ _ _ _ _ _ _ _ h S ls (lv_sub hl [0, 1, 2, 3] rfl)
        · have h := h.2 c180
          refine lv_iconst (v := (0 : Int32)) hx hb dL_law_1049 (by decide) ?_
          exact h.elim
      have h := h.2
      by_cases c183 : ((xs b18_3.toNatClampNeg) &&& (31 : Int32)) = (21 : Int32)
      · have h := h.1 c183
        refine lv_tableIn (off := 1018) (tgt := 1051) hx hb dL_law_33 (by rw [c183]; decide) (by rw [c183]; decide) (by rw [c183]; decide) (by decide) ?_
        refine lv_aload_n hx hb dL_law_1051 rfl (lv_at hl 1 rfl) ?_
        refine lv_aload_n hx hb dL_law_1052 rfl (lv_at hl 0 rfl) ?_
        refine lv_iload_n hx hb dL_law_1053 rfl (lv_at hl 3 rfl) ?_
        refine lv_iconst (v := (1 : Int32)) hx hb dL_law_1054 (by decide) ?_
        refine lv_iadd hx hb dL_law_1055 ?_
        have hi := h.1
        have h := h.2
        refine va_sld hx hb hX hbl hbA S.2.2 hi dL_law_1056 ?_
        refine lv_aload_n hx hb dL_law_1057 rfl (lv_at hl 0 rfl) ?_
        refine lv_iload_n hx hb dL_law_1058 rfl (lv_at hl 3 rfl) ?_
        refine lv_iconst (v := (2 : Int32)) hx hb dL_law_1059 (by decide) ?_
        refine lv_iadd hx hb dL_law_1060 ?_
        have hi := h.1
        have h := h.2
        refine va_sld hx hb hX hbl hbA S.2.2 hi dL_law_1061 ?_
        refine lv_aload_n hx hb dL_law_1062 rfl (lv_at hl 0 rfl) ?_
        refine lv_iload_n hx hb dL_law_1063 rfl (lv_at hl 3 rfl) ?_
        refine lv_iconst (v := (3 : Int32)) hx hb dL_law_1064 (by decide) ?_
        refine lv_iadd hx hb dL_law_1065 ?_
        have hi := h.1
        have h := h.2
        refine va_sld hx hb hX hbl hbA S.2.2 hi dL_law_1066 ?_
        refine lv_aload_n hx hb dL_law_1067 rfl (lv_at hl 0 rfl) ?_
        refine lv_iload_n hx hb dL_law_1068 rfl (lv_at hl 3 rfl) ?_
        refine lv_iconst (v := (4 : Int32)) hx hb dL_law_1069 (by decide) ?_
        refine lv_iadd hx hb dL_law_1070 ?_
        have hi := h.1
        have h := h.2
        refine va_sld hx hb hX hbl hbA S.2.2 hi dL_law_1071 ?_
        obtain ⟨fs190, hfs190, h⟩ := h
        obtain ⟨hkc, hks, h⟩ := h
        refine x_cMVi (As := [.int (xs (b18_3 + (1 : Int32)).toNatClampNeg), .int (xs (b18_3 + (2 : Int32)).toNatClampNeg), .int (xs (b18_3 + (3 : Int32)).toNatClampNeg), .int (xs (b18_3 + (4 : Int32)).toNatClampNeg)]) (rest := []) G S hA hfs190 rfl rfl (c_X9_draw l D kA _ _ _ b18_1 (xs (b18_3 + (1 : Int32)).toNatClampNeg) (xs (b18_3 + (2 : Int32)).toNatClampNeg) (xs (b18_3 + (3 : Int32)).toNatClampNeg) (xs (b18_3 + (4 : Int32)).toNatClampNeg) h) cd_X9_draw ml_L_103 ⟨(Nat.le_of_ble_eq_true rfl), (Nat.le_of_ble_eq_true rfl)⟩ rfl hl.1 rfl (Nat.le_of_ble_eq_true rfl) dL_law_1072 ⟨hkc, hks⟩ (fun r185 X H locs h S => ?_)
        refine lv_aload_n hx hb dL_law_1075 rfl (lv_at hl 2 rfl) ?_
        refine lv_aload_n hx hb dL_law_1076 rfl (lv_at hl 0 rfl) ?_
        refine lv_iload_n hx hb dL_law_1077 rfl (lv_at hl 3 rfl) ?_
        refine lv_iconst (v := (1 : Int32)) hx hb dL_law_1078 (by decide) ?_
        refine lv_iadd hx hb dL_law_1079 ?_
        have hi := h.1
        have h := h.2
        refine va_sld hx hb hX hbl hbA S.2.2 hi dL_law_1080 ?_
        refine lv_aload_n hx hb dL_law_1081 rfl (lv_at hl 0 rfl) ?_
        refine lv_iload_n hx hb dL_law_1082 rfl (lv_at hl 3 rfl) ?_
        refine lv_iconst (v := (2 : Int32)) hx hb dL_law_1083 (by decide) ?_
        refine lv_iadd hx hb dL_law_1084 ?_
        have hi := h.1
        have h := h.2
        refine va_sld hx hb hX hbl hbA S.2.2 hi dL_law_1085 ?_
        refine lv_aload_n hx hb dL_law_1086 rfl (lv_at hl 0 rfl) ?_
        refine lv_iload_n hx hb dL_law_1087 rfl (lv_at hl 3 rfl) ?_
        refine lv_iconst (v := (3 : Int32)) hx hb dL_law_1088 (by decide) ?_
        refine lv_iadd hx hb dL_law_1089 ?_
        have hi := h.1
        have h := h.2
        refine va_sld hx hb hX hbl hbA S.2.2 hi dL_law_1090 ?_
        refine lv_aload_n hx hb dL_law_1091 rfl (lv_at hl 0 rfl) ?_
        refine lv_iload_n hx hb dL_law_1092 rfl (lv_at hl 3 rfl) ?_
        refine lv_iconst (v := (4 : Int32)) hx hb dL_law_1093 (by decide) ?_
        refine lv_iadd hx hb dL_law_1094 ?_
        have hi := h.1
        have h := h.2
        refine va_sld hx hb hX hbl hbA S.2.2 hi dL_law_1095 ?_
        obtain ⟨fs189, hfs189, h⟩ := h
        obtain ⟨hkc, hks, h⟩ := h
        refine x_cMVi (As := [.int (xs (b18_3 + (1 : Int32)).toNatClampNeg), .int (xs (b18_3 + (2 : Int32)).toNatClampNeg), .int (xs (b18_3 + (3 : Int32)).toNatClampNeg), .int (xs (b18_3 + (4 : Int32)).toNatClampNeg)]) (rest := [.int r185]) G S hA hfs189 rfl rfl (c_X10_draw l D kA _ _ _ b18_2 (xs (b18_3 + (1 : Int32)).toNatClampNeg) (xs (b18_3 + (2 : Int32)).toNatClampNeg) (xs (b18_3 + (3 : Int32)).toNatClampNeg) (xs (b18_3 + (4 : Int32)).toNatClampNeg) h) cd_X10_draw ml_L_106 ⟨(Nat.le_of_ble_eq_true rfl), (Nat.le_of_ble_eq_true rfl)⟩ rfl hl.1 rfl (Nat.le_of_ble_eq_true rfl) dL_law_1096 ⟨hkc, hks⟩ (fun r187 X H locs h S => ?_)
        refine lv_icmp_eq (tgt := 1173) hx hb dL_law_1099 (by decide) (fun c188 => ?_) (fun c188 => ?_)
        · have h := h.1 c188
          exact J_1173 _ _ _ _ _ _ _ _ h S ls (lv_sub hl [0, 1, 2, 3] rfl)
        · have h := h.2 c188
          refine lv_iconst (v := (0 : Int32)) hx hb dL_law_1102 (by decide) ?_
          exact h.elim
      have h := h.2
      by_cases c191 : ((xs b18_3.toNatClampNeg) &&& (31 : Int32)) = (22 : Int32)
      · have h := h.1 c191
        refine lv_tableIn (off := 1071) (tgt := 1104) hx hb dL_law_33 (by rw [c191]; decide) (by rw [c191]; decide) (by rw [c191]; decide) (by decide) ?_
        refine lv_aload_n hx hb dL_law_1104 rfl (lv_at hl 1 rfl) ?_
        refine lv_aload_n hx hb dL_law_1105 rfl (lv_at hl 0 rfl) ?_
        refine lv_iload_n hx hb dL_law_1106 rfl (lv_at hl 3 rfl) ?_
        refine lv_iconst (v := (1 : Int32)) hx hb dL_law_1107 (by decide) ?_
        refine lv_iadd hx hb dL_law_1108 ?_
        have hi := h.1
        have h := h.2
        refine va_sld hx hb hX hbl hbA S.2.2 hi dL_law_1109 ?_
        obtain ⟨fs198, hfs198, h⟩ := h
        obtain ⟨hkc, hks, h⟩ := h
        refine x_cMVi (As := [.int (xs (b18_3 + (1 : Int32)).toNatClampNeg)]) (rest := []) G S hA hfs198 rfl rfl (c_X9_image l D kA _ _ _ b18_1 (xs (b18_3 + (1 : Int32)).toNatClampNeg) h) cd_X9_image ml_L_107 ⟨(Nat.le_of_ble_eq_true rfl), (Nat.le_of_ble_eq_true rfl)⟩ rfl hl.1 rfl (Nat.le_of_ble_eq_true rfl) dL_law_1110 ⟨hkc, hks⟩ (fun r193 X H locs h S => ?_)
        refine lv_aload_n hx hb dL_law_1113 rfl (lv_at hl 2 rfl) ?_
        refine lv_aload_n hx hb dL_law_1114 rfl (lv_at hl 0 rfl) ?_
        refine lv_iload_n hx hb dL_law_1115 rfl (lv_at hl 3 rfl) ?_
        refine lv_iconst (v := (1 : Int32)) hx hb dL_law_1116 (by decide) ?_
        refine lv_iadd hx hb dL_law_1117 ?_
        have hi := h.1
        have h := h.2
        refine va_sld hx hb hX hbl hbA S.2.2 hi dL_law_1118 ?_
        obtain ⟨fs197, hfs197, h⟩ := h
        obtain ⟨hkc, hks, h⟩ := h
        refine x_cMVi (As := [.int (xs (b18_3 + (1 : Int32)).toNatClampNeg)]) (rest := [.int r193]) G S hA hfs197 rfl rfl (c_X10_image l D kA _ _ _ b18_2 (xs (b18_3 + (1 : Int32)).toNatClampNeg) h) cd_X10_image ml_L_110 ⟨(Nat.le_of_ble_eq_true rfl), (Nat.le_of_ble_eq_true rfl)⟩ rfl hl.1 rfl (Nat.le_of_ble_eq_true rfl) dL_law_1119 ⟨hkc, hks⟩ (fun r195 X H locs h S => ?_)
        refine lv_icmp_eq (tgt := 1173) hx hb dL_law_1122 (by decide) (fun c196 => ?_) (fun c196 => ?_)
        · have h := h.1 c196
          exact J_1173 _ _ _ _ _ _ _ _ h S ls (lv_sub hl [0, 1, 2, 3] rfl)
        · have h := h.2 c196
          refine lv_iconst (v := (0 : Int32)) hx hb dL_law_1125 (by decide) ?_
          exact h.elim
      have h := h.2
      by_cases c199 : ((xs b18_3.toNatClampNeg) &&& (31 : Int32)) = (23 : Int32)
      · have h := h.1 c199
        refine lv_tableIn (off := 1094) (tgt := 1127) hx hb dL_law_33 (by rw [c199]; decide) (by rw [c199]; decide) (by rw [c199]; decide) (by decide) ?_
        refine lv_aload_n hx hb dL_law_1127 rfl (lv_at hl 1 rfl) ?_
        refine lv_aload_n hx hb dL_law_1128 rfl (lv_at hl 0 rfl) ?_
        refine lv_iload_n hx hb dL_law_1129 rfl (lv_at hl 3 rfl) ?_
        refine lv_iconst (v := (1 : Int32)) hx hb dL_law_1130 (by decide) ?_
        refine lv_iadd hx hb dL_law_1131 ?_
        have hi := h.1
        have h := h.2
        refine va_sld hx hb hX hbl hbA S.2.2 hi dL_law_1132 ?_
        obtain ⟨fs206, hfs206, h⟩ := h
        obtain ⟨hkc, hks, h⟩ := h
        refine x_cMVi (As := [.int (xs (b18_3 + (1 : Int32)).toNatClampNeg)]) (rest := []) G S hA hfs206 rfl rfl (c_X9_restore l D kA _ _ _ b18_1 (xs (b18_3 + (1 : Int32)).toNatClampNeg) h) cd_X9_restore ml_L_111 ⟨(Nat.le_of_ble_eq_true rfl), (Nat.le_of_ble_eq_true rfl)⟩ rfl hl.1 rfl (Nat.le_of_ble_eq_true rfl) dL_law_1133 ⟨hkc, hks⟩ (fun r201 X H locs h S => ?_)
        refine lv_aload_n hx hb dL_law_1136 rfl (lv_at hl 2 rfl) ?_
        refine lv_aload_n hx hb dL_law_1137 rfl (lv_at hl 0 rfl) ?_
        refine lv_iload_n hx hb dL_law_1138 rfl (lv_at hl 3 rfl) ?_
        refine lv_iconst (v := (1 : Int32)) hx hb dL_law_1139 (by decide) ?_
        refine lv_iadd hx hb dL_law_1140 ?_
        have hi := h.1
        have h := h.2
        refine va_sld hx hb hX hbl hbA S.2.2 hi dL_law_1141 ?_
        obtain ⟨fs205, hfs205, h⟩ := h
        obtain ⟨hkc, hks, h⟩ := h
        refine x_cMVi (As := [.int (xs (b18_3 + (1 : Int32)).toNatClampNeg)]) (rest := [.int r201]) G S hA hfs205 rfl rfl (c_X10_restore l D kA _ _ _ b18_2 (xs (b18_3 + (1 : Int32)).toNatClampNeg) h) cd_X10_restore ml_L_114 ⟨(Nat.le_of_ble_eq_true rfl), (Nat.le_of_ble_eq_true rfl)⟩ rfl hl.1 rfl (Nat.le_of_ble_eq_true rfl) dL_law_1142 ⟨hkc, hks⟩ (fun r203 X H locs h S => ?_)
        refine lv_icmp_eq (tgt := 1173) hx hb dL_law_1145 (by decide) (fun c204 => ?_) (fun c204 => ?_)
        · have h := h.1 c204
          exact J_1173 _ _ _ _ _ _ _ _ h S ls (lv_sub hl [0, 1, 2, 3] rfl)
        · have h := h.2 c204
          refine lv_iconst (v := (0 : Int32)) hx hb dL_law_1148 (by decide) ?_
          exact h.elim
      have h := h.2
      by_cases c207 : ((xs b18_3.toNatClampNeg) &&& (31 : Int32)) = (24 : Int32)
      · have h := h.1 c207
        refine lv_tableIn (off := 1117) (tgt := 1150) hx hb dL_law_33 (by rw [c207]; decide) (by rw [c207]; decide) (by rw [c207]; decide) (by decide) ?_
        refine lv_aload_n hx hb dL_law_1150 rfl (lv_at hl 1 rfl) ?_
        refine lv_aload_n hx hb dL_law_1151 rfl (lv_at hl 0 rfl) ?_
        refine lv_iload_n hx hb dL_law_1152 rfl (lv_at hl 3 rfl) ?_
        refine lv_iconst (v := (1 : Int32)) hx hb dL_law_1153 (by decide) ?_
        refine lv_iadd hx hb dL_law_1154 ?_
        have hi := h.1
        have h := h.2
        refine va_sld hx hb hX hbl hbA S.2.2 hi dL_law_1155 ?_
        obtain ⟨fs212, hfs212, h⟩ := h
        obtain ⟨hkc, hks, h⟩ := h
        refine x_cRVi (As := [.int (xs (b18_3 + (1 : Int32)).toNatClampNeg)]) (rest := []) G S.1 hfs212 rfl rfl (c_X9_told l D kA _ _ b18_1 (xs (b18_3 + (1 : Int32)).toNatClampNeg) h) cd_X9_told ml_L_115 ⟨(Nat.le_of_ble_eq_true rfl), (Nat.le_of_ble_eq_true rfl)⟩ rfl hl.1 rfl (Nat.le_of_ble_eq_true rfl) dL_law_1156 ⟨hkc, hks⟩ (fun r208 h => ?_)
        refine lv_aload_n hx hb dL_law_1159 rfl (lv_at hl 2 rfl) ?_
        refine lv_aload_n hx hb dL_law_1160 rfl (lv_at hl 0 rfl) ?_
        refine lv_iload_n hx hb dL_law_1161 rfl (lv_at hl 3 rfl) ?_
        refine lv_iconst (v := (1 : Int32)) hx hb dL_law_1162 (by decide) ?_
        refine lv_iadd hx hb dL_law_1163 ?_
        have hi := h.1
        have h := h.2
        refine va_sld hx hb hX hbl hbA S.2.2 hi dL_law_1164 ?_
        obtain ⟨fs211, hfs211, h⟩ := h
        obtain ⟨hkc, hks, h⟩ := h
        refine x_cRVi (As := [.int (xs (b18_3 + (1 : Int32)).toNatClampNeg)]) (rest := [.int r208]) G S.1 hfs211 rfl rfl (c_X10_told l D kA _ _ b18_2 (xs (b18_3 + (1 : Int32)).toNatClampNeg) h) cd_X10_told ml_L_118 ⟨(Nat.le_of_ble_eq_true rfl), (Nat.le_of_ble_eq_true rfl)⟩ rfl hl.1 rfl (Nat.le_of_ble_eq_true rfl) dL_law_1165 ⟨hkc, hks⟩ (fun r209 h => ?_)
        refine lv_icmp_eq (tgt := 1173) hx hb dL_law_1168 (by decide) (fun c210 => ?_) (fun c210 => ?_)
        · have h := h.1 c210
          exact J_1173 _ _ _ _ _ _ _ _ h S ls (lv_sub hl [0, 1, 2, 3] rfl)
        · have h := h.2 c210
          refine lv_iconst (v := (0 : Int32)) hx hb dL_law_1171 (by decide) ?_
          exact h.elim
      have h := h.2
      have h := h ⟨c13, c21, c29, c35, c43, c49, c55, c63, c71, c77, c85, c95, c105, c115, c125, c135, c145, c155, c163, c171, c177, c183, c191, c199, c207⟩
      refine lv_tableOut (tgt := 1173) hx hb dL_law_33 (by have := lv_neT c13 (show (0 : Int32).toInt = 0 by decide); have := lv_neT c21 (show (1 : Int32).toInt = 1 by decide); have := lv_neT c29 (show (2 : Int32).toInt = 2 by decide); have := lv_neT c35 (show (3 : Int32).toInt = 3 by decide); have := lv_neT c43 (show (4 : Int32).toInt = 4 by decide); have := lv_neT c49 (show (5 : Int32).toInt = 5 by decide); have := lv_neT c55 (show (6 : Int32).toInt = 6 by decide); have := lv_neT c63 (show (7 : Int32).toInt = 7 by decide); have := lv_neT c71 (show (8 : Int32).toInt = 8 by decide); have := lv_neT c77 (show (9 : Int32).toInt = 9 by decide); have := lv_neT c85 (show (10 : Int32).toInt = 10 by decide); have := lv_neT c95 (show (11 : Int32).toInt = 11 by decide); have := lv_neT c105 (show (12 : Int32).toInt = 12 by decide); have := lv_neT c115 (show (13 : Int32).toInt = 13 by decide); have := lv_neT c125 (show (14 : Int32).toInt = 14 by decide); have := lv_neT c135 (show (15 : Int32).toInt = 15 by decide); have := lv_neT c145 (show (16 : Int32).toInt = 16 by decide); have := lv_neT c155 (show (17 : Int32).toInt = 17 by decide); have := lv_neT c163 (show (18 : Int32).toInt = 18 by decide); have := lv_neT c171 (show (19 : Int32).toInt = 19 by decide); have := lv_neT c177 (show (20 : Int32).toInt = 20 by decide); have := lv_neT c183 (show (21 : Int32).toInt = 21 by decide); have := lv_neT c191 (show (22 : Int32).toInt = 22 by decide); have := lv_neT c199 (show (23 : Int32).toInt = 23 by decide); have := lv_neT c207 (show (24 : Int32).toInt = 24 by decide); omega) (by decide) ?_
      exact J_1173 _ _ _ _ _ _ _ _ h S ls (lv_sub hl [0, 1, 2, 3] rfl)
set_option maxHeartbeats 40000000 in
set_option maxRecDepth 100000 in
theorem c_L_law {p : Program} {l : Launch} {e : Env} {s : State} {m : MethodId} {below : List Frame} {meth : Method} {c : Code} {D : va_G} {kA : Nat → ClassId} {v0 Lx : Nat} {xs : Nat → Int32} (G : Gx p s m #[Value.ref v0] c cL_law 4 RL D kA) (hr : meth.sig.returnType = ret) (hlk : meth.locks = false) (hX : va_X v0 Lx xs s s.heap) (hbl : v0 < s.heap.size) (h : wp_L_law Lx xs ([], fun _ => .inr (0, []))) (S : Sx D kA (fun q : Nat => s.heap.size ≤ q) s.heap s.heap [] ([], fun _ => .inr (0, []))) : ∀ ls, lv_has ls 4 [(0, .ref v0)] → W p l e room_1 s m #[Value.ref v0] below meth c s.heap [] 0 0 (lw_Z below #[Value.ref v0] s) (F0 m 0 ls []) := by
  obtain ⟨hx, hb, hml, hown, hts, hE, hK⟩ := id G
  have hA : ∀ q : Nat, s.heap.size ≤ q → (fun q : Nat => s.heap.size ≤ q) q := fun _ h => h
  have hbA : ¬ (fun q : Nat => s.heap.size ≤ q) v0 := Nat.not_le.mpr hbl
  intro ls hl
  unfold wp_L_law at h
  obtain ⟨hc1, hc2, h⟩ := h
  refine x_new G S hA nw_L_7 hc1 hc2 dL_law_0 (fun q1 H hq1 S => ?_)
  have h := h q1 hq1 _ rfl
  refine lv_dup hx hb dL_law_3 rfl ?_
  obtain ⟨m3, m4, hm1, hm2, h⟩ := h
  refine x_cMIv (As := []) (rest := [.ref q1]) G S hA (c_X9_init l D kA _ _ _ _ _ q1 h) cd_X9_init ml_L_9 ⟨(Nat.le_of_ble_eq_true rfl), (Nat.le_of_ble_eq_true rfl)⟩ rfl hl.1 rfl (Nat.le_of_ble_eq_true rfl) dL_law_4 ⟨hm1, hm2⟩ (fun X H locs h S => ?_)
  refine lv_astore_n (lv' := [(1, .ref q1), (0, .ref v0)]) hx hb dL_law_7 rfl hl (by decide) rfl (fun ls hl => ?_)
  obtain ⟨hc1, hc2, h⟩ := h
  refine x_new G S hA nw_L_10 hc1 hc2 dL_law_8 (fun q6 H hq6 S => ?_)
  have h := h q6 hq6 _ rfl
  refine lv_dup hx hb dL_law_11 rfl ?_
  obtain ⟨m8, m9, hm1, hm2, h⟩ := h
  refine x_cMIv (As := []) (rest := [.ref q6]) G S hA (c_X10_init l D kA _ _ _ _ _ q6 h) cd_X10_init ml_L_12 ⟨(Nat.le_of_ble_eq_true rfl), (Nat.le_of_ble_eq_true rfl)⟩ rfl hl.1 rfl (Nat.le_of_ble_eq_true rfl) dL_law_12 ⟨hm1, hm2⟩ (fun X H locs h S => ?_)
  refine lv_astore_n (lv' := [(2, .ref q6), (1, .ref q1), (0, .ref v0)]) hx hb dL_law_15 rfl hl (by decide) rfl (fun ls hl => ?_)
  refine lv_iconst (v := (0 : Int32)) hx hb dL_law_16 (by decide) ?_
  refine lv_istore_n (lv' := [(3, .int (0 : Int32)), (2, .ref q6), (1, .ref q1), (0, .ref v0)]) hx hb dL_law_17 rfl hl (by decide) rfl (fun ls hl => ?_)
  obtain ⟨n11, h⟩ := h
  exact c_L_law_18 G hr hlk hX hbl n11 _ _ _ _ _ _ _ _ h S ls (lv_sub hl [3, 2, 1, 0] rfl)
