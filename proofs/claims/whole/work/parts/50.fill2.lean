def cnB (f : Nat → Bool) : Nat → Nat
  | 0 => 0
  | n + 1 => cnB f n + (if f n then 1 else 0)
theorem cnB_mono {f g : Nat → Bool} : ∀ {n : Nat}, (∀ i, i < n → f i = true → g i = true) → cnB f n ≤ cnB g n
  | 0, _ => Nat.le_refl _
  | n + 1, h => by
    have ih := cnB_mono (f := f) (g := g) (n := n) (fun i hi => h i (by omega))
    unfold cnB
    have := h n (by omega)
    by_cases c : f n = true
    · rw [if_pos c, if_pos (this c)]
      omega
    · rw [if_neg c]
      omega
theorem cnB_lt {f g : Nat → Bool} {k : Nat} (hf : f k = false) (hg : g k = true) : ∀ {n : Nat}, k < n → (∀ i, i < n → f i = true → g i = true) → cnB f n + 1 ≤ cnB g n
  | 0, h, _ => by omega
  | n + 1, hk, h => by
    unfold cnB
    by_cases c : k = n
    · subst c
      have := cnB_mono (f := f) (g := g) (n := k) (fun i hi => h i (by omega))
      rw [hf, hg]
      simp
      omega
    · have ih := cnB_lt hf hg (n := n) (by omega) (fun i hi => h i (by omega))
      have h2 := h n (by omega)
      by_cases c2 : f n = true
      · rw [if_pos c2, if_pos (h2 c2)]
        omega
      · rw [if_neg c2]
        omega
theorem cnB_congr {f g : Nat → Bool} {n : Nat} (h : ∀ i, i < n → f i = g i) : cnB f n = cnB g n := Nat.le_antisymm (cnB_mono (fun i hi q => by rw [← h i hi]; exact q)) (cnB_mono (fun i hi q => by rw [h i hi]; exact q))
theorem cnB_one {f g : Nat → Bool} {k : Nat} (hf : f k = false) (hg : g k = true) : ∀ {n : Nat}, k < n → (∀ i, i < n → i ≠ k → f i = g i) → cnB g n = cnB f n + 1
  | 0, h, _ => by omega
  | n + 1, hk, h => by
    unfold cnB
    by_cases c : k = n
    · subst c
      rw [cnB_congr (f := g) (g := f) (fun i hi => (h i (by omega) (by omega)).symm), hf, hg]
      simp
    · have ih := cnB_one hf hg (n := n) (by omega) (fun i hi => h i (by omega))
      rw [ih, h n (by omega) (fun e => c e.symm)]
      omega
theorem cnB_le {f : Nat → Bool} : ∀ {n : Nat}, cnB f n ≤ n
  | 0 => Nat.le_refl _
  | n + 1 => by
    have := cnB_le (f := f) (n := n)
    unfold cnB
    split <;> omega
def nmB (Y : TY) (p i : Nat) : Bool := (tP Y p i).isSome
def TsB (W : WD) (h b l i : Nat) : Bool := decide (i % 5 ≤ l) && decide (i / 5 ≤ b) && decide (i / 5 ≤ hrs W - h + i % 5)
def tgB (Y : TY) (p : Nat) (W : WD) (h b l i : Nat) : Bool := nmB Y p i || TsB W h b l i
def cnP (Y : TY) (p : Nat) : Nat := cnB (nmB Y p) 125
def zzP (Y : TY) (p : Nat) (W : WD) (h b l : Nat) : Nat := cnB (tgB Y p W h b l) 125 - cnP Y p
theorem cnP_eq {Y Y' : TY} {p : Nat} (h : ∀ i, i < 125 → nmB Y' p i = nmB Y p i) : cnP Y' p = cnP Y p := by
  unfold cnP
  exact cnB_congr h
theorem cnP_one {Y Y' : TY} {p k : Nat} (hf : nmB Y p k = false) (hg : nmB Y' p k = true) (hk : k < 125) (h : ∀ i, i < 125 → i ≠ k → nmB Y p i = nmB Y' p i) : cnP Y' p = cnP Y p + 1 := by
  unfold cnP
  exact cnB_one hf hg hk h
theorem cnP_lt {Y : TY} {p k : Nat} {g : Nat → Bool} (hf : nmB Y p k = false) (hg : g k = true) (hk : k < 125) (h : ∀ i, i < 125 → nmB Y p i = true → g i = true) : cnP Y p + 1 ≤ cnB g 125 := by
  unfold cnP
  exact cnB_lt hf hg hk h
theorem cnP_le {Y : TY} {p : Nat} {g : Nat → Bool} (h : ∀ i, i < 125 → nmB Y p i = true → g i = true) : cnP Y p ≤ cnB g 125 := by
  unfold cnP
  exact cnB_mono h
section FL
variable {st : TS} {Y : TY} {p mc ms : Nat} {W : WD} {N : ND}
theorem TsB_of {h b l c l' : Nat} (h1 : l' ≤ l) (h2 : c ≤ b) (h3 : c ≤ hrs W - h + l') (h4 : l' ≤ 4) : TsB W h b l (c * 5 + l') = true := by
  simp only [TsB, Bool.and_eq_true, decide_eq_true_eq]
  have e1 : (c * 5 + l') % 5 = l' := by omega
  have e2 : (c * 5 + l') / 5 = c := by omega
  rw [e1, e2]
  exact ⟨⟨h1, h2⟩, h3⟩
set_option maxHeartbeats 4000000 in
theorem c_fill {post : TY → Prop} (hc : PC st Y p W N) (hok : PlOK Y p W N) (hN : wfN N) {h b l : Nat} (hh : h ≤ hrs W) (hb : b ≤ 24) (hl : l ≤ 4) (hmc : 2 * zzP Y p W h b l ≤ mc) (hms : 1031 * zzP Y p W h b l ≤ ms)
    (hp : ∀ Y', PF st p Y Y' → PC st Y' p W N → PlOK Y' p W N → Fl Y' p (cap W h b l) l h → (∀ i, i < 125 → nmB Y' p i = tgB Y p W h b l i) → post Y') : tp_X4_fill st post mc ms Y p (nI h) (nI b) (nI l) := by
  have hw := hc.2.2.2.2.1
  have h48 := hw.1.2.1
  have z0 : ∀ n : Nat, 0 ≤ n := Nat.zero_le
  have hcl : cap W h b l ≤ 24 := by unfold cap; omega
  have hcl2 : cap W h b l ≤ hrs W - h + l := by unfold cap; omega
  -- what holds all along
  have sub : ∀ {Yc}, PF st p Y Yc → ∀ i, nmB Y p i = true → nmB Yc p i = true := by
    intro Yc F i q
    unfold nmB at q ⊢
    obtain ⟨x, hx⟩ := Option.isSome_iff_exists.mp q
    rw [F.2.2.2.1 i x hx]
    rfl
  have cle : ∀ {Yc}, PF st p Y Yc → cnP Y p ≤ cnP Yc p := fun {Yc} F => cnP_le (g := nmB Yc p) (fun i _ q => sub F i q)
  have tle : ∀ {Yc}, (∀ i, i < 125 → nmB Yc p i = true → tgB Y p W h b l i = true) → cnP Yc p ≤ cnB (tgB Y p W h b l) 125 := fun {Yc} q => cnP_le q
  have fin : ∀ Yc kc ks, kc = 2 * (cnP Yc p - cnP Y p) → ks = 1031 * (cnP Yc p - cnP Y p) → PF st p Y Yc → PC st Yc p W N → PlOK Yc p W N → (∀ i, i < 125 → nmB Yc p i = true → tgB Y p W h b l i = true) → (∀ l' c', l' ≤ l → c' ≤ b → c' ≤ hrs W - h + l' → Fl Yc p c' l' h) → kc ≤ mc ∧ ks ≤ ms ∧ post Yc := by
    intro Yc kc ks ek es F C O T A
    have t1 := tle T
    have t2 := cle F
    unfold zzP at hmc hms
    refine ⟨by omega, by omega, hp Yc F C O (A l (cap W h b l) (Nat.le_refl _) (by unfold cap; omega) hcl2) (fun i hi => ?_)⟩
    by_cases q : nmB Yc p i = true
    · rw [q, T i hi q]
    · have q1 : nmB Y p i = false := by
        cases hq : nmB Y p i
        · rfl
        · exact absurd (sub F i hq) q
      have q2 : TsB W h b l i = false := by
        cases hq : TsB W h b l i
        · rfl
        · exfalso
          simp only [TsB, Bool.and_eq_true, decide_eq_true_eq] at hq
          obtain ⟨x, f, x1, -⟩ := A (i % 5) (i / 5) hq.1.1 hq.1.2 hq.2
          rw [show i / 5 * 5 + i % 5 = i by omega] at x1
          exact q (by unfold nmB; rw [x1]; rfl)
      unfold tgB
      rw [q1, q2]
      cases hq : nmB Yc p i
      · rfl
      · exact absurd hq q
  -- the planes of an hour and of so many lies
  have bl : ∀ (r33 : TY → Nat → Nat → Int32 → Prop) (r59 : TY → Nat → Nat → Int32 → Int32 → Prop) (h2 l2 : Nat), h ≤ h2 → h2 ≤ hrs W → l2 ≤ l →
      (∀ Yc kc ks, kc = 2 * (cnP Yc p - cnP Y p) → ks = 1031 * (cnP Yc p - cnP Y p) → PF st p Y Yc → PC st Yc p W N → PlOK Yc p W N → (∀ d o, d < 10 → o ≤ 20 → SRow Yc (st.1 p 2) W N h2 d o) → (∀ i, i < 125 → nmB Yc p i = true → tgB Y p W h b l i = true) → (∀ h3 l' c', h2 < h3 → h3 ≤ hrs W → l' ≤ l → c' ≤ b → c' ≤ hrs W - h3 + l' → Fl Yc p c' l' h3) → (∀ l' c', l' < l2 + 1 → c' ≤ b → c' ≤ hrs W - h2 + l' → Fl Yc p c' l' h2) → r59 Yc kc ks (nI h2) (nI (l2 + 1))) →
      ∀ j b2 Yc kc ks, b2 + j = cap W h2 b l2 + 1 → kc = 2 * (cnP Yc p - cnP Y p) → ks = 1031 * (cnP Yc p - cnP Y p) → PF st p Y Yc → PC st Yc p W N → PlOK Yc p W N → (∀ d o, d < 10 → o ≤ 20 → SRow Yc (st.1 p 2) W N h2 d o) → (∀ i, i < 125 → nmB Yc p i = true → tgB Y p W h b l i = true) → (∀ h3 l' c', h2 < h3 → h3 ≤ hrs W → l' ≤ l → c' ≤ b → c' ≤ hrs W - h3 + l' → Fl Yc p c' l' h3) → (∀ l' c', l' < l2 → c' ≤ b → c' ≤ hrs W - h2 + l' → Fl Yc p c' l' h2) → (∀ c', c' < b2 → Fl Yc p c' l2 h2) →
        tk_X4_fill_79 st post mc ms p (nI h) (nI b) (nI l) r33 r59 (j + 1) Yc kc ks (nI h2) (nI l2) (nI (cap W h2 b l2)) (nI b2) := by
    intro r33 r59 h2 l2 hh1 hh2 hl2 hc59 j
    induction j with
    | zero =>
      intro b2 Yc kc ks hb2 ek es F C O S T A1 A2 A3
      rw [tk_X4_fill_79]
      have hcp : cap W h2 b l2 ≤ 24 := by unfold cap; omega
      rw [nI_ltI (by omega) (by omega)]
      refine ⟨fun _ x ex => ?_, fun q => by omega⟩
      rw [ex, show nI l2 + (1 : Int32) = nI (l2 + 1) from nI_1 l2]
      refine hc59 Yc kc ks ek es F C O S T A1 (fun l' c' q1 q2 q3 => ?_)
      by_cases e : l' = l2
      · subst e
        exact A3 c' (by unfold cap at hb2; omega)
      · exact A2 l' c' (by omega) q2 q3
    | succ j ih =>
      intro b2 Yc kc ks hb2 ek es F C O S T A1 A2 A3
      rw [tk_X4_fill_79]
      have hcp : cap W h2 b l2 ≤ 24 := by unfold cap; omega
      have hcb : b2 ≤ b ∧ b2 ≤ hrs W - h2 + l2 := by
        have : b2 ≤ cap W h2 b l2 := by omega
        unfold cap at this
        omega
      rw [nI_ltI (by omega) (by omega)]
      refine ⟨fun q => by omega, fun _ => ?_⟩
      have hT : TsB W h b l (b2 * 5 + l2) = true := TsB_of hl2 hcb.1 (by omega) (by omega)
      have t1 := tle T
      have t2 := cle F
      have hA : ∀ h3 l' c', l' ≤ l2 → c' ≤ b2 → h3 ≤ hrs W → c' ≤ hrs W - h3 + l' → (h2 < h3 ∨ (h3 = h2 ∧ (l' < l2 ∨ c' < b2))) → Fl Yc p c' l' h3 := by
        intro h3 l' c' q1 q2 q3 q4 q5
        rcases q5 with q5 | ⟨q5, q6⟩
        · exact A1 h3 l' c' q5 q3 (by omega) (by omega) q4
        · subst q5
          rcases Nat.lt_or_ge l' l2 with q7 | q7
          · exact A2 l' c' q7 (by omega) q4
          · have : l' = l2 := by omega
            subst this
            exact A3 c' (by omega)
      have nxt : ∀ (z : Nat), (z = 0 ∧ nmB Yc p (b2 * 5 + l2) = true ∨ z = 1 ∧ nmB Yc p (b2 * 5 + l2) = false) → ∀ Y', PF st p Yc Y' → PC st Y' p W N → PlOK Y' p W N → FM p Yc Y' → Fl Y' p b2 l2 h2 → (∀ t, tA Y' (st.1 p 2) t = tA Yc (st.1 p 2) t) → (∀ i, i ≠ b2 * 5 + l2 → tP Y' p i = tP Yc p i) → ∀ x : Int32, x = nI b2 + (1 : Int32) → tk_X4_fill_79 st post mc ms p (nI h) (nI b) (nI l) r33 r59 (j + 1) Y' (kc + 2 * z) (ks + 1031 * z) (nI h2) (nI l2) (nI (cap W h2 b l2)) x := by
        intro z hz Y' F' C' O' M' L' S' P' x ex
        rw [ex, show nI b2 + (1 : Int32) = nI (b2 + 1) from nI_1 b2]
        have hnew : nmB Y' p (b2 * 5 + l2) = true := by
          obtain ⟨x, f, x1, -⟩ := L'
          unfold nmB
          rw [x1]
          rfl
        have hoth : ∀ i, i ≠ b2 * 5 + l2 → nmB Y' p i = nmB Yc p i := fun i hi => by unfold nmB; rw [P' i hi]
        have ecn : cnP Y' p = cnP Yc p + z := by
          rcases hz with ⟨z1, z2⟩ | ⟨z1, z2⟩
          · rw [z1, Nat.add_zero]
            refine cnP_eq (fun i hi => ?_)
            by_cases e : i = b2 * 5 + l2
            · rw [e, hnew, z2]
            · exact hoth i e
          · rw [z1]
            exact cnP_one z2 hnew (by omega) (fun i _ hi => (hoth i hi).symm)
        refine ih (b2 + 1) Y' _ _ (by omega) (by omega) (by omega) (F.trans F') C' O' (fun d o q1 q2 => ?_) (fun i hi q => ?_) (fun h3 l' c' q1 q2 q3 q4 q5 => M' _ _ _ (A1 h3 l' c' q1 q2 q3 q4 q5)) (fun l' c' q1 q2 q3 => M' _ _ _ (A2 l' c' q1 q2 q3)) (fun c' q => ?_)
        · have := S d o q1 q2
          unfold SRow at this ⊢
          rw [S', S', S']
          exact this
        · by_cases e : i = b2 * 5 + l2
          · rw [e]
            unfold tgB
            rw [hT]
            simp
          · exact T i hi (by rw [← hoth i e]; exact q)
        · by_cases e : c' = b2
          · rw [e]
            exact L'
          · exact M' _ _ _ (A3 c' (by omega))
      cases hx : nmB Yc p (b2 * 5 + l2) with
      | true =>
        refine ⟨0, 0, ?_, ?_, ?_⟩
        · unfold zzP at hmc
          omega
        · unfold zzP at hms
          omega
        · refine c_fillHour C O hN hh2 (by omega) (by omega) hcb.2 S hA (fun q => ?_) (fun Y' F' C' O' M' L' S' P' => nxt 0 (Or.inl ⟨rfl, hx⟩) Y' F' C' O' M' L' S' P')
          unfold nmB at hx
          rw [q] at hx
          cases hx
      | false =>
        have t3 : cnP Yc p + 1 ≤ cnB (tgB Y p W h b l) 125 := cnP_lt hx (by unfold tgB; rw [hT]; simp) (by omega) T
        refine ⟨2, 1031, ?_, ?_, ?_⟩
        · unfold zzP at hmc
          omega
        · unfold zzP at hms
          omega
        · exact c_fillHour C O hN hh2 (by omega) (by omega) hcb.2 S hA (fun _ => ⟨Nat.le_refl _, Nat.le_refl _⟩) (fun Y' F' C' O' M' L' S' P' => nxt 1 (Or.inr ⟨rfl, hx⟩) Y' F' C' O' M' L' S' P')
  -- the lies of an hour
  have ll : ∀ (r33 : TY → Nat → Nat → Int32 → Prop) (h2 : Nat), h ≤ h2 → h2 ≤ hrs W →
      (∀ Yc kc ks, kc = 2 * (cnP Yc p - cnP Y p) → ks = 1031 * (cnP Yc p - cnP Y p) → PF st p Y Yc → PC st Yc p W N → PlOK Yc p W N → (∀ i, i < 125 → nmB Yc p i = true → tgB Y p W h b l i = true) → (∀ h3 l' c', h2 ≤ h3 → h3 ≤ hrs W → l' ≤ l → c' ≤ b → c' ≤ hrs W - h3 + l' → Fl Yc p c' l' h3) → r33 Yc kc ks (iI ((h2 : Int) - 1))) →
      ∀ j l2 Yc kc ks, l2 + j = l + 1 → kc = 2 * (cnP Yc p - cnP Y p) → ks = 1031 * (cnP Yc p - cnP Y p) → PF st p Y Yc → PC st Yc p W N → PlOK Yc p W N → (∀ d o, d < 10 → o ≤ 20 → SRow Yc (st.1 p 2) W N h2 d o) → (∀ i, i < 125 → nmB Yc p i = true → tgB Y p W h b l i = true) → (∀ h3 l' c', h2 < h3 → h3 ≤ hrs W → l' ≤ l → c' ≤ b → c' ≤ hrs W - h3 + l' → Fl Yc p c' l' h3) → (∀ l' c', l' < l2 → c' ≤ b → c' ≤ hrs W - h2 + l' → Fl Yc p c' l' h2) →
        tk_X4_fill_59 st post mc ms p (nI h) (nI b) (nI l) r33 (j + 1) Yc kc ks (nI h2) (nI l2) := by
    intro r33 h2 hh1 hh2 hc33 j
    induction j with
    | zero =>
      intro l2 Yc kc ks hl2 ek es F C O S T A1 A2
      rw [tk_X4_fill_59, nI_ltI (by omega) (by omega)]
      refine ⟨fun _ x ex => ?_, fun q => by omega⟩
      simp only [i_nI, i_lit, i_neg, i_add] at ex
      rw [ex]
      refine hc33 Yc kc ks ek es F C O T (fun h3 l' c' q1 q2 q3 q4 q5 => ?_)
      by_cases e : h3 = h2
      · subst e
        exact A2 l' c' (by omega) q4 q5
      · exact A1 h3 l' c' (by omega) q2 q3 q4 q5
    | succ j ih =>
      intro l2 Yc kc ks hl2 ek es F C O S T A1 A2
      rw [tk_X4_fill_59, nI_ltI (by omega) (by omega)]
      have t1 := tle T
      have t2 := cle F
      refine ⟨fun q => by omega, fun _ => ⟨by unfold zzP at hmc; omega, by unfold zzP at hms; omega, ?_⟩⟩
      have fin2 : tk_X4_fill_79 st post mc ms p (nI h) (nI b) (nI l) r33 (tk_X4_fill_59 st post mc ms p (nI h) (nI b) (nI l) r33 (j + 1)) (cap W h2 b l2 + 1 + 1) Yc kc ks (nI h2) (nI l2) (nI (cap W h2 b l2)) (nI 0) :=
        bl r33 _ h2 l2 hh1 hh2 (by omega) (fun Yc kc ks ek es F C O S T A1 A2 => ih (l2 + 1) Yc kc ks (by omega) ek es F C O S T A1 A2) (cap W h2 b l2 + 1) 0 Yc kc ks (by omega) ek es F C O S T A1 A2 (fun c' q => by omega)
      unfold tp_X4_spendable
      intro x ex
      have hwc := C.2.2.2.2.1
      rw [hwc.2.2.1, pk_sub hh2, nI_add] at ex
      rw [ex, nI_leI (by omega) (by omega)]
      refine ⟨fun q => ⟨cap W h2 b l2 + 1 + 1, ?_⟩, fun q => ⟨cap W h2 b l2 + 1 + 1, ?_⟩⟩
      · have e : cap W h2 b l2 = hrs W - h2 + l2 := by unfold cap; omega
        rw [← e]
        exact fin2
      · have e : cap W h2 b l2 = b := by unfold cap; omega
        rw [e] at fin2 ⊢
        exact fin2
  -- the hours
  have hl3 : ∀ j Yc kc ks, h + j ≤ hrs W + 1 → kc = 2 * (cnP Yc p - cnP Y p) → ks = 1031 * (cnP Yc p - cnP Y p) → PF st p Y Yc → PC st Yc p W N → PlOK Yc p W N → (∀ i, i < 125 → nmB Yc p i = true → tgB Y p W h b l i = true) → (∀ h3 l' c', h + j ≤ h3 → h3 ≤ hrs W → l' ≤ l → c' ≤ b → c' ≤ hrs W - h3 + l' → Fl Yc p c' l' h3) →
      tk_X4_fill_33 st post mc ms p (nI h) (nI b) (nI l) (j + 1) Yc kc ks (iI (((h + j : Nat) : Int) - 1)) := by
    intro j
    induction j with
    | zero =>
      intro Yc kc ks hj ek es F C O T A
      rw [tk_X4_fill_33]
      have e : (iI (((h + 0 : Nat) : Int) - 1) < nI h) = True := by
        rw [i_nI, i_lt (by omega) (by omega) (by omega) (by omega)]
        simp
        omega
      rw [e]
      exact ⟨fun _ => fin Yc kc ks ek es F C O T (fun l' c' q1 q2 q3 => A h l' c' (by omega) hh q1 q2 q3), fun q => absurd trivial q⟩
    | succ j ih =>
      intro Yc kc ks hj ek es F C O T A
      rw [tk_X4_fill_33]
      have e : iI (((h + (j + 1) : Nat) : Int) - 1) = nI (h + j) := by
        rw [i_nI]
        congr 1
        omega
      rw [e, nI_ltI (by omega) (by omega)]
      have t1 := tle T
      have t2 := cle F
      refine ⟨fun q => by omega, fun _ => ⟨by unfold zzP at hmc; omega, by unfold zzP at hms; omega, ?_⟩⟩
      have n1 : st.1 p 0 ≠ st.1 p 2 := fun e => by have := C.2.1; rw [e, C.2.2.2.1] at this; cases this
      have n2 : st.1 p 1 ≠ st.1 p 2 := fun e => by have := C.2.2.1; rw [e, C.2.2.2.1] at this; cases this
      refine c_ready C.2.2.2.2.1 C.2.2.2.2.2.1 n1 n2 (by omega) (fun Y' x rows => ⟨l + 1 + 1, ?_⟩)
      obtain ⟨O', M'⟩ := PlOK.sx C O x
      have F' : PF st p Yc Y' := PF.sx x
      have eP : tP Y' p = tP Yc p := x.at.2.2.2.1 p
      have ecn : cnP Y' p = cnP Yc p := cnP_eq (fun i _ => by unfold nmB; rw [eP])
      refine ll _ (h + j) (by omega) (by omega) (fun Yd kc ks ek es F C O T A => ?_) (l + 1) 0 Y' kc ks (by omega) (by rw [ecn]; exact ek) (by rw [ecn]; exact es) (F.trans F') (C.same F' eP) O' rows (fun i hi q => T i hi (by unfold nmB at q ⊢; rw [← eP]; exact q)) (fun h3 l' c' q1 q2 q3 q4 q5 => M' _ _ _ (A h3 l' c' (by omega) q2 q3 q4 q5)) (fun l' c' q => by omega)
      exact ih Yd kc ks (by omega) ek es F C O T A
  -- the start
  have core : ∀ (Y3 : TY) (q kc ks : Nat), kc = 2 * (cnP Y3 p - cnP Y p) → ks = 1031 * (cnP Y3 p - cnP Y p) → PF st p Y Y3 → PC st Y3 p W N → PlOK Y3 p W N → (∀ i, i < 125 → nmB Y3 p i = true → tgB Y p W h b l i = true) → tP Y3 p (cap W h b l * 5 + l) = some q →
      (nI h < tI Y3 q 0 → ∃ n9 : Nat, tk_X4_fill_33 st post mc ms p (nI h) (nI b) (nI l) n9 Y3 kc ks (tI Y3 (st.1 p 0) 1)) ∧ (¬ nI h < tI Y3 q 0 → kc ≤ mc ∧ ks ≤ ms ∧ post Y3) := by
    intro Y3 q kc ks ek es F C O T hq
    obtain ⟨f, f1, f2, f3⟩ := O _ _ q hcl hl hq
    rw [f2, nI_ltI (by omega) (by omega), C.2.2.2.2.1.2.2.1]
    refine ⟨fun _ => ⟨hrs W + 1 - h + 1, ?_⟩, fun c => ?_⟩
    · have := hl3 (hrs W + 1 - h) Y3 kc ks (by omega) ek es F C O T (fun h3 l' c' q1 q2 => by omega)
      rw [show (((h + (hrs W + 1 - h) : Nat) : Int) - 1) = ((hrs W : Nat) : Int) by omega] at this
      exact this
    · refine fin Y3 kc ks ek es F C O T (fun l' c' q1 q2 q3 => ?_)
      exact (f3 h (by omega) hh hcl2).2 l' c' q1 (by unfold cap; omega) q3
  unfold tp_X4_fill
  have hT0 : TsB W h b l (cap W h b l * 5 + l) = true := TsB_of (Nat.le_refl _) (by unfold cap; omega) hcl2 hl
  have tsub : ∀ i, i < 125 → nmB Y p i = true → tgB Y p W h b l i = true := fun i _ q => by unfold tgB; rw [q]; rfl
  cases hx : tP Y p (cap W h b l * 5 + l) with
  | none =>
    have hf : nmB Y p (cap W h b l * 5 + l) = false := by unfold nmB; rw [hx]; rfl
    have t3 : cnP Y p + 1 ≤ cnB (tgB Y p W h b l) 125 := cnP_lt hf (by unfold tgB; rw [hT0]; simp) (by omega) tsub
    refine ⟨2, 1031, by unfold zzP at hmc; omega, by unfold zzP at hms; omega, c_planeOf hc hh hb hl (fun q hq => ?_) (fun _ => ⟨Nat.le_refl _, Nat.le_refl _, fun q hq => ⟨fun z => (by cases z), fun y hy => ?_⟩⟩)⟩
    · rw [hx] at hq
      cases hq
    · cases hy
      obtain ⟨o1, o2⟩ := PlOK.new hc h48 hok hx hq
      have hnew : nmB (sN Y p (cap W h b l * 5 + l) q) p (cap W h b l * 5 + l) = true := by
        unfold nmB
        rw [tP_sN, if_pos ⟨rfl, rfl⟩]
        rfl
      have hoth : ∀ i, i ≠ cap W h b l * 5 + l → nmB (sN Y p (cap W h b l * 5 + l) q) p i = nmB Y p i := fun i hi => by unfold nmB; rw [tP_sN, if_neg (fun z => hi z.2)]
      have ecn : cnP (sN Y p (cap W h b l * 5 + l) q) p = cnP Y p + 1 := cnP_one hf hnew (by omega) (fun i _ hi => (hoth i hi).symm)
      refine core _ q _ _ (by omega) (by omega) (PF.sN hx hq) (hc.new hx hq) o1 (fun i hi z => ?_) (by rw [tP_sN, if_pos ⟨rfl, rfl⟩])
      by_cases e : i = cap W h b l * 5 + l
      · rw [e]
        unfold tgB
        rw [hT0]
        simp
      · exact tsub i hi (by rw [← hoth i e]; exact z)
  | some q =>
    refine ⟨0, 0, z0 _, z0 _, c_planeOf hc hh hb hl (fun q hq => ⟨fun z => (by cases z), fun y hy => ?_⟩) (fun z => ?_)⟩
    · cases hy
      exact core Y q _ _ (by omega) (by omega) (PF.refl _ _ _) hc hok tsub hq
    · rw [hx] at z
      cases z
end FL
