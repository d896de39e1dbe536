-- THE HOURS THAT PASSED
abbrev TD : Type := Nat × (Nat → Nat) × (Nat → Nat)
def psT (T : TD) (s b : Nat) : TD := (T.1 + 1, va_up T.2.1 T.1 s, va_up T.2.2 T.1 b)
def T0 : TD := (0, fun _ => 0, fun _ => 0)
def wfT (T : TD) : Prop := ∀ k, k < T.1 → T.2.1 k ≤ 500 ∧ T.2.2 k ≤ 1000
def rT (T : TD) (k : Nat) : Nat := T.2.1 k * T.2.2 k
def TrP (Y : TY) (a : Nat) (T : TD) : Prop := T.1 ≤ 60 ∧ wfT T ∧ tI Y a 0 = nI T.1 ∧ ∀ k, k < T.1 → tA Y a 1 k = nI (T.2.1 k) ∧ tA Y a 2 k = nI (T.2.2 k)
def sfF (T : TD) : Nat → Nat → Nat
  | 0, x => x
  | k + 1, x => sfF T k (les x (rT T k))
def rkF (R : Nat → Nat) : Nat → Option Nat
  | 0 => none
  | k + 1 => match rkF R k with
    | none => some k
    | some b => if R b < R k then some k else some b
def opI : Option Nat → Int32
  | none => -6
  | some b => nI b
def moI (R : Nat → Nat) : Option Nat → Int32
  | none => -1
  | some b => nI (R b)
def dwS (d : Nat) : Nat := (75 * d + 74) % 65537
def dwF (T : TD) : Nat → Nat → Nat → Int32
  | 0, _, _ => -6
  | j + 1, i, d => if dwS d % 1000 < T.2.1 i then (if dwS (dwS d) % 1000 < T.2.2 i then nI i else dwF T j (i + 1) (dwS (dwS d))) else dwF T j (i + 1) (dwS d)
theorem wfT.ps {T : TD} (h : wfT T) {s b : Nat} (hs : s ≤ 500) (hb : b ≤ 1000) : wfT (psT T s b) := by
  intro k hk
  have hk : k < T.1 + 1 := hk
  show va_up T.2.1 T.1 s k ≤ 500 ∧ va_up T.2.2 T.1 b k ≤ 1000
  by_cases e : k = T.1
  · subst e
    rw [va_up_self, va_up_self]
    exact ⟨hs, hb⟩
  · rw [va_up_ne _ _ e, va_up_ne _ _ e]
    exact h k (by omega)
theorem rT_le {T : TD} (h : wfT T) {k : Nat} (hk : k < T.1) : rT T k ≤ 500000 := by
  obtain ⟨h1, h2⟩ := h k hk
  have : T.2.1 k * T.2.2 k ≤ 500 * 1000 := Nat.mul_le_mul h1 h2
  exact this
theorem rkF_lt {R : Nat → Nat} : ∀ {k b : Nat}, rkF R k = some b → b < k
  | 0, b, h => by cases h
  | k + 1, b, h => by
    have e : rkF R (k + 1) = match rkF R k with
      | none => some k
      | some b => if R b < R k then some k else some b := rfl
    rw [e] at h
    cases hr : rkF R k with
    | none =>
      rw [hr] at h
      cases h
      omega
    | some c =>
      rw [hr] at h
      have := rkF_lt hr
      simp only at h
      split at h
      · cases h
        omega
      · cases h
        omega
theorem TrP.mv {Y Y' : TY} {a : Nat} {T : TD} (h : TrP Y a T) (hI : ∀ t, tI Y' a t = tI Y a t) (hA : ∀ t, tA Y' a t = tA Y a t) : TrP Y' a T := by
  unfold TrP at h ⊢
  simp only [hI, hA]
  exact h
theorem dwS_lt (d : Nat) : dwS d < 65537 := Nat.mod_lt _ (by decide)
section TK
variable {st : TS} {Y : TY} {a : Nat} {T : TD}
theorem c_less {post : Int32 → Prop} {x r : Nat} (ha : x ≤ 1000000) (hr : r ≤ 1000000) (hp : post (nI (les x r))) : tp_X9_lessened st post Y (nI x) (nI r) := by
  unfold tp_X9_lessened
  rw [i_less ha hr]
  exact hp
theorem c_pass {post : TY → Prop} (hT : TrP Y a T) (h60 : T.1 < 60) {s b : Nat} (hs : s ≤ 500) (hb : b ≤ 1000) (hp : ∀ Y', OX (· = a) Y Y' → TrP Y' a (psT T s b) → post Y') : tp_X7_pass st post Y a (nI s) (nI b) := by
  obtain ⟨t1, t2, t3, t4⟩ := hT
  unfold tp_X7_pass
  rw [t3, show (60 : Int32) = nI 60 from rfl, nI_leI (by omega) (by omega)]
  refine ⟨fun q => by omega, fun _ => ⟨vp_in_nI (by omega) (by omega), fun Y2 e2 => ?_⟩⟩
  rw [nI_clamp (by omega)] at e2
  have i2 : tI Y2 a 0 = nI T.1 := by rw [e2]; exact t3
  rw [i2]
  refine ⟨vp_in_nI (by omega) (by omega), fun Y3 e3 Y4 e4 => ?_⟩
  rw [nI_clamp (by omega)] at e3
  have i3 : tI Y3 a 0 = nI T.1 := by rw [e3]; exact i2
  rw [i3, show nI T.1 + (1 : Int32) = nI (T.1 + 1) from nI_1 T.1] at e4
  refine hp Y4 ?_ ⟨h60, t2.ps hs hb, ?_, fun k hk => ?_⟩
  · rw [e4, e3, e2]
    exact (OX.sF (D := (· = a)) rfl).trans ((OX.sF (D := (· = a)) rfl).trans (OX.sI (D := (· = a)) rfl))
  · rw [e4, tI_sI, if_pos ⟨rfl, rfl⟩]
    rfl
  · have hk : k < T.1 + 1 := hk
    show _ = nI (va_up T.2.1 T.1 s k) ∧ _ = nI (va_up T.2.2 T.1 b k)
    rw [e4, tA_sI, tA_sI, e3, tA_same, tA_other _ _ (by decide), e2, tA_same, tA_other _ _ (by decide)]
    by_cases e : k = T.1
    · subst e
      rw [pk_us, pk_us, va_up_self, va_up_self]
      exact ⟨rfl, rfl⟩
    · rw [pk_un e, pk_un e, va_up_ne _ _ e, va_up_ne _ _ e]
      exact t4 k (by omega)
theorem c_safe {post : Int32 → Prop} (hT : TrP Y a T) (hp : post (nI (sfF T T.1 1000000))) : tp_X7_safe st post Y a := by
  obtain ⟨t1, t2, t3, t4⟩ := hT
  have key : ∀ k x, k ≤ T.1 → x ≤ 1000000 → post (nI (sfF T k x)) → tk_X7_safe_10 st post Y a (k + 1) (nI x) (iI ((k : Int) - 1)) := by
    intro k
    induction k with
    | zero =>
      intro x hk hx hpo
      rw [tk_X7_safe_10]
      exact ⟨fun _ => hpo, fun q => absurd (by decide) q⟩
    | succ k ih =>
      intro x hk hx hpo
      have e : iI (((k + 1 : Nat) : Int) - 1) = nI k := by
        rw [i_nI]
        congr 1
        omega
      obtain ⟨u1, u2⟩ := t4 k (by omega)
      have hr := rT_le t2 (show k < T.1 by omega)
      rw [tk_X7_safe_10, e, nI_clamp (by omega), u1, u2, pk_mul]
      refine ⟨fun q => absurd q (by rw [show (0 : Int32) = nI 0 from rfl, nI_ltI (by omega) (by omega)]; omega), fun _ => ⟨vp_in_nI (by omega) (by omega), vp_in_nI (by omega) (by omega), ?_⟩⟩
      refine c_less (r := rT T k) hx (by omega) (fun x5 e5 => ?_)
      simp only [i_nI, i_lit, i_neg, i_add] at e5
      rw [e5]
      exact ih _ (by omega) (les_le hx) hpo
  unfold tp_X7_safe
  intro x ex
  rw [t3] at ex
  simp only [i_nI, i_lit, i_sub] at ex
  rw [ex]
  exact ⟨T.1 + 1, key T.1 1000000 (Nat.le_refl _) (Nat.le_refl _) hp⟩
theorem c_riskiest {post : Int32 → Prop} (hT : TrP Y a T) (hp : post (opI (rkF (rT T) T.1))) : tp_X7_riskiest st post Y a := by
  obtain ⟨t1, t2, t3, t4⟩ := hT
  have key : ∀ j i, i + j = T.1 → tk_X7_riskiest_7 st post Y a (j + 1) (opI (rkF (rT T) i)) (moI (rT T) (rkF (rT T) i)) (nI i) := by
    intro j
    induction j with
    | zero =>
      intro i hi
      have : i = T.1 := by omega
      subst this
      rw [tk_X7_riskiest_7, t3]
      exact ⟨fun _ => hp, fun q => absurd (Int32.le_refl _) q⟩
    | succ j ih =>
      intro i hi
      obtain ⟨u1, u2⟩ := t4 i (by omega)
      have hr := rT_le t2 (show i < T.1 by omega)
      have hin : vp_in (nI i) 60 := vp_in_nI (by omega) (by omega)
      rw [tk_X7_riskiest_7, t3, nI_clamp (by omega), u1, u2, pk_mul, nI_leI (by omega) (by omega)]
      have nx := ih (i + 1) (by omega)
      have e : rkF (rT T) (i + 1) = match rkF (rT T) i with
        | none => some i
        | some b => if rT T b < rT T i then some i else some b := rfl
      rw [e] at nx
      refine ⟨fun q => by omega, fun _ => ⟨hin, hin, ?_⟩⟩
      cases hr2 : rkF (rT T) i with
      | none =>
        rw [hr2] at nx
        refine ⟨fun q => ?_, fun _ => ⟨hin, hin, fun x4 e4 => ?_⟩⟩
        · exfalso
          have q : nI (rT T i) ≤ (-1 : Int32) := q
          simp (disch := omega) only [i_nI, i_lit, i_neg, i_le] at q
          omega
        · unfold tk_X7_riskiest_48
          intro x5 e5
          rw [e4, e5, show nI i + (1 : Int32) = nI (i + 1) from nI_1 i]
          exact nx
      | some b =>
        rw [hr2] at nx
        have hb := rkF_lt hr2
        have hrb := rT_le t2 (show b < T.1 by omega)
        refine ⟨fun q => ?_, fun q => ⟨hin, hin, fun x4 e4 => ?_⟩⟩
        · have q : nI (rT T i) ≤ nI (rT T b) := q
          rw [nI_leI (by omega) (by omega)] at q
          simp only [if_neg (show ¬ rT T b < rT T i by omega)] at nx
          unfold tk_X7_riskiest_48
          intro x5 e5
          rw [e5, show nI i + (1 : Int32) = nI (i + 1) from nI_1 i]
          exact nx
        · have q : ¬ nI (rT T i) ≤ nI (rT T b) := q
          rw [nI_leI (by omega) (by omega)] at q
          simp only [if_pos (show rT T b < rT T i by omega)] at nx
          unfold tk_X7_riskiest_48
          intro x5 e5
          rw [e4, e5, show nI i + (1 : Int32) = nI (i + 1) from nI_1 i]
          exact nx
  exact ⟨T.1 + 1, key T.1 0 (by omega)⟩
theorem c_drawBehind {post : Int32 → Prop} {d : Nat} (hd : d < 65537) (hp : post (nI (dwS d))) : tp_X7_drawBehind st post Y (nI d) := by
  unfold tp_X7_drawBehind
  rw [show (75 : Int32) = nI 75 from rfl, show (74 : Int32) = nI 74 from rfl, show (65537 : Int32) = nI 65537 from rfl, pk_mul, nI_add, pk_rem (by omega) (by omega) (by omega), Nat.mul_comm]
  exact hp
theorem c_struckBy {post : Int32 → Prop} (hT : TrP Y a T) {s : Nat} (hs : s < 65537) (hp : post (dwF T T.1 0 s)) : tp_X7_struckBy st post Y a (nI s) := by
  obtain ⟨t1, t2, t3, t4⟩ := hT
  have key : ∀ j i d, i + j = T.1 → d < 65537 → post (dwF T j i d) → tk_X7_struckBy_4 st post Y a (nI s) (j + 1) (nI d) (nI i) := by
    intro j
    induction j with
    | zero =>
      intro i d hi hd hpo
      have : i = T.1 := by omega
      subst this
      rw [tk_X7_struckBy_4, t3]
      exact ⟨fun _ => hpo, fun q => absurd (Int32.le_refl _) q⟩
    | succ j ih =>
      intro i d hi hd hpo
      obtain ⟨u1, u2⟩ := t4 i (by omega)
      obtain ⟨v1, v2⟩ := t2 i (by omega)
      have hin : vp_in (nI i) 60 := vp_in_nI (by omega) (by omega)
      have d1 := dwS_lt d
      have d2 := dwS_lt (dwS d)
      have m1 : dwS d % 1000 < 1000 := Nat.mod_lt _ (by decide)
      have m2 : dwS (dwS d) % 1000 < 1000 := Nat.mod_lt _ (by decide)
      rw [tk_X7_struckBy_4, t3, nI_clamp (by omega), u1, u2, nI_leI (by omega) (by omega)]
      unfold dwF at hpo
      have nx : ∀ e, e < 65537 → post (dwF T j (i + 1) e) → tk_X7_struckBy_52 st post Y a (nI s) (tk_X7_struckBy_4 st post Y a (nI s) (j + 1)) (nI e) (nI i) := by
        intro e he hpe
        unfold tk_X7_struckBy_52
        intro x ex
        rw [ex, show nI i + (1 : Int32) = nI (i + 1) from nI_1 i]
        exact ih (i + 1) e (by omega) he hpe
      refine ⟨fun q => by omega, fun _ => c_drawBehind hd ⟨hin, ?_⟩⟩
      rw [show (1000 : Int32) = nI 1000 from rfl, pk_rem (by omega) (by omega) (by omega), nI_leI (by omega) (by omega)]
      refine ⟨fun q => ?_, fun q => c_drawBehind d1 ⟨hin, ?_⟩⟩
      · rw [if_neg (by omega)] at hpo
        exact nx _ d1 hpo
      · rw [if_pos (by omega)] at hpo
        rw [pk_rem (by omega) (by omega) (by omega), nI_leI (by omega) (by omega)]
        refine ⟨fun q2 => ?_, fun q2 => ?_⟩
        · rw [if_neg (by omega)] at hpo
          exact nx _ d2 hpo
        · rw [if_pos (by omega)] at hpo
          exact hpo
  exact ⟨T.1 + 1, key T.1 0 s (by omega) hs hp⟩
end TK
