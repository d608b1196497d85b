section
/-- p lies within a and b -/
def rg_W (a b p : Int32) : Prop := ¬ p < a ∧ ¬ b < p
/-- one instruction: its kind is known, and what it names is a variable, or a place that is not negative -/
def rg_ok (k a b c : Int32) : Prop :=
  (k = 0 ∧ rg_W 0 3 a) ∨ (k = 1 ∧ rg_W 0 3 a ∧ rg_W 0 3 b) ∨ (k = 2 ∧ rg_W 0 3 a ∧ rg_W 0 3 b ∧ rg_W 0 3 c) ∨ (k = 3 ∧ rg_W 0 3 a ∧ rg_W 0 3 b) ∨ (k = 4 ∧ rg_W 0 3 a ∧ rg_W 0 3 b) ∨ (k = 5 ∧ rg_W 0 3 a ∧ rg_W 0 3 b) ∨ (k = 6 ∧ rg_W 0 3 a ∧ rg_W 0 3 b ∧ ¬ c < 0) ∨ (k = 7 ∧ ¬ a < 0)
/-- the program: at most 14 instructions, each as it should be -/
def rg_P (n : Int32) (ki fi se th : Nat → Int32) : Prop := ∃ m : Nat, m ≤ 14 ∧ n = nI m ∧ ∀ i, i < m → rg_ok (ki i) (fi i) (se i) (th i)
def rg_Inv (u : SX) : Prop := match u with
  | (n, _, _, _, _, _, _, _, ki, fi, se, th) => rg_P n ki fi se th
/-- both states are the same, and their program is as it should be -/
def i_Rel (_ : Nat) (u : SX) (v : SY) : Prop := u = v ∧ rg_Inv u
theorem i_up {k : Nat} {u : SX} {v : SY} (h : i_Rel k u v) : i_Rel (k + 4) u v := h
theorem rg_43 (p : Int32) : (4 : Int32) ≤ p ↔ 3 < p := by
  rw [Int32.le_iff_toInt_le, Int32.lt_iff_toInt_lt]
  have h4 : (4 : Int32).toInt = 4 := by decide
  have h3 : (3 : Int32).toInt = 3 := by decide
  omega
theorem rg_87 (p : Int32) : (8 : Int32) ≤ p ↔ 7 < p := by
  rw [Int32.le_iff_toInt_le, Int32.lt_iff_toInt_lt]
  have h4 : (8 : Int32).toInt = 8 := by decide
  have h3 : (7 : Int32).toInt = 7 := by decide
  omega
theorem rg_in4 {p : Int32} (h : rg_W 0 3 p) : vp_in p 4 := by
  have a := h.1
  have b := h.2
  rw [Int32.lt_iff_toInt_lt] at a b
  have h0 : (0 : Int32).toInt = 0 := by decide
  have h3 : (3 : Int32).toInt = 3 := by decide
  rw [vp_in_iff]
  omega
theorem rg_in8 {p : Int32} (h : rg_W 0 7 p) : vp_in p 8 := by
  have a := h.1
  have b := h.2
  rw [Int32.lt_iff_toInt_lt] at a b
  have h0 : (0 : Int32).toInt = 0 := by decide
  have h3 : (7 : Int32).toInt = 7 := by decide
  rw [vp_in_iff]
  omega
/-- a place that is not negative and below the program's end -/
theorem rg_at {n q : Int32} {ki fi se th : Nat → Int32} (hP : rg_P n ki fi se th) (h0 : ¬ q < 0) (hn : ¬ n ≤ q) : vp_in q 14 ∧ ¬ q + 1 < 0 ∧ rg_ok (ki q.toNatClampNeg) (fi q.toNatClampNeg) (se q.toNatClampNeg) (th q.toNatClampNeg) := by
  obtain ⟨m, hm, rfl, H⟩ := hP
  obtain ⟨j, hj, rfl⟩ := nI_of h0
  rw [nI_leI (by omega) hj] at hn
  refine ⟨vp_in_nI (by omega) (by decide), ?_, ?_⟩
  · rw [nI_1]
    exact nI_pos (by omega)
  · rw [nI_clamp hj]
    exact H j (by omega)
/-- one answer and one state for both sides -/
theorem rg_fin {k : Nat} {WX : (Int32 → SX → Prop) → Prop} {WY : (Int32 → SY → Prop) → Prop} (h : ∃ (r : Int32) (u : SX), rg_Inv u ∧ (∀ post : Int32 → SX → Prop, post r u → WX post) ∧ (∀ post : Int32 → SY → Prop, post r u → WY post)) : WX (fun r u' => WY (fun r' v' => r' = r ∧ i_Rel (k + 4) u' v')) := by
  obtain ⟨r, u, hI, hX, hY⟩ := h
  exact hX _ (hY _ ⟨rfl, rfl, hI⟩)
theorem rg_fin0 {k : Nat} {u : SX} (hI : rg_Inv u) {WX : (Int32 → Prop) → Prop} {WY : (Int32 → Prop) → Prop} (h : ∃ r : Int32, (∀ post : Int32 → Prop, post r → WX post) ∧ (∀ post : Int32 → Prop, post r → WY post)) : WX (fun r => WY (fun r' => r' = r ∧ i_Rel (k + 4) u u)) := by
  obtain ⟨r, hX, hY⟩ := h
  exact hX _ (hY _ ⟨rfl, rfl, hI⟩)
/-! the questions that both sides ask of a number -/
theorem rg_xV {A B : Prop} {p : Int32} (f : rg_W 0 3 p → B) (g : ¬ rg_W 0 3 p → A) : wpX_isVariable (fun r => (r = 0 → A) ∧ (¬ r = 0 → B)) p :=
  br_c (fun h => br_t rfl (g fun z => z.1 h)) (fun h => br_c (fun h4 => br_t rfl (g fun z => z.2 ((rg_43 p).mp h4))) (fun h4 => br_f (by decide) (f ⟨h, fun z => h4 ((rg_43 p).mpr z)⟩)))
theorem rg_xC {A B : Prop} {p : Int32} (f : rg_W 0 7 p → B) (g : ¬ rg_W 0 7 p → A) : wpX_isCell (fun r => (r = 0 → A) ∧ (¬ r = 0 → B)) p :=
  br_c (fun h => br_t rfl (g fun z => z.1 h)) (fun h => br_c (fun h4 => br_t rfl (g fun z => z.2 ((rg_87 p).mp h4))) (fun h4 => br_f (by decide) (f ⟨h, fun z => h4 ((rg_87 p).mpr z)⟩)))
theorem rg_xN {A B : Prop} {p : Int32} (f : rg_W (-100) 100 p → B) (g : ¬ rg_W (-100) 100 p → A) : wpX_isNumber (fun r => (r = 0 → A) ∧ (¬ r = 0 → B)) p :=
  br_c (fun h => br_t rfl (g fun z => z.1 h)) (fun h => br_c (fun h4 => br_t rfl (g fun z => z.2 h4)) (fun h4 => br_f (by decide) (f ⟨h, h4⟩)))
theorem rg_xO {A B : Prop} {p : Int32} (f : rg_W (-8) 8 p → B) (g : ¬ rg_W (-8) 8 p → A) : wpX_isOffset (fun r => (r = 0 → A) ∧ (¬ r = 0 → B)) p :=
  br_c (fun h => br_t rfl (g fun z => z.1 h)) (fun h => br_c (fun h4 => br_t rfl (g fun z => z.2 h4)) (fun h4 => br_f (by decide) (f ⟨h, h4⟩)))
theorem rg_xT {A B : Prop} {p : Int32} (f : rg_W 0 14 p → B) (g : ¬ rg_W 0 14 p → A) : wpX_isTarget (fun r => (r = 0 → A) ∧ (¬ r = 0 → B)) p :=
  br_c (fun h => br_t rfl (g fun z => z.1 h)) (fun h => br_c (fun h4 => br_t rfl (g fun z => z.2 h4)) (fun h4 => br_f (by decide) (f ⟨h, h4⟩)))
theorem rg_xM {A B : Prop} {p : Int32} (f : rg_W 0 63 p → B) (g : ¬ rg_W 0 63 p → A) : (p < 0 → A) ∧ (¬ p < 0 → ((p ≤ 63 → B) ∧ (¬ p ≤ 63 → A))) :=
  br_c (fun h => g fun z => z.1 h) (fun h => br_c (fun h4 => f ⟨h, fun z => Int32.not_lt.mpr h4 z⟩) (fun h4 => g fun z => h4 (Int32.not_lt.mp z.2)))
theorem rg_yV {A B : Prop} {u : SY} {p : Int32} (f : rg_W 0 3 p → B) (g : ¬ rg_W 0 3 p → A) : wpY_isVariable (fun r => (r = 0 → A) ∧ (¬ r = 0 → B)) u p := by
  obtain ⟨n, e, pl, w, lo, hi, va, ce, ki, fi, se, th⟩ := u
  exact br_c (fun h => br_t rfl (g fun z => z.1 h)) (fun h => br_c (fun h4 => br_t rfl (g fun z => z.2 h4)) (fun h4 => br_f (by decide) (f ⟨h, h4⟩)))
theorem rg_yW {A B : Prop} {u : SY} {p a b : Int32} (f : rg_W a b p → B) (g : ¬ rg_W a b p → A) : wpY_isWithin (fun r => (r = 0 → A) ∧ (¬ r = 0 → B)) u p a b := by
  obtain ⟨n, e, pl, w, lo, hi, va, ce, ki, fi, se, th⟩ := u
  exact br_c (fun h => br_t rfl (g fun z => z.1 h)) (fun h => br_c (fun h4 => br_t rfl (g fun z => z.2 h4)) (fun h4 => br_f (by decide) (f ⟨h, h4⟩)))
/-! an instruction more -/
theorem rg_app {u : SX} (hI : rg_Inv u) {kd a b c : Int32} (ok : rg_ok kd a b c) : ∃ (r : Int32) (u' : SX), rg_Inv u' ∧ (∀ post : Int32 → SX → Prop, post r u' → wpX_append post u kd a b c) ∧ (∀ post : Int32 → SY → Prop, post r u' → wpY_append post u kd a b c) := by
  obtain ⟨n, e, pl, w, lo, hi, va, ce, ki, fi, se, th⟩ := u
  obtain ⟨m, hm, rfl, H⟩ := hI
  by_cases h : m = 14
  · subst h
    exact ⟨-2, (nI 14, e, pl, w, lo, hi, va, ce, ki, fi, se, th), ⟨14, by omega, rfl, H⟩, fun post hp => br_f (nI_nlt (b := 14) (by omega) (by decide)) hp, fun post hp => br_t rfl hp⟩
  · have hl : nI m < 14 := nI_lt (b := 14) (by omega) (by decide)
    have hne : ¬ nI m = 14 := fun z => h ((nI_eq (b := 14) (by omega) (by decide)).mp z)
    have hin : vp_in (nI m) 14 := vp_in_nI (by omega) (by decide)
    refine ⟨nI m, (nI m + 1, e, pl, w, lo, hi, va, ce, upd ki (nI m).toNatClampNeg kd, upd fi (nI m).toNatClampNeg a, upd se (nI m).toNatClampNeg b, upd th (nI m).toNatClampNeg c), ?_, fun post hp => br_t hl (And.intro hin (nm_e (And.intro hin (nm_e (And.intro hin (nm_e (And.intro hin (nm_e (nm_e hp))))))))), fun post hp => br_f hne (And.intro hin (nm_e (And.intro hin (nm_e (And.intro hin (nm_e (And.intro hin (nm_e (nm_e ?_)))))))))⟩
    · refine ⟨m + 1, by omega, nI_1 m, fun i hi => ?_⟩
      rw [nI_clamp (by omega)]
      by_cases e : i = m
      · subst e
        simp only [upd, if_true]
        exact ok
      · simp only [upd, if_neg e]
        exact H i (by omega)
    · have hb : nI m + 1 - 1 = nI m := by rw [nI_1, nI_pred]
      rw [hb]
      exact hp
end
section
theorem rg_x_constant {post : Int32 → SX → Prop} {u : SX} {a b : Int32} (f : rg_W 0 3 a → rg_W (-100) 100 b → wpX_append post u 0 a b 0) (g : ¬ (rg_W 0 3 a ∧ rg_W (-100) 100 b) → post (-1) u) : wpX_constant post u a b := by
  obtain ⟨n, e, pl, w, lo, hi, va, ce, ki, fi, se, th⟩ := u
  unfold wpX_constant
  dsimp only
  exact rg_xV (fun h1 => rg_xN (fun h2 => f h1 h2) (fun z => g fun y => z y.2)) (fun z => g fun y => z y.1)
theorem rg_y_constant {post : Int32 → SY → Prop} {u : SY} {a b : Int32} (f : rg_W 0 3 a → rg_W (-100) 100 b → wpY_append post u 0 a b 0) (g : ¬ (rg_W 0 3 a ∧ rg_W (-100) 100 b) → post (-1) u) : wpY_constant post u a b := by
  obtain ⟨n, e, pl, w, lo, hi, va, ce, ki, fi, se, th⟩ := u
  unfold wpY_constant
  dsimp only
  exact rg_yV (fun h1 => rg_yW (fun h2 => f h1 h2) (fun z => g fun y => z y.2)) (fun z => g fun y => z y.1)
theorem i_vc_constant {k : Nat} {u : SX} {v : SY} (I : i_Rel k u v) (hk : k + 4 ≤ 2048) (v1 : Int32) (v2 : Int32) : wpX_constant (fun r u' => wpY_constant (fun r' v' => r' = r ∧ i_Rel (k + 4) u' v') v v1 v2) u v1 v2 := by
  obtain ⟨rfl, hI⟩ := I
  refine rg_fin (WX := fun post => wpX_constant post u v1 v2) (WY := fun post => wpY_constant post u v1 v2) ?_
  by_cases h : rg_W 0 3 v1 ∧ rg_W (-100) 100 v2
  · obtain ⟨r, u', h', hX, hY⟩ := rg_app hI (kd := 0) (a := v1) (b := v2) (c := 0) (Or.inl ⟨rfl, h.1⟩)
    exact ⟨r, u', h', fun post hp => rg_x_constant (fun _ _ => hX post hp) (fun z => absurd h z), fun post hp => rg_y_constant (fun _ _ => hY post hp) (fun z => absurd h z)⟩
  · exact ⟨-1, u, hI, fun post hp => rg_x_constant (fun x1 x2 => absurd ⟨x1, x2⟩ h) (fun _ => hp), fun post hp => rg_y_constant (fun x1 x2 => absurd ⟨x1, x2⟩ h) (fun _ => hp)⟩
theorem rg_x_plus {post : Int32 → SX → Prop} {u : SX} {a b c : Int32} (f : rg_W 0 3 a → rg_W 0 3 b → rg_W (-100) 100 c → wpX_append post u 1 a b c) (g : ¬ (rg_W 0 3 a ∧ rg_W 0 3 b ∧ rg_W (-100) 100 c) → post (-1) u) : wpX_plus post u a b c := by
  obtain ⟨n, e, pl, w, lo, hi, va, ce, ki, fi, se, th⟩ := u
  unfold wpX_plus
  dsimp only
  exact rg_xV (fun h1 => rg_xV (fun h2 => rg_xN (fun h3 => f h1 h2 h3) (fun z => g fun y => z y.2.2)) (fun z => g fun y => z y.2.1)) (fun z => g fun y => z y.1)
theorem rg_y_plus {post : Int32 → SY → Prop} {u : SY} {a b c : Int32} (f : rg_W 0 3 a → rg_W 0 3 b → rg_W (-100) 100 c → wpY_append post u 1 a b c) (g : ¬ (rg_W 0 3 a ∧ rg_W 0 3 b ∧ rg_W (-100) 100 c) → post (-1) u) : wpY_plus post u a b c := by
  obtain ⟨n, e, pl, w, lo, hi, va, ce, ki, fi, se, th⟩ := u
  unfold wpY_plus
  dsimp only
  exact rg_yV (fun h1 => rg_yV (fun h2 => rg_yW (fun h3 => f h1 h2 h3) (fun z => g fun y => z y.2.2)) (fun z => g fun y => z y.2.1)) (fun z => g fun y => z y.1)
theorem i_vc_plus {k : Nat} {u : SX} {v : SY} (I : i_Rel k u v) (hk : k + 4 ≤ 2048) (v1 : Int32) (v2 : Int32) (v3 : Int32) : wpX_plus (fun r u' => wpY_plus (fun r' v' => r' = r ∧ i_Rel (k + 4) u' v') v v1 v2 v3) u v1 v2 v3 := by
  obtain ⟨rfl, hI⟩ := I
  refine rg_fin (WX := fun post => wpX_plus post u v1 v2 v3) (WY := fun post => wpY_plus post u v1 v2 v3) ?_
  by_cases h : rg_W 0 3 v1 ∧ rg_W 0 3 v2 ∧ rg_W (-100) 100 v3
  · obtain ⟨r, u', h', hX, hY⟩ := rg_app hI (kd := 1) (a := v1) (b := v2) (c := v3) (Or.inr (Or.inl ⟨rfl, h.1, h.2.1⟩))
    exact ⟨r, u', h', fun post hp => rg_x_plus (fun _ _ _ => hX post hp) (fun z => absurd h z), fun post hp => rg_y_plus (fun _ _ _ => hY post hp) (fun z => absurd h z)⟩
  · exact ⟨-1, u, hI, fun post hp => rg_x_plus (fun x1 x2 x3 => absurd ⟨x1, x2, x3⟩ h) (fun _ => hp), fun post hp => rg_y_plus (fun x1 x2 x3 => absurd ⟨x1, x2, x3⟩ h) (fun _ => hp)⟩
theorem rg_x_sum {post : Int32 → SX → Prop} {u : SX} {a b c : Int32} (f : rg_W 0 3 a → rg_W 0 3 b → rg_W 0 3 c → wpX_append post u 2 a b c) (g : ¬ (rg_W 0 3 a ∧ rg_W 0 3 b ∧ rg_W 0 3 c) → post (-1) u) : wpX_sum post u a b c := by
  obtain ⟨n, e, pl, w, lo, hi, va, ce, ki, fi, se, th⟩ := u
  unfold wpX_sum
  dsimp only
  exact rg_xV (fun h1 => rg_xV (fun h2 => rg_xV (fun h3 => f h1 h2 h3) (fun z => g fun y => z y.2.2)) (fun z => g fun y => z y.2.1)) (fun z => g fun y => z y.1)
theorem rg_y_sum {post : Int32 → SY → Prop} {u : SY} {a b c : Int32} (f : rg_W 0 3 a → rg_W 0 3 b → rg_W 0 3 c → wpY_append post u 2 a b c) (g : ¬ (rg_W 0 3 a ∧ rg_W 0 3 b ∧ rg_W 0 3 c) → post (-1) u) : wpY_sum post u a b c := by
  obtain ⟨n, e, pl, w, lo, hi, va, ce, ki, fi, se, th⟩ := u
  unfold wpY_sum
  dsimp only
  exact rg_yV (fun h1 => rg_yV (fun h2 => rg_yV (fun h3 => f h1 h2 h3) (fun z => g fun y => z y.2.2)) (fun z => g fun y => z y.2.1)) (fun z => g fun y => z y.1)
theorem i_vc_sum {k : Nat} {u : SX} {v : SY} (I : i_Rel k u v) (hk : k + 4 ≤ 2048) (v1 : Int32) (v2 : Int32) (v3 : Int32) : wpX_sum (fun r u' => wpY_sum (fun r' v' => r' = r ∧ i_Rel (k + 4) u' v') v v1 v2 v3) u v1 v2 v3 := by
  obtain ⟨rfl, hI⟩ := I
  refine rg_fin (WX := fun post => wpX_sum post u v1 v2 v3) (WY := fun post => wpY_sum post u v1 v2 v3) ?_
  by_cases h : rg_W 0 3 v1 ∧ rg_W 0 3 v2 ∧ rg_W 0 3 v3
  · obtain ⟨r, u', h', hX, hY⟩ := rg_app hI (kd := 2) (a := v1) (b := v2) (c := v3) (Or.inr (Or.inr (Or.inl ⟨rfl, h.1, h.2.1, h.2.2⟩)))
    exact ⟨r, u', h', fun post hp => rg_x_sum (fun _ _ _ => hX post hp) (fun z => absurd h z), fun post hp => rg_y_sum (fun _ _ _ => hY post hp) (fun z => absurd h z)⟩
  · exact ⟨-1, u, hI, fun post hp => rg_x_sum (fun x1 x2 x3 => absurd ⟨x1, x2, x3⟩ h) (fun _ => hp), fun post hp => rg_y_sum (fun x1 x2 x3 => absurd ⟨x1, x2, x3⟩ h) (fun _ => hp)⟩
theorem rg_x_mask {post : Int32 → SX → Prop} {u : SX} {a b c : Int32} (f : rg_W 0 3 a → rg_W 0 3 b → rg_W 0 63 c → wpX_append post u 3 a b c) (g : ¬ (rg_W 0 3 a ∧ rg_W 0 3 b ∧ rg_W 0 63 c) → post (-1) u) : wpX_mask post u a b c := by
  obtain ⟨n, e, pl, w, lo, hi, va, ce, ki, fi, se, th⟩ := u
  unfold wpX_mask
  dsimp only
  exact rg_xV (fun h1 => rg_xV (fun h2 => rg_xM (fun h3 => f h1 h2 h3) (fun z => g fun y => z y.2.2)) (fun z => g fun y => z y.2.1)) (fun z => g fun y => z y.1)
theorem rg_y_mask {post : Int32 → SY → Prop} {u : SY} {a b c : Int32} (f : rg_W 0 3 a → rg_W 0 3 b → rg_W 0 63 c → wpY_append post u 3 a b c) (g : ¬ (rg_W 0 3 a ∧ rg_W 0 3 b ∧ rg_W 0 63 c) → post (-1) u) : wpY_mask post u a b c := by
  obtain ⟨n, e, pl, w, lo, hi, va, ce, ki, fi, se, th⟩ := u
  unfold wpY_mask
  dsimp only
  exact rg_yV (fun h1 => rg_yV (fun h2 => rg_yW (fun h3 => f h1 h2 h3) (fun z => g fun y => z y.2.2)) (fun z => g fun y => z y.2.1)) (fun z => g fun y => z y.1)
theorem i_vc_mask {k : Nat} {u : SX} {v : SY} (I : i_Rel k u v) (hk : k + 4 ≤ 2048) (v1 : Int32) (v2 : Int32) (v3 : Int32) : wpX_mask (fun r u' => wpY_mask (fun r' v' => r' = r ∧ i_Rel (k + 4) u' v') v v1 v2 v3) u v1 v2 v3 := by
  obtain ⟨rfl, hI⟩ := I
  refine rg_fin (WX := fun post => wpX_mask post u v1 v2 v3) (WY := fun post => wpY_mask post u v1 v2 v3) ?_
  by_cases h : rg_W 0 3 v1 ∧ rg_W 0 3 v2 ∧ rg_W 0 63 v3
  · obtain ⟨r, u', h', hX, hY⟩ := rg_app hI (kd := 3) (a := v1) (b := v2) (c := v3) (Or.inr (Or.inr (Or.inr (Or.inl ⟨rfl, h.1, h.2.1⟩))))
    exact ⟨r, u', h', fun post hp => rg_x_mask (fun _ _ _ => hX post hp) (fun z => absurd h z), fun post hp => rg_y_mask (fun _ _ _ => hY post hp) (fun z => absurd h z)⟩
  · exact ⟨-1, u, hI, fun post hp => rg_x_mask (fun x1 x2 x3 => absurd ⟨x1, x2, x3⟩ h) (fun _ => hp), fun post hp => rg_y_mask (fun x1 x2 x3 => absurd ⟨x1, x2, x3⟩ h) (fun _ => hp)⟩
theorem rg_x_load {post : Int32 → SX → Prop} {u : SX} {a b c : Int32} (f : rg_W 0 3 a → rg_W 0 3 b → rg_W (-8) 8 c → wpX_append post u 4 a b c) (g : ¬ (rg_W 0 3 a ∧ rg_W 0 3 b ∧ rg_W (-8) 8 c) → post (-1) u) : wpX_load post u a b c := by
  obtain ⟨n, e, pl, w, lo, hi, va, ce, ki, fi, se, th⟩ := u
  unfold wpX_load
  dsimp only
  exact rg_xV (fun h1 => rg_xV (fun h2 => rg_xO (fun h3 => f h1 h2 h3) (fun z => g fun y => z y.2.2)) (fun z => g fun y => z y.2.1)) (fun z => g fun y => z y.1)
theorem rg_y_load {post : Int32 → SY → Prop} {u : SY} {a b c : Int32} (f : rg_W 0 3 a → rg_W 0 3 b → rg_W (-8) 8 c → wpY_append post u 4 a b c) (g : ¬ (rg_W 0 3 a ∧ rg_W 0 3 b ∧ rg_W (-8) 8 c) → post (-1) u) : wpY_load post u a b c := by
  obtain ⟨n, e, pl, w, lo, hi, va, ce, ki, fi, se, th⟩ := u
  unfold wpY_load
  dsimp only
  exact rg_yV (fun h1 => rg_yV (fun h2 => rg_yW (fun h3 => f h1 h2 h3) (fun z => g fun y => z y.2.2)) (fun z => g fun y => z y.2.1)) (fun z => g fun y => z y.1)
theorem i_vc_load {k : Nat} {u : SX} {v : SY} (I : i_Rel k u v) (hk : k + 4 ≤ 2048) (v1 : Int32) (v2 : Int32) (v3 : Int32) : wpX_load (fun r u' => wpY_load (fun r' v' => r' = r ∧ i_Rel (k + 4) u' v') v v1 v2 v3) u v1 v2 v3 := by
  obtain ⟨rfl, hI⟩ := I
  refine rg_fin (WX := fun post => wpX_load post u v1 v2 v3) (WY := fun post => wpY_load post u v1 v2 v3) ?_
  by_cases h : rg_W 0 3 v1 ∧ rg_W 0 3 v2 ∧ rg_W (-8) 8 v3
  · obtain ⟨r, u', h', hX, hY⟩ := rg_app hI (kd := 4) (a := v1) (b := v2) (c := v3) (Or.inr (Or.inr (Or.inr (Or.inr (Or.inl ⟨rfl, h.1, h.2.1⟩)))))
    exact ⟨r, u', h', fun post hp => rg_x_load (fun _ _ _ => hX post hp) (fun z => absurd h z), fun post hp => rg_y_load (fun _ _ _ => hY post hp) (fun z => absurd h z)⟩
  · exact ⟨-1, u, hI, fun post hp => rg_x_load (fun x1 x2 x3 => absurd ⟨x1, x2, x3⟩ h) (fun _ => hp), fun post hp => rg_y_load (fun x1 x2 x3 => absurd ⟨x1, x2, x3⟩ h) (fun _ => hp)⟩
theorem rg_x_store {post : Int32 → SX → Prop} {u : SX} {a b c : Int32} (f : rg_W 0 3 a → rg_W 0 3 b → rg_W (-8) 8 c → wpX_append post u 5 a b c) (g : ¬ (rg_W 0 3 a ∧ rg_W 0 3 b ∧ rg_W (-8) 8 c) → post (-1) u) : wpX_store post u a b c := by
  obtain ⟨n, e, pl, w, lo, hi, va, ce, ki, fi, se, th⟩ := u
  unfold wpX_store
  dsimp only
  exact rg_xV (fun h1 => rg_xV (fun h2 => rg_xO (fun h3 => f h1 h2 h3) (fun z => g fun y => z y.2.2)) (fun z => g fun y => z y.2.1)) (fun z => g fun y => z y.1)
theorem rg_y_store {post : Int32 → SY → Prop} {u : SY} {a b c : Int32} (f : rg_W 0 3 a → rg_W 0 3 b → rg_W (-8) 8 c → wpY_append post u 5 a b c) (g : ¬ (rg_W 0 3 a ∧ rg_W 0 3 b ∧ rg_W (-8) 8 c) → post (-1) u) : wpY_store post u a b c := by
  obtain ⟨n, e, pl, w, lo, hi, va, ce, ki, fi, se, th⟩ := u
  unfold wpY_store
  dsimp only
  exact rg_yV (fun h1 => rg_yV (fun h2 => rg_yW (fun h3 => f h1 h2 h3) (fun z => g fun y => z y.2.2)) (fun z => g fun y => z y.2.1)) (fun z => g fun y => z y.1)
theorem i_vc_store {k : Nat} {u : SX} {v : SY} (I : i_Rel k u v) (hk : k + 4 ≤ 2048) (v1 : Int32) (v2 : Int32) (v3 : Int32) : wpX_store (fun r u' => wpY_store (fun r' v' => r' = r ∧ i_Rel (k + 4) u' v') v v1 v2 v3) u v1 v2 v3 := by
  obtain ⟨rfl, hI⟩ := I
  refine rg_fin (WX := fun post => wpX_store post u v1 v2 v3) (WY := fun post => wpY_store post u v1 v2 v3) ?_
  by_cases h : rg_W 0 3 v1 ∧ rg_W 0 3 v2 ∧ rg_W (-8) 8 v3
  · obtain ⟨r, u', h', hX, hY⟩ := rg_app hI (kd := 5) (a := v1) (b := v2) (c := v3) (Or.inr (Or.inr (Or.inr (Or.inr (Or.inr (Or.inl ⟨rfl, h.1, h.2.1⟩))))))
    exact ⟨r, u', h', fun post hp => rg_x_store (fun _ _ _ => hX post hp) (fun z => absurd h z), fun post hp => rg_y_store (fun _ _ _ => hY post hp) (fun z => absurd h z)⟩
  · exact ⟨-1, u, hI, fun post hp => rg_x_store (fun x1 x2 x3 => absurd ⟨x1, x2, x3⟩ h) (fun _ => hp), fun post hp => rg_y_store (fun x1 x2 x3 => absurd ⟨x1, x2, x3⟩ h) (fun _ => hp)⟩
theorem rg_x_less {post : Int32 → SX → Prop} {u : SX} {a b c : Int32} (f : rg_W 0 3 a → rg_W 0 3 b → rg_W 0 14 c → wpX_append post u 6 a b c) (g : ¬ (rg_W 0 3 a ∧ rg_W 0 3 b ∧ rg_W 0 14 c) → post (-1) u) : wpX_less post u a b c := by
  obtain ⟨n, e, pl, w, lo, hi, va, ce, ki, fi, se, th⟩ := u
  unfold wpX_less
  dsimp only
  exact rg_xV (fun h1 => rg_xV (fun h2 => rg_xT (fun h3 => f h1 h2 h3) (fun z => g fun y => z y.2.2)) (fun z => g fun y => z y.2.1)) (fun z => g fun y => z y.1)
theorem rg_y_less {post : Int32 → SY → Prop} {u : SY} {a b c : Int32} (f : rg_W 0 3 a → rg_W 0 3 b → rg_W 0 14 c → wpY_append post u 6 a b c) (g : ¬ (rg_W 0 3 a ∧ rg_W 0 3 b ∧ rg_W 0 14 c) → post (-1) u) : wpY_less post u a b c := by
  obtain ⟨n, e, pl, w, lo, hi, va, ce, ki, fi, se, th⟩ := u
  unfold wpY_less
  dsimp only
  exact rg_yV (fun h1 => rg_yV (fun h2 => rg_yW (fun h3 => f h1 h2 h3) (fun z => g fun y => z y.2.2)) (fun z => g fun y => z y.2.1)) (fun z => g fun y => z y.1)
theorem i_vc_less {k : Nat} {u : SX} {v : SY} (I : i_Rel k u v) (hk : k + 4 ≤ 2048) (v1 : Int32) (v2 : Int32) (v3 : Int32) : wpX_less (fun r u' => wpY_less (fun r' v' => r' = r ∧ i_Rel (k + 4) u' v') v v1 v2 v3) u v1 v2 v3 := by
  obtain ⟨rfl, hI⟩ := I
  refine rg_fin (WX := fun post => wpX_less post u v1 v2 v3) (WY := fun post => wpY_less post u v1 v2 v3) ?_
  by_cases h : rg_W 0 3 v1 ∧ rg_W 0 3 v2 ∧ rg_W 0 14 v3
  · obtain ⟨r, u', h', hX, hY⟩ := rg_app hI (kd := 6) (a := v1) (b := v2) (c := v3) (Or.inr (Or.inr (Or.inr (Or.inr (Or.inr (Or.inr (Or.inl ⟨rfl, h.1, h.2.1, h.2.2.1⟩)))))))
    exact ⟨r, u', h', fun post hp => rg_x_less (fun _ _ _ => hX post hp) (fun z => absurd h z), fun post hp => rg_y_less (fun _ _ _ => hY post hp) (fun z => absurd h z)⟩
  · exact ⟨-1, u, hI, fun post hp => rg_x_less (fun x1 x2 x3 => absurd ⟨x1, x2, x3⟩ h) (fun _ => hp), fun post hp => rg_y_less (fun x1 x2 x3 => absurd ⟨x1, x2, x3⟩ h) (fun _ => hp)⟩
theorem rg_x_jump {post : Int32 → SX → Prop} {u : SX} {a : Int32} (f : rg_W 0 14 a → wpX_append post u 7 a 0 0) (g : ¬ (rg_W 0 14 a) → post (-1) u) : wpX_jump post u a := by
  obtain ⟨n, e, pl, w, lo, hi, va, ce, ki, fi, se, th⟩ := u
  unfold wpX_jump
  dsimp only
  exact rg_xT (fun h1 => f h1) (fun z => g fun y => z y)
theorem rg_y_jump {post : Int32 → SY → Prop} {u : SY} {a : Int32} (f : rg_W 0 14 a → wpY_append post u 7 a 0 0) (g : ¬ (rg_W 0 14 a) → post (-1) u) : wpY_jump post u a := by
  obtain ⟨n, e, pl, w, lo, hi, va, ce, ki, fi, se, th⟩ := u
  unfold wpY_jump
  dsimp only
  exact rg_yW (fun h1 => f h1) (fun z => g fun y => z y)
theorem i_vc_jump {k : Nat} {u : SX} {v : SY} (I : i_Rel k u v) (hk : k + 4 ≤ 2048) (v1 : Int32) : wpX_jump (fun r u' => wpY_jump (fun r' v' => r' = r ∧ i_Rel (k + 4) u' v') v v1) u v1 := by
  obtain ⟨rfl, hI⟩ := I
  refine rg_fin (WX := fun post => wpX_jump post u v1) (WY := fun post => wpY_jump post u v1) ?_
  by_cases h : rg_W 0 14 v1
  · obtain ⟨r, u', h', hX, hY⟩ := rg_app hI (kd := 7) (a := v1) (b := 0) (c := 0) (Or.inr (Or.inr (Or.inr (Or.inr (Or.inr (Or.inr (Or.inr ⟨rfl, h.1⟩)))))))
    exact ⟨r, u', h', fun post hp => rg_x_jump (fun _ => hX post hp) (fun z => absurd h z), fun post hp => rg_y_jump (fun _ => hY post hp) (fun z => absurd h z)⟩
  · exact ⟨-1, u, hI, fun post hp => rg_x_jump (fun x1 => absurd x1 h) (fun _ => hp), fun post hp => rg_y_jump (fun x1 => absurd x1 h) (fun _ => hp)⟩
end
section
/-! the constructors -/
theorem rg_init : ∀ d j : Nat, j + d = 4 → ∀ lo hi : Nat → Int32, ∃ lo' hi' : Nat → Int32, (∀ post : SX → Prop, post (0, 0, -1, 0, lo', hi', fun _ => 0, fun _ => 0, fun _ => 0, fun _ => 0, fun _ => 0, fun _ => 0) → wX_init_87 post 0 0 (-1) 0 (d + 1) (nI j) lo hi (fun _ => 0) (fun _ => 0) (fun _ => 0) (fun _ => 0) (fun _ => 0) (fun _ => 0)) ∧ (∀ post : SY → Prop, post (0, 0, -1, 0, lo', hi', fun _ => 0, fun _ => 0, fun _ => 0, fun _ => 0, fun _ => 0, fun _ => 0) → wY_init_67 post 0 0 0 0 (d + 1) (nI j) lo hi (fun _ => 0) (fun _ => 0) (fun _ => 0) (fun _ => 0) (fun _ => 0) (fun _ => 0)) := by
  intro d
  induction d with
  | zero =>
    intro j hj lo hi
    have h : (4 : Int32) ≤ nI j := nI_le (a := 4) (by omega) (by omega)
    exact ⟨lo, hi, fun post hp => br_t h hp, fun post hp => br_t h hp⟩
  | succ d ih =>
    intro j hj lo hi
    have h : ¬ (4 : Int32) ≤ nI j := nI_ge (b := 4) (by omega) (by decide)
    have hin : vp_in (nI j) 4 := vp_in_nI (by omega) (by decide)
    obtain ⟨lo', hi', hX, hY⟩ := ih (j + 1) (by omega) (upd lo (nI j).toNatClampNeg (-100)) (upd hi (nI j).toNatClampNeg 100)
    exact ⟨lo', hi', fun post hp => br_f h (And.intro hin (nm_e (And.intro hin (nm_e (nm_r (nI_1 j) (hX post hp)))))), fun post hp => br_f h (And.intro hin (nm_e (And.intro hin (nm_e (nm_r (nI_1 j) (hY post hp))))))⟩
theorem i_vc0 : wpX_init (fun u => wpY_init (fun v => i_Rel 0 u v)) := by
  obtain ⟨lo', hi', hX, hY⟩ := rg_init 4 0 rfl (fun _ => 0) (fun _ => 0)
  exact ⟨5, hX _ ⟨5, hY _ ⟨rfl, 0, by omega, rfl, fun i hi => absurd hi (by omega)⟩⟩⟩
/-! range -/
theorem rg_x_range {post : Int32 → SX → Prop} {n e pl w : Int32} {lo hi va ce ki fi se th : Nat → Int32} {a b c : Int32} (f : rg_W 0 3 a ∧ rg_W (-100) 100 b ∧ rg_W (-100) 100 c ∧ b ≤ c → post 0 (n, e, pl, w, upd lo a.toNatClampNeg b, upd hi a.toNatClampNeg c, va, ce, ki, fi, se, th)) (g : ¬ (rg_W 0 3 a ∧ rg_W (-100) 100 b ∧ rg_W (-100) 100 c ∧ b ≤ c) → post (-1) (n, e, pl, w, lo, hi, va, ce, ki, fi, se, th)) : wpX_range post (n, e, pl, w, lo, hi, va, ce, ki, fi, se, th) a b c := by
  unfold wpX_range
  dsimp only
  exact rg_xV (fun h1 => rg_xN (fun h2 => rg_xN (fun h3 => br_c (fun h4 => And.intro (rg_in4 h1) (nm_e (And.intro (rg_in4 h1) (nm_e (f ⟨h1, h2, h3, h4⟩))))) (fun z => g fun y => z y.2.2.2)) (fun z => g fun y => z y.2.2.1)) (fun z => g fun y => z y.2.1)) (fun z => g fun y => z y.1)
theorem rg_y_range {post : Int32 → SY → Prop} {n e pl w : Int32} {lo hi va ce ki fi se th : Nat → Int32} {a b c : Int32} (f : rg_W 0 3 a ∧ rg_W (-100) 100 b ∧ rg_W (-100) 100 c ∧ b ≤ c → post 0 (n, e, pl, w, upd lo a.toNatClampNeg b, upd hi a.toNatClampNeg c, va, ce, ki, fi, se, th)) (g : ¬ (rg_W 0 3 a ∧ rg_W (-100) 100 b ∧ rg_W (-100) 100 c ∧ b ≤ c) → post (-1) (n, e, pl, w, lo, hi, va, ce, ki, fi, se, th)) : wpY_range post (n, e, pl, w, lo, hi, va, ce, ki, fi, se, th) a b c := by
  unfold wpY_range
  dsimp only
  exact rg_yV (fun h1 => rg_yW (fun h2 => rg_yW (fun h3 => br_c (fun h4 => And.intro (rg_in4 h1) (nm_e (And.intro (rg_in4 h1) (nm_e (f ⟨h1, h2, h3, h4⟩))))) (fun z => g fun y => z y.2.2.2)) (fun z => g fun y => z y.2.2.1)) (fun z => g fun y => z y.2.1)) (fun z => g fun y => z y.1)
theorem i_vc_range {k : Nat} {u : SX} {v : SY} (I : i_Rel k u v) (hk : k + 4 ≤ 2048) (v1 : Int32) (v2 : Int32) (v3 : Int32) : wpX_range (fun r u' => wpY_range (fun r' v' => r' = r ∧ i_Rel (k + 4) u' v') v v1 v2 v3) u v1 v2 v3 := by
  obtain ⟨rfl, hI⟩ := I
  refine rg_fin (WX := fun post => wpX_range post u v1 v2 v3) (WY := fun post => wpY_range post u v1 v2 v3) ?_
  obtain ⟨n, e, pl, w, lo, hi, va, ce, ki, fi, se, th⟩ := u
  by_cases h : rg_W 0 3 v1 ∧ rg_W (-100) 100 v2 ∧ rg_W (-100) 100 v3 ∧ v2 ≤ v3
  · exact ⟨0, (n, e, pl, w, upd lo v1.toNatClampNeg v2, upd hi v1.toNatClampNeg v3, va, ce, ki, fi, se, th), hI, fun post hp => rg_x_range (fun _ => hp) (fun z => absurd h z), fun post hp => rg_y_range (fun _ => hp) (fun z => absurd h z)⟩
  · exact ⟨-1, (n, e, pl, w, lo, hi, va, ce, ki, fi, se, th), hI, fun post hp => rg_x_range (fun z => absurd z h) (fun _ => hp), fun post hp => rg_y_range (fun z => absurd z h) (fun _ => hp)⟩
/-! size, clear, ending, place, worked -/
theorem i_vc_size {k : Nat} {u : SX} {v : SY} (I : i_Rel k u v) (hk : k + 4 ≤ 2048) : wpX_size (fun r => wpY_size (fun r' => r' = r ∧ i_Rel (k + 4) u v) v) u := by
  obtain ⟨rfl, hI⟩ := I
  obtain ⟨n, e, pl, w, lo, hi, va, ce, ki, fi, se, th⟩ := u
  exact ⟨rfl, rfl, hI⟩
theorem i_vc_clear {k : Nat} {u : SX} {v : SY} (I : i_Rel k u v) (hk : k + 4 ≤ 2048) : wpX_clear (fun u' => wpY_clear (fun v' => i_Rel (k + 4) u' v') v) u := by
  obtain ⟨rfl, hI⟩ := I
  obtain ⟨n, e, pl, w, lo, hi, va, ce, ki, fi, se, th⟩ := u
  exact ⟨rfl, 0, by omega, rfl, fun i hi => absurd hi (by omega)⟩
theorem i_vc_ending {k : Nat} {u : SX} {v : SY} (I : i_Rel k u v) (hk : k + 4 ≤ 2048) : wpX_ending (fun r => wpY_ending (fun r' => r' = r ∧ i_Rel (k + 4) u v) v) u := by
  obtain ⟨rfl, hI⟩ := I
  obtain ⟨n, e, pl, w, lo, hi, va, ce, ki, fi, se, th⟩ := u
  exact ⟨rfl, rfl, hI⟩
theorem i_vc_place {k : Nat} {u : SX} {v : SY} (I : i_Rel k u v) (hk : k + 4 ≤ 2048) : wpX_place (fun r => wpY_place (fun r' => r' = r ∧ i_Rel (k + 4) u v) v) u := by
  obtain ⟨rfl, hI⟩ := I
  obtain ⟨n, e, pl, w, lo, hi, va, ce, ki, fi, se, th⟩ := u
  exact ⟨rfl, rfl, hI⟩
theorem i_vc_worked {k : Nat} {u : SX} {v : SY} (I : i_Rel k u v) (hk : k + 4 ≤ 2048) : wpX_worked (fun r => wpY_worked (fun r' => r' = r ∧ i_Rel (k + 4) u v) v) u := by
  obtain ⟨rfl, hI⟩ := I
  obtain ⟨n, e, pl, w, lo, hi, va, ce, ki, fi, se, th⟩ := u
  exact ⟨rfl, rfl, hI⟩
/-! setCell, cell, variable -/
theorem i_vc_setCell {k : Nat} {u : SX} {v : SY} (I : i_Rel k u v) (hk : k + 4 ≤ 2048) (v1 : Int32) (v2 : Int32) : wpX_setCell (fun r u' => wpY_setCell (fun r' v' => r' = r ∧ i_Rel (k + 4) u' v') v v1 v2) u v1 v2 := by
  obtain ⟨rfl, hI⟩ := I
  refine rg_fin (WX := fun post => wpX_setCell post u v1 v2) (WY := fun post => wpY_setCell post u v1 v2) ?_
  obtain ⟨n, e, pl, w, lo, hi, va, ce, ki, fi, se, th⟩ := u
  unfold wpX_setCell wpY_setCell
  dsimp only
  by_cases h : rg_W 0 7 v1 ∧ rg_W (-100) 100 v2
  · refine ⟨ce v1.toNatClampNeg, (n, e, pl, w, lo, hi, va, upd ce v1.toNatClampNeg v2, ki, fi, se, th), hI, fun post hp => ?_, fun post hp => ?_⟩
    · exact rg_xC (fun h1 => rg_xN (fun h2 => And.intro (rg_in8 h1) (nm_e (And.intro (rg_in8 h1) (nm_e hp)))) (fun z => absurd h.2 z)) (fun z => absurd h.1 z)
    · exact rg_yW (fun h1 => rg_yW (fun h2 => And.intro (rg_in8 h1) (nm_e (And.intro (rg_in8 h1) (nm_e hp)))) (fun z => absurd h.2 z)) (fun z => absurd h.1 z)
  · refine ⟨-1, (n, e, pl, w, lo, hi, va, ce, ki, fi, se, th), hI, fun post hp => ?_, fun post hp => ?_⟩
    · exact rg_xC (fun h1 => rg_xN (fun h2 => absurd ⟨h1, h2⟩ h) (fun _ => hp)) (fun _ => hp)
    · exact rg_yW (fun h1 => rg_yW (fun h2 => absurd ⟨h1, h2⟩ h) (fun _ => hp)) (fun _ => hp)
theorem i_vc_cell {k : Nat} {u : SX} {v : SY} (I : i_Rel k u v) (hk : k + 4 ≤ 2048) (v1 : Int32) : wpX_cell (fun r => wpY_cell (fun r' => r' = r ∧ i_Rel (k + 4) u v) v v1) u v1 := by
  obtain ⟨rfl, hI⟩ := I
  refine rg_fin0 hI (WX := fun post => wpX_cell post u v1) (WY := fun post => wpY_cell post u v1) ?_
  obtain ⟨n, e, pl, w, lo, hi, va, ce, ki, fi, se, th⟩ := u
  unfold wpX_cell wpY_cell
  dsimp only
  by_cases h : rg_W 0 7 v1
  · exact ⟨ce v1.toNatClampNeg, fun post hp => rg_xC (fun h1 => And.intro (rg_in8 h1) hp) (fun z => absurd h z), fun post hp => rg_yW (fun h1 => And.intro (rg_in8 h1) hp) (fun z => absurd h z)⟩
  · exact ⟨0, fun post hp => rg_xC (fun h1 => absurd h1 h) (fun _ => hp), fun post hp => rg_yW (fun h1 => absurd h1 h) (fun _ => hp)⟩
theorem i_vc_variable {k : Nat} {u : SX} {v : SY} (I : i_Rel k u v) (hk : k + 4 ≤ 2048) (v1 : Int32) : wpX_variable (fun r => wpY_variable (fun r' => r' = r ∧ i_Rel (k + 4) u v) v v1) u v1 := by
  obtain ⟨rfl, hI⟩ := I
  refine rg_fin0 hI (WX := fun post => wpX_variable post u v1) (WY := fun post => wpY_variable post u v1) ?_
  obtain ⟨n, e, pl, w, lo, hi, va, ce, ki, fi, se, th⟩ := u
  unfold wpX_variable wpY_variable
  dsimp only
  by_cases h : rg_W 0 3 v1
  · exact ⟨va v1.toNatClampNeg, fun post hp => rg_xV (fun h1 => And.intro (rg_in4 h1) hp) (fun z => absurd h z), fun post hp => rg_yV (fun h1 => And.intro (rg_in4 h1) hp) (fun z => absurd h z)⟩
  · exact ⟨0, fun post hp => rg_xV (fun h1 => absurd h1 h) (fun _ => hp), fun post hp => rg_yV (fun h1 => absurd h1 h) (fun _ => hp)⟩
/-! digest -/
theorem rg_dig2 (n e pl w : Int32) (lo hi va ce ki fi se th : Nat → Int32) : ∀ d j : Nat, j + d = 8 → ∀ s : Int32, ∃ r : Int32, (∀ post : Int32 → Prop, post r → wX_digest_30 post n e pl w lo hi va ce ki fi se th (d + 1) s (nI j)) ∧ (∀ post : Int32 → Prop, post r → wY_digest_30 post n e pl w lo hi va ce ki fi se th (d + 1) s (nI j)) := by
  intro d
  induction d with
  | zero =>
    intro j hj s
    have h : (8 : Int32) ≤ nI j := nI_le (a := 8) (by omega) (by omega)
    exact ⟨s, fun post hp => br_t h hp, fun post hp => br_t h hp⟩
  | succ d ih =>
    intro j hj s
    have h : ¬ (8 : Int32) ≤ nI j := nI_ge (b := 8) (by omega) (by decide)
    have hin : vp_in (nI j) 8 := vp_in_nI (by omega) (by decide)
    obtain ⟨r, hX, hY⟩ := ih (j + 1) (by omega) (s + ((nI j + 5) * (ce (nI j).toNatClampNeg)))
    exact ⟨r, fun post hp => br_f h (And.intro hin (nm_e (nm_r (nI_1 j) (hX post hp)))), fun post hp => br_f h (And.intro hin (nm_e (nm_r (nI_1 j) (hY post hp))))⟩
theorem rg_dig1 (n e pl w : Int32) (lo hi va ce ki fi se th : Nat → Int32) : ∀ d j : Nat, j + d = 4 → ∀ s : Int32, ∃ r : Int32, (∀ post : Int32 → Prop, post r → wX_digest_4 post n e pl w lo hi va ce ki fi se th (d + 1) s (nI j)) ∧ (∀ post : Int32 → Prop, post r → wY_digest_4 post n e pl w lo hi va ce ki fi se th (d + 1) s (nI j)) := by
  intro d
  induction d with
  | zero =>
    intro j hj s
    have h : (4 : Int32) ≤ nI j := nI_le (a := 4) (by omega) (by omega)
    obtain ⟨r, hX, hY⟩ := rg_dig2 n e pl w lo hi va ce ki fi se th 8 0 rfl s
    exact ⟨r, fun post hp => br_t h ⟨9, hX post hp⟩, fun post hp => br_t h ⟨9, hY post hp⟩⟩
  | succ d ih =>
    intro j hj s
    have h : ¬ (4 : Int32) ≤ nI j := nI_ge (b := 4) (by omega) (by decide)
    have hin : vp_in (nI j) 4 := vp_in_nI (by omega) (by decide)
    obtain ⟨r, hX, hY⟩ := ih (j + 1) (by omega) (s + ((nI j + 1) * (va (nI j).toNatClampNeg)))
    exact ⟨r, fun post hp => br_f h (And.intro hin (nm_e (nm_r (nI_1 j) (hX post hp)))), fun post hp => br_f h (And.intro hin (nm_e (nm_r (nI_1 j) (hY post hp))))⟩
theorem i_vc_digest {k : Nat} {u : SX} {v : SY} (I : i_Rel k u v) (hk : k + 4 ≤ 2048) : wpX_digest (fun r => wpY_digest (fun r' => r' = r ∧ i_Rel (k + 4) u v) v) u := by
  obtain ⟨rfl, hI⟩ := I
  refine rg_fin0 hI (WX := fun post => wpX_digest post u) (WY := fun post => wpY_digest post u) ?_
  obtain ⟨n, e, pl, w, lo, hi, va, ce, ki, fi, se, th⟩ := u
  obtain ⟨r, hX, hY⟩ := rg_dig1 n e pl w lo hi va ce ki fi se th 4 0 rfl 0
  exact ⟨r, fun post hp => ⟨5, hX post hp⟩, fun post hp => ⟨5, hY post hp⟩⟩
end
section
/-! one instruction worked off: what both sides do with a number for a variable -/
theorem rg_give (n : Int32) (lo hi va ce ki fi se th : Nat → Int32) (x v : Int32) (hx : vp_in x 4) : ∃ (o : Int32) (va' : Nat → Int32), (∀ (e pl w : Int32) (post : Int32 → SX → Prop), post o (n, e, pl, w, lo, hi, va', ce, ki, fi, se, th) → wpX_give post (n, e, pl, w, lo, hi, va, ce, ki, fi, se, th) x v) ∧ (∀ (pl w : Int32) (post : SY → Prop), post (n, o, pl, w, lo, hi, va', ce, ki, fi, se, th) → wpY_get post (n, 0, pl, w, lo, hi, va, ce, ki, fi, se, th) x v) := by
  by_cases h : rg_W (lo x.toNatClampNeg) (hi x.toNatClampNeg) v
  · exact ⟨0, upd va x.toNatClampNeg v, fun e pl w post hp => And.intro hx (br_f h.1 (And.intro hx (br_t (Int32.not_lt.mp h.2) (And.intro hx (nm_e hp))))), fun pl w post hp => And.intro hx (And.intro hx (rg_yW (fun _ => And.intro hx (nm_e hp)) (fun z => absurd h z)))⟩
  · refine ⟨2, va, fun e pl w post hp => And.intro hx (br_c (fun _ => hp) (fun h1 => And.intro hx (br_c (fun h2 => absurd ⟨h1, fun z => Int32.not_lt.mpr h2 z⟩ h) (fun _ => hp)))), fun pl w post hp => And.intro hx (And.intro hx (rg_yW (fun z => absurd z h) (fun _ => hp)))⟩
/-- the step's promise: outcome o, next place nx, variables va', cells ce' -/
def rg_S (n : Int32) (lo hi va ce ki fi se th : Nat → Int32) (q o nx : Int32) (va' ce' : Nat → Int32) : Prop :=
  ¬ nx < 0 ∧ (∀ (e pl w : Int32) (post : Int32 → SX → Prop), post o (n, e, pl, w, lo, hi, va', ce', ki, fi, se, th) → wpX_work post (n, e, pl, w, lo, hi, va, ce, ki, fi, se, th) q) ∧ (o = 0 → ∀ (e pl w : Int32) (post : Int32 → Prop), post nx → wpX_placeAfter post (n, e, pl, w, lo, hi, va', ce', ki, fi, se, th) q) ∧ (∀ (pl w : Int32) (post : Int32 → SY → Prop), post nx (n, o, pl, w, lo, hi, va', ce', ki, fi, se, th) → wpY_step post (n, 0, pl, w, lo, hi, va, ce, ki, fi, se, th) q)
theorem rg_pa {n e pl w : Int32} {lo hi va ce ki fi se th : Nat → Int32} {q k : Int32} {post : Int32 → Prop} (hq : vp_in q 14) (hk : ki q.toNatClampNeg = k) (h6 : ¬ k = 6) (h7 : ¬ k = 7) (hp : post (q + 1)) : wpX_placeAfter post (n, e, pl, w, lo, hi, va, ce, ki, fi, se, th) q :=
  And.intro hq (nm_r hk (br_f h6 (br_f h7 hp)))
theorem rg_k0 (n : Int32) (lo hi va ce ki fi se th : Nat → Int32) (q : Int32) (hq : vp_in q 14) (h1 : ¬ q + 1 < 0) (hk : ki q.toNatClampNeg = 0) (ha : rg_W 0 3 (fi q.toNatClampNeg)) : ∃ o nx va' ce', rg_S n lo hi va ce ki fi se th q o nx va' ce' := by
  obtain ⟨o, va', hX, hY⟩ := rg_give n lo hi va ce ki fi se th (fi q.toNatClampNeg) (se q.toNatClampNeg) (rg_in4 ha)
  refine ⟨o, q + 1, va', ce, h1, fun e pl w post hp => ?_, fun _ e pl w post hp => rg_pa hq hk (by decide) (by decide) hp, fun pl w post hp => ?_⟩
  · exact And.intro hq (nm_e (And.intro hq (nm_e (And.intro hq (nm_e (And.intro hq (nm_r hk (br_f (by decide) (br_f (by decide) (br_t rfl (hX e pl w _ hp)))))))))))
  · exact And.intro hq (br_f (by rw [hk]; decide) (And.intro hq (nm_e (And.intro hq (nm_e (And.intro hq (br_t hk (hY pl w _ hp))))))))
theorem rg_k1 (n : Int32) (lo hi va ce ki fi se th : Nat → Int32) (q : Int32) (hq : vp_in q 14) (h1 : ¬ q + 1 < 0) (hk : ki q.toNatClampNeg = 1) (ha : rg_W 0 3 (fi q.toNatClampNeg)) (hb : rg_W 0 3 (se q.toNatClampNeg)) : ∃ o nx va' ce', rg_S n lo hi va ce ki fi se th q o nx va' ce' := by
  obtain ⟨o, va', hX, hY⟩ := rg_give n lo hi va ce ki fi se th (fi q.toNatClampNeg) (va (se q.toNatClampNeg).toNatClampNeg + th q.toNatClampNeg) (rg_in4 ha)
  refine ⟨o, q + 1, va', ce, h1, fun e pl w post hp => ?_, fun _ e pl w post hp => rg_pa hq hk (by decide) (by decide) hp, fun pl w post hp => ?_⟩
  · exact And.intro hq (nm_e (And.intro hq (nm_e (And.intro hq (nm_e (And.intro hq (nm_r hk (br_f (by decide) (br_f (by decide) (br_f (by decide) (br_t rfl (And.intro (rg_in4 hb) (hX e pl w _ hp)))))))))))))
  · exact And.intro hq (br_f (by rw [hk]; decide) (And.intro hq (nm_e (And.intro hq (nm_e (And.intro hq (br_f (by rw [hk]; decide) (And.intro hq (br_t hk (And.intro (rg_in4 hb) (And.intro hq (hY pl w _ hp))))))))))))
theorem rg_k2 (n : Int32) (lo hi va ce ki fi se th : Nat → Int32) (q : Int32) (hq : vp_in q 14) (h1 : ¬ q + 1 < 0) (hk : ki q.toNatClampNeg = 2) (ha : rg_W 0 3 (fi q.toNatClampNeg)) (hb : rg_W 0 3 (se q.toNatClampNeg)) (hc : rg_W 0 3 (th q.toNatClampNeg)) : ∃ o nx va' ce', rg_S n lo hi va ce ki fi se th q o nx va' ce' := by
  obtain ⟨o, va', hX, hY⟩ := rg_give n lo hi va ce ki fi se th (fi q.toNatClampNeg) (va (se q.toNatClampNeg).toNatClampNeg + va (th q.toNatClampNeg).toNatClampNeg) (rg_in4 ha)
  refine ⟨o, q + 1, va', ce, h1, fun e pl w post hp => ?_, fun _ e pl w post hp => rg_pa hq hk (by decide) (by decide) hp, fun pl w post hp => ?_⟩
  · exact And.intro hq (nm_e (And.intro hq (nm_e (And.intro hq (nm_e (And.intro hq (nm_r hk (br_f (by decide) (br_f (by decide) (br_f (by decide) (br_f (by decide) (br_t rfl (And.intro (rg_in4 hb) (And.intro (rg_in4 hc) (hX e pl w _ hp)))))))))))))))
  · exact And.intro hq (br_f (by rw [hk]; decide) (And.intro hq (nm_e (And.intro hq (nm_e (And.intro hq (br_f (by rw [hk]; decide) (And.intro hq (br_f (by rw [hk]; decide) (And.intro hq (br_t hk (And.intro (rg_in4 hb) (And.intro hq (And.intro (rg_in4 hc) (hY pl w _ hp)))))))))))))))
theorem rg_k3 (n : Int32) (lo hi va ce ki fi se th : Nat → Int32) (q : Int32) (hq : vp_in q 14) (h1 : ¬ q + 1 < 0) (hk : ki q.toNatClampNeg = 3) (ha : rg_W 0 3 (fi q.toNatClampNeg)) (hb : rg_W 0 3 (se q.toNatClampNeg)) : ∃ o nx va' ce', rg_S n lo hi va ce ki fi se th q o nx va' ce' := by
  obtain ⟨o, va', hX, hY⟩ := rg_give n lo hi va ce ki fi se th (fi q.toNatClampNeg) (va (se q.toNatClampNeg).toNatClampNeg &&& th q.toNatClampNeg) (rg_in4 ha)
  refine ⟨o, q + 1, va', ce, h1, fun e pl w post hp => ?_, fun _ e pl w post hp => rg_pa hq hk (by decide) (by decide) hp, fun pl w post hp => ?_⟩
  · exact And.intro hq (nm_e (And.intro hq (nm_e (And.intro hq (nm_e (And.intro hq (nm_r hk (br_f (by decide) (br_f (by decide) (br_f (by decide) (br_f (by decide) (br_f (by decide) (br_t rfl (And.intro (rg_in4 hb) (hX e pl w _ hp)))))))))))))))
  · exact And.intro hq (br_f (by rw [hk]; decide) (And.intro hq (nm_e (And.intro hq (nm_e (And.intro hq (br_f (by rw [hk]; decide) (And.intro hq (br_f (by rw [hk]; decide) (And.intro hq (br_f (by rw [hk]; decide) (And.intro (rg_in4 hb) (And.intro hq (hY pl w _ hp))))))))))))))
/-! load and store -/
theorem rg_k4 (n : Int32) (lo hi va ce ki fi se th : Nat → Int32) (q : Int32) (hq : vp_in q 14) (h1 : ¬ q + 1 < 0) (hk : ki q.toNatClampNeg = 4) (ha : rg_W 0 3 (fi q.toNatClampNeg)) (hb : rg_W 0 3 (se q.toNatClampNeg)) : ∃ o nx va' ce', rg_S n lo hi va ce ki fi se th q o nx va' ce' := by
  by_cases h : rg_W 0 7 (va (se q.toNatClampNeg).toNatClampNeg + th q.toNatClampNeg)
  · obtain ⟨o, va', hX, hY⟩ := rg_give n lo hi va ce ki fi se th (fi q.toNatClampNeg) (ce (va (se q.toNatClampNeg).toNatClampNeg + th q.toNatClampNeg).toNatClampNeg) (rg_in4 ha)
    refine ⟨o, q + 1, va', ce, h1, fun e pl w post hp => ?_, fun _ e pl w post hp => rg_pa hq hk (by decide) (by decide) hp, fun pl w post hp => ?_⟩
    · exact And.intro hq (nm_e (And.intro hq (nm_e (And.intro hq (nm_e (And.intro hq (nm_r hk (br_f (by decide) (br_f (by decide) (br_f (by decide) (br_f (by decide) (br_f (by decide) (br_f (by decide) (br_t rfl (And.intro (rg_in4 hb) (rg_xC (fun _ => And.intro (rg_in8 h) (hX e pl w _ hp)) (fun z => absurd h z)))))))))))))))))
    · exact And.intro hq (br_t (by rw [hk]; decide) (And.intro hq (br_f (by rw [hk]; decide) (And.intro hq (nm_e (And.intro hq (And.intro (rg_in4 hb) (And.intro hq (nm_e (rg_yW (fun _ => And.intro hq (br_t hk (And.intro (rg_in8 h) (hY pl w _ hp)))) (fun z => absurd h z)))))))))))
  · refine ⟨3, q + 1, va, ce, h1, fun e pl w post hp => ?_, fun z => absurd z (by decide), fun pl w post hp => ?_⟩
    · exact And.intro hq (nm_e (And.intro hq (nm_e (And.intro hq (nm_e (And.intro hq (nm_r hk (br_f (by decide) (br_f (by decide) (br_f (by decide) (br_f (by decide) (br_f (by decide) (br_f (by decide) (br_t rfl (And.intro (rg_in4 hb) (rg_xC (fun z => absurd z h) (fun _ => hp)))))))))))))))))
    · exact And.intro hq (br_t (by rw [hk]; decide) (And.intro hq (br_f (by rw [hk]; decide) (And.intro hq (nm_e (And.intro hq (And.intro (rg_in4 hb) (And.intro hq (nm_e (rg_yW (fun z => absurd z h) (fun _ => hp)))))))))))
theorem rg_k5 (n : Int32) (lo hi va ce ki fi se th : Nat → Int32) (q : Int32) (hq : vp_in q 14) (h1 : ¬ q + 1 < 0) (hk : ki q.toNatClampNeg = 5) (ha : rg_W 0 3 (fi q.toNatClampNeg)) (hb : rg_W 0 3 (se q.toNatClampNeg)) : ∃ o nx va' ce', rg_S n lo hi va ce ki fi se th q o nx va' ce' := by
  by_cases h : rg_W 0 7 (va (se q.toNatClampNeg).toNatClampNeg + th q.toNatClampNeg)
  · refine ⟨0, q + 1, va, upd ce (va (se q.toNatClampNeg).toNatClampNeg + th q.toNatClampNeg).toNatClampNeg (va (fi q.toNatClampNeg).toNatClampNeg), h1, fun e pl w post hp => ?_, fun _ e pl w post hp => rg_pa hq hk (by decide) (by decide) hp, fun pl w post hp => ?_⟩
    · exact And.intro hq (nm_e (And.intro hq (nm_e (And.intro hq (nm_e (And.intro hq (nm_r hk (br_f (by decide) (br_f (by decide) (br_f (by decide) (br_f (by decide) (br_f (by decide) (br_f (by decide) (br_f (by decide) (br_t rfl (And.intro (rg_in4 hb) (rg_xC (fun _ => And.intro (rg_in4 ha) (And.intro (rg_in8 h) (nm_e hp))) (fun z => absurd h z))))))))))))))))))
    · exact And.intro hq (br_t (by rw [hk]; decide) (And.intro hq (br_f (by rw [hk]; decide) (And.intro hq (nm_e (And.intro hq (And.intro (rg_in4 hb) (And.intro hq (nm_e (rg_yW (fun _ => And.intro hq (br_f (by rw [hk]; decide) (And.intro (rg_in4 ha) (And.intro (rg_in8 h) (nm_e hp))))) (fun z => absurd h z)))))))))))
  · refine ⟨3, q + 1, va, ce, h1, fun e pl w post hp => ?_, fun z => absurd z (by decide), fun pl w post hp => ?_⟩
    · exact And.intro hq (nm_e (And.intro hq (nm_e (And.intro hq (nm_e (And.intro hq (nm_r hk (br_f (by decide) (br_f (by decide) (br_f (by decide) (br_f (by decide) (br_f (by decide) (br_f (by decide) (br_f (by decide) (br_t rfl (And.intro (rg_in4 hb) (rg_xC (fun z => absurd z h) (fun _ => hp))))))))))))))))))
    · exact And.intro hq (br_t (by rw [hk]; decide) (And.intro hq (br_f (by rw [hk]; decide) (And.intro hq (nm_e (And.intro hq (And.intro (rg_in4 hb) (And.intro hq (nm_e (rg_yW (fun z => absurd z h) (fun _ => hp)))))))))))
/-! less and jump -/
theorem rg_k6 (n : Int32) (lo hi va ce ki fi se th : Nat → Int32) (q : Int32) (hq : vp_in q 14) (h1 : ¬ q + 1 < 0) (hk : ki q.toNatClampNeg = 6) (ha : rg_W 0 3 (fi q.toNatClampNeg)) (hb : rg_W 0 3 (se q.toNatClampNeg)) (hc : ¬ th q.toNatClampNeg < 0) : ∃ o nx va' ce', rg_S n lo hi va ce ki fi se th q o nx va' ce' := by
  by_cases h : va (se q.toNatClampNeg).toNatClampNeg ≤ va (fi q.toNatClampNeg).toNatClampNeg
  · refine ⟨0, q + 1, va, ce, h1, fun e pl w post hp => ?_, fun _ e pl w post hp => ?_, fun pl w post hp => ?_⟩
    · exact And.intro hq (nm_e (And.intro hq (nm_e (And.intro hq (nm_e (And.intro hq (nm_r hk (br_f (by decide) (br_t (by decide) hp)))))))))
    · exact And.intro hq (nm_r hk (br_t rfl (And.intro hq (And.intro (rg_in4 ha) (And.intro hq (And.intro (rg_in4 hb) (br_t h hp)))))))
    · exact And.intro hq (br_t (by rw [hk]; decide) (And.intro hq (br_t (by rw [hk]; decide) (And.intro hq (br_f (by rw [hk]; decide) (And.intro hq (And.intro (rg_in4 ha) (And.intro hq (And.intro (rg_in4 hb) (br_t h hp))))))))))
  · refine ⟨0, th q.toNatClampNeg, va, ce, hc, fun e pl w post hp => ?_, fun _ e pl w post hp => ?_, fun pl w post hp => ?_⟩
    · exact And.intro hq (nm_e (And.intro hq (nm_e (And.intro hq (nm_e (And.intro hq (nm_r hk (br_f (by decide) (br_t (by decide) hp)))))))))
    · exact And.intro hq (nm_r hk (br_t rfl (And.intro hq (And.intro (rg_in4 ha) (And.intro hq (And.intro (rg_in4 hb) (br_f h (And.intro hq hp))))))))
    · exact And.intro hq (br_t (by rw [hk]; decide) (And.intro hq (br_t (by rw [hk]; decide) (And.intro hq (br_f (by rw [hk]; decide) (And.intro hq (And.intro (rg_in4 ha) (And.intro hq (And.intro (rg_in4 hb) (br_f h (And.intro hq hp)))))))))))
theorem rg_k7 (n : Int32) (lo hi va ce ki fi se th : Nat → Int32) (q : Int32) (hq : vp_in q 14) (hk : ki q.toNatClampNeg = 7) (ha : ¬ fi q.toNatClampNeg < 0) : ∃ o nx va' ce', rg_S n lo hi va ce ki fi se th q o nx va' ce' := by
  refine ⟨0, fi q.toNatClampNeg, va, ce, ha, fun e pl w post hp => ?_, fun _ e pl w post hp => ?_, fun pl w post hp => ?_⟩
  · exact And.intro hq (nm_e (And.intro hq (nm_e (And.intro hq (nm_e (And.intro hq (nm_r hk (br_f (by decide) (br_t (by decide) hp)))))))))
  · exact And.intro hq (nm_r hk (br_f (by decide) (br_t rfl (And.intro hq hp))))
  · exact And.intro hq (br_t (by rw [hk]; decide) (And.intro hq (br_t (by rw [hk]; decide) (And.intro hq (br_t hk (And.intro hq hp))))))
theorem rg_step (n : Int32) (lo hi va ce ki fi se th : Nat → Int32) (q : Int32) (hq : vp_in q 14) (h1 : ¬ q + 1 < 0) (ok : rg_ok (ki q.toNatClampNeg) (fi q.toNatClampNeg) (se q.toNatClampNeg) (th q.toNatClampNeg)) : ∃ o nx va' ce', rg_S n lo hi va ce ki fi se th q o nx va' ce' := by
  rcases ok with ⟨hk, ha⟩ | ⟨hk, ha, hb⟩ | ⟨hk, ha, hb, hc⟩ | ⟨hk, ha, hb⟩ | ⟨hk, ha, hb⟩ | ⟨hk, ha, hb⟩ | ⟨hk, ha, hb, hc⟩ | ⟨hk, ha⟩
  · exact rg_k0 n lo hi va ce ki fi se th q hq h1 hk ha
  · exact rg_k1 n lo hi va ce ki fi se th q hq h1 hk ha hb
  · exact rg_k2 n lo hi va ce ki fi se th q hq h1 hk ha hb hc
  · exact rg_k3 n lo hi va ce ki fi se th q hq h1 hk ha hb
  · exact rg_k4 n lo hi va ce ki fi se th q hq h1 hk ha hb
  · exact rg_k5 n lo hi va ce ki fi se th q hq h1 hk ha hb
  · exact rg_k6 n lo hi va ce ki fi se th q hq h1 hk ha hb hc
  · exact rg_k7 n lo hi va ce ki fi se th q hq hk ha
end
section
/-! the variables at the start of a run -/
theorem rg_start (lo hi ce ki fi se th : Nat → Int32) : ∀ d j : Nat, j + d = 4 → ∀ va : Nat → Int32, ∃ va' : Nat → Int32, (∀ (n e pl w : Int32) (post : SX → Prop), post (n, e, pl, w, lo, hi, va', ce, ki, fi, se, th) → wX_startVariables_2 post n e pl w (d + 1) (nI j) lo hi va ce ki fi se th) ∧ (∀ (n e pl w : Int32) (post : Int32 → SY → Prop), (∃ m : Nat, wY_run_73 post m 0 n 0 (-1) 0 lo hi va' ce ki fi se th) → wY_run_2 post n e pl w (d + 1) (nI j) lo hi va ce ki fi se th) := by
  intro d
  induction d with
  | zero =>
    intro j hj va
    have h : (4 : Int32) ≤ nI j := nI_le (a := 4) (by omega) (by omega)
    exact ⟨va, fun n e pl w post hp => br_t h hp, fun n e pl w post hp => br_t h hp⟩
  | succ d ih =>
    intro j hj va
    have h : ¬ (4 : Int32) ≤ nI j := nI_ge (b := 4) (by omega) (by decide)
    have hin : vp_in (nI j) 4 := vp_in_nI (by omega) (by decide)
    by_cases hl : lo (nI j).toNatClampNeg ≤ 0
    · by_cases hh : 0 ≤ hi (nI j).toNatClampNeg
      · obtain ⟨va', hX, hY⟩ := ih (j + 1) (by omega) (upd va (nI j).toNatClampNeg 0)
        exact ⟨va', fun n e pl w post hp => br_f h (And.intro hin (And.intro hin (br_t hl (br_t hh (And.intro hin (nm_e (nm_r (nI_1 j) (hX n e pl w post hp)))))))), fun n e pl w post hp => br_f h (And.intro hin (br_t hl (And.intro hin (br_t hh (And.intro hin (nm_e (nm_r (nI_1 j) (hY n e pl w post hp))))))))⟩
      · obtain ⟨va', hX, hY⟩ := ih (j + 1) (by omega) (upd va (nI j).toNatClampNeg (hi (nI j).toNatClampNeg))
        exact ⟨va', fun n e pl w post hp => br_f h (And.intro hin (And.intro hin (br_t hl (br_f hh (And.intro hin (nm_e (nm_r (nI_1 j) (hX n e pl w post hp)))))))), fun n e pl w post hp => br_f h (And.intro hin (br_t hl (And.intro hin (br_f hh (And.intro hin (And.intro hin (nm_e (nm_r (nI_1 j) (hY n e pl w post hp)))))))))⟩
    · obtain ⟨va', hX, hY⟩ := ih (j + 1) (by omega) (upd va (nI j).toNatClampNeg (lo (nI j).toNatClampNeg))
      exact ⟨va', fun n e pl w post hp => br_f h (And.intro hin (And.intro hin (br_f hl (And.intro hin (nm_e (nm_r (nI_1 j) (hX n e pl w post hp))))))), fun n e pl w post hp => br_f h (And.intro hin (br_f hl (And.intro hin (And.intro hin (nm_e (nm_r (nI_1 j) (hY n e pl w post hp)))))))⟩
/-! the run's loop, in lockstep -/
theorem rg_loop (n : Int32) (lo hi ki fi se th : Nat → Int32) (hP : rg_P n ki fi se th) : ∀ d wk : Nat, wk + d = 120 → ∀ (q : Int32) (va ce : Nat → Int32), ¬ q < 0 → ∃ (r e' p' w' : Int32) (va' ce' : Nat → Int32), (∀ (e pl w : Int32) (post : Int32 → SX → Prop), post r (n, e', p', w', lo, hi, va', ce', ki, fi, se, th) → wX_run_10 post (d + 1 + 1) q (nI wk) 0 n e pl w lo hi va ce ki fi se th) ∧ (∀ post : Int32 → SY → Prop, post r (n, e', p', w', lo, hi, va', ce', ki, fi, se, th) → wY_run_73 post (d + 1 + 1) q n 0 (-1) (nI wk) lo hi va ce ki fi se th) := by
  intro d
  induction d with
  | zero =>
    intro wk hw q va ce hq
    have h : (120 : Int32) ≤ nI wk := nI_le (a := 120) (by omega) (by omega)
    by_cases hn : n ≤ q
    · exact ⟨1, 1, -1, nI wk, va, ce, fun e pl w post hp => br_t h (br_t rfl (br_t hn hp)), fun post hp => br_t hn (br_t rfl (br_t hn hp))⟩
    · exact ⟨4, 4, -1, nI wk, va, ce, fun e pl w post hp => br_t h (br_t rfl (br_f hn hp)), fun post hp => br_f hn (br_t h (br_t rfl (br_f hn hp)))⟩
  | succ d ih =>
    intro wk hw q va ce hq
    have h : ¬ (120 : Int32) ≤ nI wk := nI_ge (b := 120) (by omega) (by decide)
    by_cases hn : n ≤ q
    · exact ⟨1, 1, -1, nI wk, va, ce, fun e pl w post hp => br_f h (br_t hn (br_t rfl (br_t hn hp))), fun post hp => br_t hn (br_t rfl (br_t hn hp))⟩
    · obtain ⟨hin, h1, ok⟩ := rg_at hP hq hn
      obtain ⟨o, nx, va', ce', hnx, hX, hXp, hY⟩ := rg_step n lo hi va ce ki fi se th q hin h1 ok
      by_cases ho : o = 0
      · subst ho
        obtain ⟨r, e', p', w', va2, ce2, hX', hY'⟩ := ih (wk + 1) (by omega) nx va' ce' hnx
        exact ⟨r, e', p', w', va2, ce2, fun e pl w post hp => br_f h (br_f hn (br_t rfl (hX e pl w _ (nm_r (nI_1 wk) (br_t rfl (hXp rfl e pl w _ (hX' e pl w post hp))))))), fun post hp => br_f hn (br_f h (br_t rfl (hY (-1) (nI wk) _ (nm_r (nI_1 wk) (br_t rfl (hY' post hp))))))⟩
      · exact ⟨o, o, q, nI (wk + 1), va', ce', fun e pl w post hp => br_f h (br_f hn (br_t rfl (hX e pl w _ (nm_r (nI_1 wk) (br_f ho (br_c (fun _ => br_f ho hp) (fun _ => br_c (fun _ => br_f ho hp) (fun _ => br_f ho (br_f ho hp))))))))), fun post hp => br_f hn (br_f h (br_t rfl (hY (-1) (nI wk) _ (nm_r (nI_1 wk) (br_f ho (br_c (fun _ => br_f ho hp) (fun _ => br_c (fun _ => br_f ho hp) (fun _ => br_f ho (br_f ho hp)))))))))⟩
theorem i_vc_run {k : Nat} {u : SX} {v : SY} (I : i_Rel k u v) (hk : k + 4 ≤ 2048) : wpX_run (fun r u' => wpY_run (fun r' v' => r' = r ∧ i_Rel (k + 4) u' v') v) u := by
  obtain ⟨rfl, hI⟩ := I
  refine rg_fin (WX := fun post => wpX_run post u) (WY := fun post => wpY_run post u) ?_
  obtain ⟨n, e, pl, w, lo, hi, va, ce, ki, fi, se, th⟩ := u
  obtain ⟨va1, hX1, hY1⟩ := rg_start lo hi ce ki fi se th 4 0 rfl va
  obtain ⟨r, e', p', w', va2, ce2, hX2, hY2⟩ := rg_loop n lo hi ki fi se th hI 120 0 rfl 0 va1 ce (by decide)
  refine ⟨r, (n, e', p', w', lo, hi, va2, ce2, ki, fi, se, th), hI, fun post hp => ?_, fun post hp => ?_⟩
  · unfold wpX_run
    dsimp only
    unfold wpX_startVariables
    exact ⟨5, hX1 n e pl w _ ⟨122, hX2 e pl w post hp⟩⟩
  · unfold wpY_run
    dsimp only
    exact ⟨5, hY1 n e pl w post ⟨122, hY2 post hp⟩⟩
end
