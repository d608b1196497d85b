/-! the constructors -/
theorem rg_init : ∀ d j : Nat, j + d = 4 → ∀ lo hi : Nat → Int32, ∃ lo' hi' : Nat → Int32, (∀ post : SX → Prop, post (0, 0, -1, 0, lo', hi', fun _ => 0, fun _ => 0, fun _ => 0, fun _ => 0, fun _ => 0, fun _ => 0) → wX_init_87 post 0 0 (-1) 0 (d + 1) (nI j) lo hi (fun _ => 0) (fun _ => 0) (fun _ => 0) (fun _ => 0) (fun _ => 0) (fun _ => 0)) ∧ (∀ post : SY → Prop, post (0, 0, -1, 0, lo', hi', fun _ => 0, fun _ => 0, fun _ => 0, fun _ => 0, fun _ => 0, fun _ => 0) → wY_init_67 post 0 0 0 0 (d + 1) (nI j) lo hi (fun _ => 0) (fun _ => 0) (fun _ => 0) (fun _ => 0) (fun _ => 0) (fun _ => 0)) := by
  intro d
  induction d with
  | zero =>
    intro j hj lo hi
    have h : (4 : Int32) ≤ nI j := nI_le (a := 4) (by omega) (by omega)
    exact ⟨lo, hi, fun post hp => br_t h hp, fun post hp => br_t h hp⟩
  | succ d ih =>
    intro j hj lo hi
    have h : ¬ (4 : Int32) ≤ nI j := nI_ge (b := 4) (by omega) (by decide)
    have hin : vp_in (nI j) 4 := vp_in_nI (by omega) (by decide)
    obtain ⟨lo', hi', hX, hY⟩ := ih (j + 1) (by omega) (upd lo (nI j).toNatClampNeg (-100)) (upd hi (nI j).toNatClampNeg 100)
    exact ⟨lo', hi', fun post hp => br_f h (And.intro hin (nm_e (And.intro hin (nm_e (nm_r (nI_1 j) (hX post hp)))))), fun post hp => br_f h (And.intro hin (nm_e (And.intro hin (nm_e (nm_r (nI_1 j) (hY post hp))))))⟩
theorem i_vc0 : wpX_init (fun u => wpY_init (fun v => i_Rel 0 u v)) := by
  obtain ⟨lo', hi', hX, hY⟩ := rg_init 4 0 rfl (fun _ => 0) (fun _ => 0)
  exact ⟨5, hX _ ⟨5, hY _ ⟨rfl, 0, by omega, rfl, fun i hi => absurd hi (by omega)⟩⟩⟩
/-! range -/
theorem rg_x_range {post : Int32 → SX → Prop} {n e pl w : Int32} {lo hi va ce ki fi se th : Nat → Int32} {a b c : Int32} (f : rg_W 0 3 a ∧ rg_W (-100) 100 b ∧ rg_W (-100) 100 c ∧ b ≤ c → post 0 (n, e, pl, w, upd lo a.toNatClampNeg b, upd hi a.toNatClampNeg c, va, ce, ki, fi, se, th)) (g : ¬ (rg_W 0 3 a ∧ rg_W (-100) 100 b ∧ rg_W (-100) 100 c ∧ b ≤ c) → post (-1) (n, e, pl, w, lo, hi, va, ce, ki, fi, se, th)) : wpX_range post (n, e, pl, w, lo, hi, va, ce, ki, fi, se, th) a b c := by
  unfold wpX_range
  dsimp only
  exact rg_xV (fun h1 => rg_xN (fun h2 => rg_xN (fun h3 => br_c (fun h4 => And.intro (rg_in4 h1) (nm_e (And.intro (rg_in4 h1) (nm_e (f ⟨h1, h2, h3, h4⟩))))) (fun z => g fun y => z y.2.2.2)) (fun z => g fun y => z y.2.2.1)) (fun z => g fun y => z y.2.1)) (fun z => g fun y => z y.1)
theorem rg_y_range {post : Int32 → SY → Prop} {n e pl w : Int32} {lo hi va ce ki fi se th : Nat → Int32} {a b c : Int32} (f : rg_W 0 3 a ∧ rg_W (-100) 100 b ∧ rg_W (-100) 100 c ∧ b ≤ c → post 0 (n, e, pl, w, upd lo a.toNatClampNeg b, upd hi a.toNatClampNeg c, va, ce, ki, fi, se, th)) (g : ¬ (rg_W 0 3 a ∧ rg_W (-100) 100 b ∧ rg_W (-100) 100 c ∧ b ≤ c) → post (-1) (n, e, pl, w, lo, hi, va, ce, ki, fi, se, th)) : wpY_range post (n, e, pl, w, lo, hi, va, ce, ki, fi, se, th) a b c := by
  unfold wpY_range
  dsimp only
  exact rg_yV (fun h1 => rg_yW (fun h2 => rg_yW (fun h3 => br_c (fun h4 => And.intro (rg_in4 h1) (nm_e (And.intro (rg_in4 h1) (nm_e (f ⟨h1, h2, h3, h4⟩))))) (fun z => g fun y => z y.2.2.2)) (fun z => g fun y => z y.2.2.1)) (fun z => g fun y => z y.2.1)) (fun z => g fun y => z y.1)
theorem i_vc_range {k : Nat} {u : SX} {v : SY} (I : i_Rel k u v) (hk : k + 4 ≤ 2048) (v1 : Int32) (v2 : Int32) (v3 : Int32) : wpX_range (fun r u' => wpY_range (fun r' v' => r' = r ∧ i_Rel (k + 4) u' v') v v1 v2 v3) u v1 v2 v3 := by
  obtain ⟨rfl, hI⟩ := I
  refine rg_fin (WX := fun post => wpX_range post u v1 v2 v3) (WY := fun post => wpY_range post u v1 v2 v3) ?_
  obtain ⟨n, e, pl, w, lo, hi, va, ce, ki, fi, se, th⟩ := u
  by_cases h : rg_W 0 3 v1 ∧ rg_W (-100) 100 v2 ∧ rg_W (-100) 100 v3 ∧ v2 ≤ v3
  · exact ⟨0, (n, e, pl, w, upd lo v1.toNatClampNeg v2, upd hi v1.toNatClampNeg v3, va, ce, ki, fi, se, th), hI, fun post hp => rg_x_range (fun _ => hp) (fun z => absurd h z), fun post hp => rg_y_range (fun _ => hp) (fun z => absurd h z)⟩
  · exact ⟨-1, (n, e, pl, w, lo, hi, va, ce, ki, fi, se, th), hI, fun post hp => rg_x_range (fun z => absurd z h) (fun _ => hp), fun post hp => rg_y_range (fun z => absurd z h) (fun _ => hp)⟩
/-! size, clear, ending, place, worked -/
theorem i_vc_size {k : Nat} {u : SX} {v : SY} (I : i_Rel k u v) (hk : k + 4 ≤ 2048) : wpX_size (fun r => wpY_size (fun r' => r' = r ∧ i_Rel (k + 4) u v) v) u := by
  obtain ⟨rfl, hI⟩ := I
  obtain ⟨n, e, pl, w, lo, hi, va, ce, ki, fi, se, th⟩ := u
  exact ⟨rfl, rfl, hI⟩
theorem i_vc_clear {k : Nat} {u : SX} {v : SY} (I : i_Rel k u v) (hk : k + 4 ≤ 2048) : wpX_clear (fun u' => wpY_clear (fun v' => i_Rel (k + 4) u' v') v) u := by
  obtain ⟨rfl, hI⟩ := I
  obtain ⟨n, e, pl, w, lo, hi, va, ce, ki, fi, se, th⟩ := u
  exact ⟨rfl, 0, by omega, rfl, fun i hi => absurd hi (by omega)⟩
theorem i_vc_ending {k : Nat} {u : SX} {v : SY} (I : i_Rel k u v) (hk : k + 4 ≤ 2048) : wpX_ending (fun r => wpY_ending (fun r' => r' = r ∧ i_Rel (k + 4) u v) v) u := by
  obtain ⟨rfl, hI⟩ := I
  obtain ⟨n, e, pl, w, lo, hi, va, ce, ki, fi, se, th⟩ := u
  exact ⟨rfl, rfl, hI⟩
theorem i_vc_place {k : Nat} {u : SX} {v : SY} (I : i_Rel k u v) (hk : k + 4 ≤ 2048) : wpX_place (fun r => wpY_place (fun r' => r' = r ∧ i_Rel (k + 4) u v) v) u := by
  obtain ⟨rfl, hI⟩ := I
  obtain ⟨n, e, pl, w, lo, hi, va, ce, ki, fi, se, th⟩ := u
  exact ⟨rfl, rfl, hI⟩
theorem i_vc_worked {k : Nat} {u : SX} {v : SY} (I : i_Rel k u v) (hk : k + 4 ≤ 2048) : wpX_worked (fun r => wpY_worked (fun r' => r' = r ∧ i_Rel (k + 4) u v) v) u := by
  obtain ⟨rfl, hI⟩ := I
  obtain ⟨n, e, pl, w, lo, hi, va, ce, ki, fi, se, th⟩ := u
  exact ⟨rfl, rfl, hI⟩
/-! setCell, cell, variable -/
theorem i_vc_setCell {k : Nat} {u : SX} {v : SY} (I : i_Rel k u v) (hk : k + 4 ≤ 2048) (v1 : Int32) (v2 : Int32) : wpX_setCell (fun r u' => wpY_setCell (fun r' v' => r' = r ∧ i_Rel (k + 4) u' v') v v1 v2) u v1 v2 := by
  obtain ⟨rfl, hI⟩ := I
  refine rg_fin (WX := fun post => wpX_setCell post u v1 v2) (WY := fun post => wpY_setCell post u v1 v2) ?_
  obtain ⟨n, e, pl, w, lo, hi, va, ce, ki, fi, se, th⟩ := u
  unfold wpX_setCell wpY_setCell
  dsimp only
  by_cases h : rg_W 0 7 v1 ∧ rg_W (-100) 100 v2
  · refine ⟨ce v1.toNatClampNeg, (n, e, pl, w, lo, hi, va, upd ce v1.toNatClampNeg v2, ki, fi, se, th), hI, fun post hp => ?_, fun post hp => ?_⟩
    · exact rg_xC (fun h1 => rg_xN (fun h2 => And.intro (rg_in8 h1) (nm_e (And.intro (rg_in8 h1) (nm_e hp)))) (fun z => absurd h.2 z)) (fun z => absurd h.1 z)
    · exact rg_yW (fun h1 => rg_yW (fun h2 => And.intro (rg_in8 h1) (nm_e (And.intro (rg_in8 h1) (nm_e hp)))) (fun z => absurd h.2 z)) (fun z => absurd h.1 z)
  · refine ⟨-1, (n, e, pl, w, lo, hi, va, ce, ki, fi, se, th), hI, fun post hp => ?_, fun post hp => ?_⟩
    · exact rg_xC (fun h1 => rg_xN (fun h2 => absurd ⟨h1, h2⟩ h) (fun _ => hp)) (fun _ => hp)
    · exact rg_yW (fun h1 => rg_yW (fun h2 => absurd ⟨h1, h2⟩ h) (fun _ => hp)) (fun _ => hp)
theorem i_vc_cell {k : Nat} {u : SX} {v : SY} (I : i_Rel k u v) (hk : k + 4 ≤ 2048) (v1 : Int32) : wpX_cell (fun r => wpY_cell (fun r' => r' = r ∧ i_Rel (k + 4) u v) v v1) u v1 := by
  obtain ⟨rfl, hI⟩ := I
  refine rg_fin0 hI (WX := fun post => wpX_cell post u v1) (WY := fun post => wpY_cell post u v1) ?_
  obtain ⟨n, e, pl, w, lo, hi, va, ce, ki, fi, se, th⟩ := u
  unfold wpX_cell wpY_cell
  dsimp only
  by_cases h : rg_W 0 7 v1
  · exact ⟨ce v1.toNatClampNeg, fun post hp => rg_xC (fun h1 => And.intro (rg_in8 h1) hp) (fun z => absurd h z), fun post hp => rg_yW (fun h1 => And.intro (rg_in8 h1) hp) (fun z => absurd h z)⟩
  · exact ⟨0, fun post hp => rg_xC (fun h1 => absurd h1 h) (fun _ => hp), fun post hp => rg_yW (fun h1 => absurd h1 h) (fun _ => hp)⟩
theorem i_vc_variable {k : Nat} {u : SX} {v : SY} (I : i_Rel k u v) (hk : k + 4 ≤ 2048) (v1 : Int32) : wpX_variable (fun r => wpY_variable (fun r' => r' = r ∧ i_Rel (k + 4) u v) v v1) u v1 := by
  obtain ⟨rfl, hI⟩ := I
  refine rg_fin0 hI (WX := fun post => wpX_variable post u v1) (WY := fun post => wpY_variable post u v1) ?_
  obtain ⟨n, e, pl, w, lo, hi, va, ce, ki, fi, se, th⟩ := u
  unfold wpX_variable wpY_variable
  dsimp only
  by_cases h : rg_W 0 3 v1
  · exact ⟨va v1.toNatClampNeg, fun post hp => rg_xV (fun h1 => And.intro (rg_in4 h1) hp) (fun z => absurd h z), fun post hp => rg_yV (fun h1 => And.intro (rg_in4 h1) hp) (fun z => absurd h z)⟩
  · exact ⟨0, fun post hp => rg_xV (fun h1 => absurd h1 h) (fun _ => hp), fun post hp => rg_yV (fun h1 => absurd h1 h) (fun _ => hp)⟩
/-! digest -/
theorem rg_dig2 (n e pl w : Int32) (lo hi va ce ki fi se th : Nat → Int32) : ∀ d j : Nat, j + d = 8 → ∀ s : Int32, ∃ r : Int32, (∀ post : Int32 → Prop, post r → wX_digest_30 post n e pl w lo hi va ce ki fi se th (d + 1) s (nI j)) ∧ (∀ post : Int32 → Prop, post r → wY_digest_30 post n e pl w lo hi va ce ki fi se th (d + 1) s (nI j)) := by
  intro d
  induction d with
  | zero =>
    intro j hj s
    have h : (8 : Int32) ≤ nI j := nI_le (a := 8) (by omega) (by omega)
    exact ⟨s, fun post hp => br_t h hp, fun post hp => br_t h hp⟩
  | succ d ih =>
    intro j hj s
    have h : ¬ (8 : Int32) ≤ nI j := nI_ge (b := 8) (by omega) (by decide)
    have hin : vp_in (nI j) 8 := vp_in_nI (by omega) (by decide)
    obtain ⟨r, hX, hY⟩ := ih (j + 1) (by omega) (s + ((nI j + 5) * (ce (nI j).toNatClampNeg)))
    exact ⟨r, fun post hp => br_f h (And.intro hin (nm_e (nm_r (nI_1 j) (hX post hp)))), fun post hp => br_f h (And.intro hin (nm_e (nm_r (nI_1 j) (hY post hp))))⟩
theorem rg_dig1 (n e pl w : Int32) (lo hi va ce ki fi se th : Nat → Int32) : ∀ d j : Nat, j + d = 4 → ∀ s : Int32, ∃ r : Int32, (∀ post : Int32 → Prop, post r → wX_digest_4 post n e pl w lo hi va ce ki fi se th (d + 1) s (nI j)) ∧ (∀ post : Int32 → Prop, post r → wY_digest_4 post n e pl w lo hi va ce ki fi se th (d + 1) s (nI j)) := by
  intro d
  induction d with
  | zero =>
    intro j hj s
    have h : (4 : Int32) ≤ nI j := nI_le (a := 4) (by omega) (by omega)
    obtain ⟨r, hX, hY⟩ := rg_dig2 n e pl w lo hi va ce ki fi se th 8 0 rfl s
    exact ⟨r, fun post hp => br_t h ⟨9, hX post hp⟩, fun post hp => br_t h ⟨9, hY post hp⟩⟩
  | succ d ih =>
    intro j hj s
    have h : ¬ (4 : Int32) ≤ nI j := nI_ge (b := 4) (by omega) (by decide)
    have hin : vp_in (nI j) 4 := vp_in_nI (by omega) (by decide)
    obtain ⟨r, hX, hY⟩ := ih (j + 1) (by omega) (s + ((nI j + 1) * (va (nI j).toNatClampNeg)))
    exact ⟨r, fun post hp => br_f h (And.intro hin (nm_e (nm_r (nI_1 j) (hX post hp)))), fun post hp => br_f h (And.intro hin (nm_e (nm_r (nI_1 j) (hY post hp))))⟩
theorem i_vc_digest {k : Nat} {u : SX} {v : SY} (I : i_Rel k u v) (hk : k + 4 ≤ 2048) : wpX_digest (fun r => wpY_digest (fun r' => r' = r ∧ i_Rel (k + 4) u v) v) u := by
  obtain ⟨rfl, hI⟩ := I
  refine rg_fin0 hI (WX := fun post => wpX_digest post u) (WY := fun post => wpY_digest post u) ?_
  obtain ⟨n, e, pl, w, lo, hi, va, ce, ki, fi, se, th⟩ := u
  obtain ⟨r, hX, hY⟩ := rg_dig1 n e pl w lo hi va ce ki fi se th 4 0 rfl 0
  exact ⟨r, fun post hp => ⟨5, hX post hp⟩, fun post hp => ⟨5, hY post hp⟩⟩
