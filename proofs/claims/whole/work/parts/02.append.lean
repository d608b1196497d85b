theorem rg_x_constant {post : Int32 → SX → Prop} {u : SX} {a b : Int32} (f : rg_W 0 3 a → rg_W (-100) 100 b → wpX_append post u 0 a b 0) (g : ¬ (rg_W 0 3 a ∧ rg_W (-100) 100 b) → post (-1) u) : wpX_constant post u a b := by
  obtain ⟨n, e, pl, w, lo, hi, va, ce, ki, fi, se, th⟩ := u
  unfold wpX_constant
  dsimp only
  exact rg_xV (fun h1 => rg_xN (fun h2 => f h1 h2) (fun z => g fun y => z y.2)) (fun z => g fun y => z y.1)
theorem rg_y_constant {post : Int32 → SY → Prop} {u : SY} {a b : Int32} (f : rg_W 0 3 a → rg_W (-100) 100 b → wpY_append post u 0 a b 0) (g : ¬ (rg_W 0 3 a ∧ rg_W (-100) 100 b) → post (-1) u) : wpY_constant post u a b := by
  obtain ⟨n, e, pl, w, lo, hi, va, ce, ki, fi, se, th⟩ := u
  unfold wpY_constant
  dsimp only
  exact rg_yV (fun h1 => rg_yW (fun h2 => f h1 h2) (fun z => g fun y => z y.2)) (fun z => g fun y => z y.1)
theorem i_vc_constant {k : Nat} {u : SX} {v : SY} (I : i_Rel k u v) (hk : k + 4 ≤ 2048) (v1 : Int32) (v2 : Int32) : wpX_constant (fun r u' => wpY_constant (fun r' v' => r' = r ∧ i_Rel (k + 4) u' v') v v1 v2) u v1 v2 := by
  obtain ⟨rfl, hI⟩ := I
  refine rg_fin (WX := fun post => wpX_constant post u v1 v2) (WY := fun post => wpY_constant post u v1 v2) ?_
  by_cases h : rg_W 0 3 v1 ∧ rg_W (-100) 100 v2
  · obtain ⟨r, u', h', hX, hY⟩ := rg_app hI (kd := 0) (a := v1) (b := v2) (c := 0) (Or.inl ⟨rfl, h.1⟩)
    exact ⟨r, u', h', fun post hp => rg_x_constant (fun _ _ => hX post hp) (fun z => absurd h z), fun post hp => rg_y_constant (fun _ _ => hY post hp) (fun z => absurd h z)⟩
  · exact ⟨-1, u, hI, fun post hp => rg_x_constant (fun x1 x2 => absurd ⟨x1, x2⟩ h) (fun _ => hp), fun post hp => rg_y_constant (fun x1 x2 => absurd ⟨x1, x2⟩ h) (fun _ => hp)⟩
theorem rg_x_plus {post : Int32 → SX → Prop} {u : SX} {a b c : Int32} (f : rg_W 0 3 a → rg_W 0 3 b → rg_W (-100) 100 c → wpX_append post u 1 a b c) (g : ¬ (rg_W 0 3 a ∧ rg_W 0 3 b ∧ rg_W (-100) 100 c) → post (-1) u) : wpX_plus post u a b c := by
  obtain ⟨n, e, pl, w, lo, hi, va, ce, ki, fi, se, th⟩ := u
  unfold wpX_plus
  dsimp only
  exact rg_xV (fun h1 => rg_xV (fun h2 => rg_xN (fun h3 => f h1 h2 h3) (fun z => g fun y => z y.2.2)) (fun z => g fun y => z y.2.1)) (fun z => g fun y => z y.1)
theorem rg_y_plus {post : Int32 → SY → Prop} {u : SY} {a b c : Int32} (f : rg_W 0 3 a → rg_W 0 3 b → rg_W (-100) 100 c → wpY_append post u 1 a b c) (g : ¬ (rg_W 0 3 a ∧ rg_W 0 3 b ∧ rg_W (-100) 100 c) → post (-1) u) : wpY_plus post u a b c := by
  obtain ⟨n, e, pl, w, lo, hi, va, ce, ki, fi, se, th⟩ := u
  unfold wpY_plus
  dsimp only
  exact rg_yV (fun h1 => rg_yV (fun h2 => rg_yW (fun h3 => f h1 h2 h3) (fun z => g fun y => z y.2.2)) (fun z => g fun y => z y.2.1)) (fun z => g fun y => z y.1)
theorem i_vc_plus {k : Nat} {u : SX} {v : SY} (I : i_Rel k u v) (hk : k + 4 ≤ 2048) (v1 : Int32) (v2 : Int32) (v3 : Int32) : wpX_plus (fun r u' => wpY_plus (fun r' v' => r' = r ∧ i_Rel (k + 4) u' v') v v1 v2 v3) u v1 v2 v3 := by
  obtain ⟨rfl, hI⟩ := I
  refine rg_fin (WX := fun post => wpX_plus post u v1 v2 v3) (WY := fun post => wpY_plus post u v1 v2 v3) ?_
  by_cases h : rg_W 0 3 v1 ∧ rg_W 0 3 v2 ∧ rg_W (-100) 100 v3
  · obtain ⟨r, u', h', hX, hY⟩ := rg_app hI (kd := 1) (a := v1) (b := v2) (c := v3) (Or.inr (Or.inl ⟨rfl, h.1, h.2.1⟩))
    exact ⟨r, u', h', fun post hp => rg_x_plus (fun _ _ _ => hX post hp) (fun z => absurd h z), fun post hp => rg_y_plus (fun _ _ _ => hY post hp) (fun z => absurd h z)⟩
  · exact ⟨-1, u, hI, fun post hp => rg_x_plus (fun x1 x2 x3 => absurd ⟨x1, x2, x3⟩ h) (fun _ => hp), fun post hp => rg_y_plus (fun x1 x2 x3 => absurd ⟨x1, x2, x3⟩ h) (fun _ => hp)⟩
theorem rg_x_sum {post : Int32 → SX → Prop} {u : SX} {a b c : Int32} (f : rg_W 0 3 a → rg_W 0 3 b → rg_W 0 3 c → wpX_append post u 2 a b c) (g : ¬ (rg_W 0 3 a ∧ rg_W 0 3 b ∧ rg_W 0 3 c) → post (-1) u) : wpX_sum post u a b c := by
  obtain ⟨n, e, pl, w, lo, hi, va, ce, ki, fi, se, th⟩ := u
  unfold wpX_sum
  dsimp only
  exact rg_xV (fun h1 => rg_xV (fun h2 => rg_xV (fun h3 => f h1 h2 h3) (fun z => g fun y => z y.2.2)) (fun z => g fun y => z y.2.1)) (fun z => g fun y => z y.1)
theorem rg_y_sum {post : Int32 → SY → Prop} {u : SY} {a b c : Int32} (f : rg_W 0 3 a → rg_W 0 3 b → rg_W 0 3 c → wpY_append post u 2 a b c) (g : ¬ (rg_W 0 3 a ∧ rg_W 0 3 b ∧ rg_W 0 3 c) → post (-1) u) : wpY_sum post u a b c := by
  obtain ⟨n, e, pl, w, lo, hi, va, ce, ki, fi, se, th⟩ := u
  unfold wpY_sum
  dsimp only
  exact rg_yV (fun h1 => rg_yV (fun h2 => rg_yV (fun h3 => f h1 h2 h3) (fun z => g fun y => z y.2.2)) (fun z => g fun y => z y.2.1)) (fun z => g fun y => z y.1)
theorem i_vc_sum {k : Nat} {u : SX} {v : SY} (I : i_Rel k u v) (hk : k + 4 ≤ 2048) (v1 : Int32) (v2 : Int32) (v3 : Int32) : wpX_sum (fun r u' => wpY_sum (fun r' v' => r' = r ∧ i_Rel (k + 4) u' v') v v1 v2 v3) u v1 v2 v3 := by
  obtain ⟨rfl, hI⟩ := I
  refine rg_fin (WX := fun post => wpX_sum post u v1 v2 v3) (WY := fun post => wpY_sum post u v1 v2 v3) ?_
  by_cases h : rg_W 0 3 v1 ∧ rg_W 0 3 v2 ∧ rg_W 0 3 v3
  · obtain ⟨r, u', h', hX, hY⟩ := rg_app hI (kd := 2) (a := v1) (b := v2) (c := v3) (Or.inr (Or.inr (Or.inl ⟨rfl, h.1, h.2.1, h.2.2⟩)))
    exact ⟨r, u', h', fun post hp => rg_x_sum (fun _ _ _ => hX post hp) (fun z => absurd h z), fun post hp => rg_y_sum (fun _ _ _ => hY post hp) (fun z => absurd h z)⟩
  · exact ⟨-1, u, hI, fun post hp => rg_x_sum (fun x1 x2 x3 => absurd ⟨x1, x2, x3⟩ h) (fun _ => hp), fun post hp => rg_y_sum (fun x1 x2 x3 => absurd ⟨x1, x2, x3⟩ h) (fun _ => hp)⟩
theorem rg_x_mask {post : Int32 → SX → Prop} {u : SX} {a b c : Int32} (f : rg_W 0 3 a → rg_W 0 3 b → rg_W 0 63 c → wpX_append post u 3 a b c) (g : ¬ (rg_W 0 3 a ∧ rg_W 0 3 b ∧ rg_W 0 63 c) → post (-1) u) : wpX_mask post u a b c := by
  obtain ⟨n, e, pl, w, lo, hi, va, ce, ki, fi, se, th⟩ := u
  unfold wpX_mask
  dsimp only
  exact rg_xV (fun h1 => rg_xV (fun h2 => rg_xM (fun h3 => f h1 h2 h3) (fun z => g fun y => z y.2.2)) (fun z => g fun y => z y.2.1)) (fun z => g fun y => z y.1)
theorem rg_y_mask {post : Int32 → SY → Prop} {u : SY} {a b c : Int32} (f : rg_W 0 3 a → rg_W 0 3 b → rg_W 0 63 c → wpY_append post u 3 a b c) (g : ¬ (rg_W 0 3 a ∧ rg_W 0 3 b ∧ rg_W 0 63 c) → post (-1) u) : wpY_mask post u a b c := by
  obtain ⟨n, e, pl, w, lo, hi, va, ce, ki, fi, se, th⟩ := u
  unfold wpY_mask
  dsimp only
  exact rg_yV (fun h1 => rg_yV (fun h2 => rg_yW (fun h3 => f h1 h2 h3) (fun z => g fun y => z y.2.2)) (fun z => g fun y => z y.2.1)) (fun z => g fun y => z y.1)
theorem i_vc_mask {k : Nat} {u : SX} {v : SY} (I : i_Rel k u v) (hk : k + 4 ≤ 2048) (v1 : Int32) (v2 : Int32) (v3 : Int32) : wpX_mask (fun r u' => wpY_mask (fun r' v' => r' = r ∧ i_Rel (k + 4) u' v') v v1 v2 v3) u v1 v2 v3 := by
  obtain ⟨rfl, hI⟩ := I
  refine rg_fin (WX := fun post => wpX_mask post u v1 v2 v3) (WY := fun post => wpY_mask post u v1 v2 v3) ?_
  by_cases h : rg_W 0 3 v1 ∧ rg_W 0 3 v2 ∧ rg_W 0 63 v3
  · obtain ⟨r, u', h', hX, hY⟩ := rg_app hI (kd := 3) (a := v1) (b := v2) (c := v3) (Or.inr (Or.inr (Or.inr (Or.inl ⟨rfl, h.1, h.2.1⟩))))
    exact ⟨r, u', h', fun post hp => rg_x_mask (fun _ _ _ => hX post hp) (fun z => absurd h z), fun post hp => rg_y_mask (fun _ _ _ => hY post hp) (fun z => absurd h z)⟩
  · exact ⟨-1, u, hI, fun post hp => rg_x_mask (fun x1 x2 x3 => absurd ⟨x1, x2, x3⟩ h) (fun _ => hp), fun post hp => rg_y_mask (fun x1 x2 x3 => absurd ⟨x1, x2, x3⟩ h) (fun _ => hp)⟩
theorem rg_x_load {post : Int32 → SX → Prop} {u : SX} {a b c : Int32} (f : rg_W 0 3 a → rg_W 0 3 b → rg_W (-8) 8 c → wpX_append post u 4 a b c) (g : ¬ (rg_W 0 3 a ∧ rg_W 0 3 b ∧ rg_W (-8) 8 c) → post (-1) u) : wpX_load post u a b c := by
  obtain ⟨n, e, pl, w, lo, hi, va, ce, ki, fi, se, th⟩ := u
  unfold wpX_load
  dsimp only
  exact rg_xV (fun h1 => rg_xV (fun h2 => rg_xO (fun h3 => f h1 h2 h3) (fun z => g fun y => z y.2.2)) (fun z => g fun y => z y.2.1)) (fun z => g fun y => z y.1)
theorem rg_y_load {post : Int32 → SY → Prop} {u : SY} {a b c : Int32} (f : rg_W 0 3 a → rg_W 0 3 b → rg_W (-8) 8 c → wpY_append post u 4 a b c) (g : ¬ (rg_W 0 3 a ∧ rg_W 0 3 b ∧ rg_W (-8) 8 c) → post (-1) u) : wpY_load post u a b c := by
  obtain ⟨n, e, pl, w, lo, hi, va, ce, ki, fi, se, th⟩ := u
  unfold wpY_load
  dsimp only
  exact rg_yV (fun h1 => rg_yV (fun h2 => rg_yW (fun h3 => f h1 h2 h3) (fun z => g fun y => z y.2.2)) (fun z => g fun y => z y.2.1)) (fun z => g fun y => z y.1)
theorem i_vc_load {k : Nat} {u : SX} {v : SY} (I : i_Rel k u v) (hk : k + 4 ≤ 2048) (v1 : Int32) (v2 : Int32) (v3 : Int32) : wpX_load (fun r u' => wpY_load (fun r' v' => r' = r ∧ i_Rel (k + 4) u' v') v v1 v2 v3) u v1 v2 v3 := by
  obtain ⟨rfl, hI⟩ := I
  refine rg_fin (WX := fun post => wpX_load post u v1 v2 v3) (WY := fun post => wpY_load post u v1 v2 v3) ?_
  by_cases h : rg_W 0 3 v1 ∧ rg_W 0 3 v2 ∧ rg_W (-8) 8 v3
  · obtain ⟨r, u', h', hX, hY⟩ := rg_app hI (kd := 4) (a := v1) (b := v2) (c := v3) (Or.inr (Or.inr (Or.inr (Or.inr (Or.inl ⟨rfl, h.1, h.2.1⟩)))))
    exact ⟨r, u', h', fun post hp => rg_x_load (fun _ _ _ => hX post hp) (fun z => absurd h z), fun post hp => rg_y_load (fun _ _ _ => hY post hp) (fun z => absurd h z)⟩
  · exact ⟨-1, u, hI, fun post hp => rg_x_load (fun x1 x2 x3 => absurd ⟨x1, x2, x3⟩ h) (fun _ => hp), fun post hp => rg_y_load (fun x1 x2 x3 => absurd ⟨x1, x2, x3⟩ h) (fun _ => hp)⟩
theorem rg_x_store {post : Int32 → SX → Prop} {u : SX} {a b c : Int32} (f : rg_W 0 3 a → rg_W 0 3 b → rg_W (-8) 8 c → wpX_append post u 5 a b c) (g : ¬ (rg_W 0 3 a ∧ rg_W 0 3 b ∧ rg_W (-8) 8 c) → post (-1) u) : wpX_store post u a b c := by
  obtain ⟨n, e, pl, w, lo, hi, va, ce, ki, fi, se, th⟩ := u
  unfold wpX_store
  dsimp only
  exact rg_xV (fun h1 => rg_xV (fun h2 => rg_xO (fun h3 => f h1 h2 h3) (fun z => g fun y => z y.2.2)) (fun z => g fun y => z y.2.1)) (fun z => g fun y => z y.1)
theorem rg_y_store {post : Int32 → SY → Prop} {u : SY} {a b c : Int32} (f : rg_W 0 3 a → rg_W 0 3 b → rg_W (-8) 8 c → wpY_append post u 5 a b c) (g : ¬ (rg_W 0 3 a ∧ rg_W 0 3 b ∧ rg_W (-8) 8 c) → post (-1) u) : wpY_store post u a b c := by
  obtain ⟨n, e, pl, w, lo, hi, va, ce, ki, fi, se, th⟩ := u
  unfold wpY_store
  dsimp only
  exact rg_yV (fun h1 => rg_yV (fun h2 => rg_yW (fun h3 => f h1 h2 h3) (fun z => g fun y => z y.2.2)) (fun z => g fun y => z y.2.1)) (fun z => g fun y => z y.1)
theorem i_vc_store {k : Nat} {u : SX} {v : SY} (I : i_Rel k u v) (hk : k + 4 ≤ 2048) (v1 : Int32) (v2 : Int32) (v3 : Int32) : wpX_store (fun r u' => wpY_store (fun r' v' => r' = r ∧ i_Rel (k + 4) u' v') v v1 v2 v3) u v1 v2 v3 := by
  obtain ⟨rfl, hI⟩ := I
  refine rg_fin (WX := fun post => wpX_store post u v1 v2 v3) (WY := fun post => wpY_store post u v1 v2 v3) ?_
  by_cases h : rg_W 0 3 v1 ∧ rg_W 0 3 v2 ∧ rg_W (-8) 8 v3
  · obtain ⟨r, u', h', hX, hY⟩ := rg_app hI (kd := 5) (a := v1) (b := v2) (c := v3) (Or.inr (Or.inr (Or.inr (Or.inr (Or.inr (Or.inl ⟨rfl, h.1, h.2.1⟩))))))
    exact ⟨r, u', h', fun post hp => rg_x_store (fun _ _ _ => hX post hp) (fun z => absurd h z), fun post hp => rg_y_store (fun _ _ _ => hY post hp) (fun z => absurd h z)⟩
  · exact ⟨-1, u, hI, fun post hp => rg_x_store (fun x1 x2 x3 => absurd ⟨x1, x2, x3⟩ h) (fun _ => hp), fun post hp => rg_y_store (fun x1 x2 x3 => absurd ⟨x1, x2, x3⟩ h) (fun _ => hp)⟩
theorem rg_x_less {post : Int32 → SX → Prop} {u : SX} {a b c : Int32} (f : rg_W 0 3 a → rg_W 0 3 b → rg_W 0 14 c → wpX_append post u 6 a b c) (g : ¬ (rg_W 0 3 a ∧ rg_W 0 3 b ∧ rg_W 0 14 c) → post (-1) u) : wpX_less post u a b c := by
  obtain ⟨n, e, pl, w, lo, hi, va, ce, ki, fi, se, th⟩ := u
  unfold wpX_less
  dsimp only
  exact rg_xV (fun h1 => rg_xV (fun h2 => rg_xT (fun h3 => f h1 h2 h3) (fun z => g fun y => z y.2.2)) (fun z => g fun y => z y.2.1)) (fun z => g fun y => z y.1)
theorem rg_y_less {post : Int32 → SY → Prop} {u : SY} {a b c : Int32} (f : rg_W 0 3 a → rg_W 0 3 b → rg_W 0 14 c → wpY_append post u 6 a b c) (g : ¬ (rg_W 0 3 a ∧ rg_W 0 3 b ∧ rg_W 0 14 c) → post (-1) u) : wpY_less post u a b c := by
  obtain ⟨n, e, pl, w, lo, hi, va, ce, ki, fi, se, th⟩ := u
  unfold wpY_less
  dsimp only
  exact rg_yV (fun h1 => rg_yV (fun h2 => rg_yW (fun h3 => f h1 h2 h3) (fun z => g fun y => z y.2.2)) (fun z => g fun y => z y.2.1)) (fun z => g fun y => z y.1)
theorem i_vc_less {k : Nat} {u : SX} {v : SY} (I : i_Rel k u v) (hk : k + 4 ≤ 2048) (v1 : Int32) (v2 : Int32) (v3 : Int32) : wpX_less (fun r u' => wpY_less (fun r' v' => r' = r ∧ i_Rel (k + 4) u' v') v v1 v2 v3) u v1 v2 v3 := by
  obtain ⟨rfl, hI⟩ := I
  refine rg_fin (WX := fun post => wpX_less post u v1 v2 v3) (WY := fun post => wpY_less post u v1 v2 v3) ?_
  by_cases h : rg_W 0 3 v1 ∧ rg_W 0 3 v2 ∧ rg_W 0 14 v3
  · obtain ⟨r, u', h', hX, hY⟩ := rg_app hI (kd := 6) (a := v1) (b := v2) (c := v3) (Or.inr (Or.inr (Or.inr (Or.inr (Or.inr (Or.inr (Or.inl ⟨rfl, h.1, h.2.1, h.2.2.1⟩)))))))
    exact ⟨r, u', h', fun post hp => rg_x_less (fun _ _ _ => hX post hp) (fun z => absurd h z), fun post hp => rg_y_less (fun _ _ _ => hY post hp) (fun z => absurd h z)⟩
  · exact ⟨-1, u, hI, fun post hp => rg_x_less (fun x1 x2 x3 => absurd ⟨x1, x2, x3⟩ h) (fun _ => hp), fun post hp => rg_y_less (fun x1 x2 x3 => absurd ⟨x1, x2, x3⟩ h) (fun _ => hp)⟩
theorem rg_x_jump {post : Int32 → SX → Prop} {u : SX} {a : Int32} (f : rg_W 0 14 a → wpX_append post u 7 a 0 0) (g : ¬ (rg_W 0 14 a) → post (-1) u) : wpX_jump post u a := by
  obtain ⟨n, e, pl, w, lo, hi, va, ce, ki, fi, se, th⟩ := u
  unfold wpX_jump
  dsimp only
  exact rg_xT (fun h1 => f h1) (fun z => g fun y => z y)
theorem rg_y_jump {post : Int32 → SY → Prop} {u : SY} {a : Int32} (f : rg_W 0 14 a → wpY_append post u 7 a 0 0) (g : ¬ (rg_W 0 14 a) → post (-1) u) : wpY_jump post u a := by
  obtain ⟨n, e, pl, w, lo, hi, va, ce, ki, fi, se, th⟩ := u
  unfold wpY_jump
  dsimp only
  exact rg_yW (fun h1 => f h1) (fun z => g fun y => z y)
theorem i_vc_jump {k : Nat} {u : SX} {v : SY} (I : i_Rel k u v) (hk : k + 4 ≤ 2048) (v1 : Int32) : wpX_jump (fun r u' => wpY_jump (fun r' v' => r' = r ∧ i_Rel (k + 4) u' v') v v1) u v1 := by
  obtain ⟨rfl, hI⟩ := I
  refine rg_fin (WX := fun post => wpX_jump post u v1) (WY := fun post => wpY_jump post u v1) ?_
  by_cases h : rg_W 0 14 v1
  · obtain ⟨r, u', h', hX, hY⟩ := rg_app hI (kd := 7) (a := v1) (b := 0) (c := 0) (Or.inr (Or.inr (Or.inr (Or.inr (Or.inr (Or.inr (Or.inr ⟨rfl, h.1⟩)))))))
    exact ⟨r, u', h', fun post hp => rg_x_jump (fun _ => hX post hp) (fun z => absurd h z), fun post hp => rg_y_jump (fun _ => hY post hp) (fun z => absurd h z)⟩
  · exact ⟨-1, u, hI, fun post hp => rg_x_jump (fun x1 => absurd x1 h) (fun _ => hp), fun post hp => rg_y_jump (fun x1 => absurd x1 h) (fun _ => hp)⟩
