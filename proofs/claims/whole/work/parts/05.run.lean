/-! the variables at the start of a run -/
theorem rg_start (lo hi ce ki fi se th : Nat → Int32) : ∀ d j : Nat, j + d = 4 → ∀ va : Nat → Int32, ∃ va' : Nat → Int32, (∀ (n e pl w : Int32) (post : SX → Prop), post (n, e, pl, w, lo, hi, va', ce, ki, fi, se, th) → wX_startVariables_2 post n e pl w (d + 1) (nI j) lo hi va ce ki fi se th) ∧ (∀ (n e pl w : Int32) (post : Int32 → SY → Prop), (∃ m : Nat, wY_run_73 post m 0 n 0 (-1) 0 lo hi va' ce ki fi se th) → wY_run_2 post n e pl w (d + 1) (nI j) lo hi va ce ki fi se th) := by
  intro d
  induction d with
  | zero =>
    intro j hj va
    have h : (4 : Int32) ≤ nI j := nI_le (a := 4) (by omega) (by omega)
    exact ⟨va, fun n e pl w post hp => br_t h hp, fun n e pl w post hp => br_t h hp⟩
  | succ d ih =>
    intro j hj va
    have h : ¬ (4 : Int32) ≤ nI j := nI_ge (b := 4) (by omega) (by decide)
    have hin : vp_in (nI j) 4 := vp_in_nI (by omega) (by decide)
    by_cases hl : lo (nI j).toNatClampNeg ≤ 0
    · by_cases hh : 0 ≤ hi (nI j).toNatClampNeg
      · obtain ⟨va', hX, hY⟩ := ih (j + 1) (by omega) (upd va (nI j).toNatClampNeg 0)
        exact ⟨va', fun n e pl w post hp => br_f h (And.intro hin (And.intro hin (br_t hl (br_t hh (And.intro hin (nm_e (nm_r (nI_1 j) (hX n e pl w post hp)))))))), fun n e pl w post hp => br_f h (And.intro hin (br_t hl (And.intro hin (br_t hh (And.intro hin (nm_e (nm_r (nI_1 j) (hY n e pl w post hp))))))))⟩
      · obtain ⟨va', hX, hY⟩ := ih (j + 1) (by omega) (upd va (nI j).toNatClampNeg (hi (nI j).toNatClampNeg))
        exact ⟨va', fun n e pl w post hp => br_f h (And.intro hin (And.intro hin (br_t hl (br_f hh (And.intro hin (nm_e (nm_r (nI_1 j) (hX n e pl w post hp)))))))), fun n e pl w post hp => br_f h (And.intro hin (br_t hl (And.intro hin (br_f hh (And.intro hin (And.intro hin (nm_e (nm_r (nI_1 j) (hY n e pl w post hp)))))))))⟩
    · obtain ⟨va', hX, hY⟩ := ih (j + 1) (by omega) (upd va (nI j).toNatClampNeg (lo (nI j).toNatClampNeg))
      exact ⟨va', fun n e pl w post hp => br_f h (And.intro hin (And.intro hin (br_f hl (And.intro hin (nm_e (nm_r (nI_1 j) (hX n e pl w post hp))))))), fun n e pl w post hp => br_f h (And.intro hin (br_f hl (And.intro hin (And.intro hin (nm_e (nm_r (nI_1 j) (hY n e pl w post hp)))))))⟩
/-! the run's loop, in lockstep -/
theorem rg_loop (n : Int32) (lo hi ki fi se th : Nat → Int32) (hP : rg_P n ki fi se th) : ∀ d wk : Nat, wk + d = 120 → ∀ (q : Int32) (va ce : Nat → Int32), ¬ q < 0 → ∃ (r e' p' w' : Int32) (va' ce' : Nat → Int32), (∀ (e pl w : Int32) (post : Int32 → SX → Prop), post r (n, e', p', w', lo, hi, va', ce', ki, fi, se, th) → wX_run_10 post (d + 1 + 1) q (nI wk) 0 n e pl w lo hi va ce ki fi se th) ∧ (∀ post : Int32 → SY → Prop, post r (n, e', p', w', lo, hi, va', ce', ki, fi, se, th) → wY_run_73 post (d + 1 + 1) q n 0 (-1) (nI wk) lo hi va ce ki fi se th) := by
  intro d
  induction d with
  | zero =>
    intro wk hw q va ce hq
    have h : (120 : Int32) ≤ nI wk := nI_le (a := 120) (by omega) (by omega)
    by_cases hn : n ≤ q
    · exact ⟨1, 1, -1, nI wk, va, ce, fun e pl w post hp => br_t h (br_t rfl (br_t hn hp)), fun post hp => br_t hn (br_t rfl (br_t hn hp))⟩
    · exact ⟨4, 4, -1, nI wk, va, ce, fun e pl w post hp => br_t h (br_t rfl (br_f hn hp)), fun post hp => br_f hn (br_t h (br_t rfl (br_f hn hp)))⟩
  | succ d ih =>
    intro wk hw q va ce hq
    have h : ¬ (120 : Int32) ≤ nI wk := nI_ge (b := 120) (by omega) (by decide)
    by_cases hn : n ≤ q
    · exact ⟨1, 1, -1, nI wk, va, ce, fun e pl w post hp => br_f h (br_t hn (br_t rfl (br_t hn hp))), fun post hp => br_t hn (br_t rfl (br_t hn hp))⟩
    · obtain ⟨hin, h1, ok⟩ := rg_at hP hq hn
      obtain ⟨o, nx, va', ce', hnx, hX, hXp, hY⟩ := rg_step n lo hi va ce ki fi se th q hin h1 ok
      by_cases ho : o = 0
      · subst ho
        obtain ⟨r, e', p', w', va2, ce2, hX', hY'⟩ := ih (wk + 1) (by omega) nx va' ce' hnx
        exact ⟨r, e', p', w', va2, ce2, fun e pl w post hp => br_f h (br_f hn (br_t rfl (hX e pl w _ (nm_r (nI_1 wk) (br_t rfl (hXp rfl e pl w _ (hX' e pl w post hp))))))), fun post hp => br_f hn (br_f h (br_t rfl (hY (-1) (nI wk) _ (nm_r (nI_1 wk) (br_t rfl (hY' post hp))))))⟩
      · exact ⟨o, o, q, nI (wk + 1), va', ce', fun e pl w post hp => br_f h (br_f hn (br_t rfl (hX e pl w _ (nm_r (nI_1 wk) (br_f ho (br_c (fun _ => br_f ho hp) (fun _ => br_c (fun _ => br_f ho hp) (fun _ => br_f ho (br_f ho hp))))))))), fun post hp => br_f hn (br_f h (br_t rfl (hY (-1) (nI wk) _ (nm_r (nI_1 wk) (br_f ho (br_c (fun _ => br_f ho hp) (fun _ => br_c (fun _ => br_f ho hp) (fun _ => br_f ho (br_f ho hp)))))))))⟩
theorem i_vc_run {k : Nat} {u : SX} {v : SY} (I : i_Rel k u v) (hk : k + 4 ≤ 2048) : wpX_run (fun r u' => wpY_run (fun r' v' => r' = r ∧ i_Rel (k + 4) u' v') v) u := by
  obtain ⟨rfl, hI⟩ := I
  refine rg_fin (WX := fun post => wpX_run post u) (WY := fun post => wpY_run post u) ?_
  obtain ⟨n, e, pl, w, lo, hi, va, ce, ki, fi, se, th⟩ := u
  obtain ⟨va1, hX1, hY1⟩ := rg_start lo hi ce ki fi se th 4 0 rfl va
  obtain ⟨r, e', p', w', va2, ce2, hX2, hY2⟩ := rg_loop n lo hi ki fi se th hI 120 0 rfl 0 va1 ce (by decide)
  refine ⟨r, (n, e', p', w', lo, hi, va2, ce2, ki, fi, se, th), hI, fun post hp => ?_, fun post hp => ?_⟩
  · unfold wpX_run
    dsimp only
    unfold wpX_startVariables
    exact ⟨5, hX1 n e pl w _ ⟨122, hX2 e pl w post hp⟩⟩
  · unfold wpY_run
    dsimp only
    exact ⟨5, hY1 n e pl w post ⟨122, hY2 post hp⟩⟩
