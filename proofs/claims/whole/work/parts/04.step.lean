/-! one instruction worked off: what both sides do with a number for a variable -/
theorem rg_give (n : Int32) (lo hi va ce ki fi se th : Nat → Int32) (x v : Int32) (hx : vp_in x 4) : ∃ (o : Int32) (va' : Nat → Int32), (∀ (e pl w : Int32) (post : Int32 → SX → Prop), post o (n, e, pl, w, lo, hi, va', ce, ki, fi, se, th) → wpX_give post (n, e, pl, w, lo, hi, va, ce, ki, fi, se, th) x v) ∧ (∀ (pl w : Int32) (post : SY → Prop), post (n, o, pl, w, lo, hi, va', ce, ki, fi, se, th) → wpY_get post (n, 0, pl, w, lo, hi, va, ce, ki, fi, se, th) x v) := by
  by_cases h : rg_W (lo x.toNatClampNeg) (hi x.toNatClampNeg) v
  · exact ⟨0, upd va x.toNatClampNeg v, fun e pl w post hp => And.intro hx (br_f h.1 (And.intro hx (br_t (Int32.not_lt.mp h.2) (And.intro hx (nm_e hp))))), fun pl w post hp => And.intro hx (And.intro hx (rg_yW (fun _ => And.intro hx (nm_e hp)) (fun z => absurd h z)))⟩
  · refine ⟨2, va, fun e pl w post hp => And.intro hx (br_c (fun _ => hp) (fun h1 => And.intro hx (br_c (fun h2 => absurd ⟨h1, fun z => Int32.not_lt.mpr h2 z⟩ h) (fun _ => hp)))), fun pl w post hp => And.intro hx (And.intro hx (rg_yW (fun z => absurd z h) (fun _ => hp)))⟩
/-- the step's promise: outcome o, next place nx, variables va', cells ce' -/
def rg_S (n : Int32) (lo hi va ce ki fi se th : Nat → Int32) (q o nx : Int32) (va' ce' : Nat → Int32) : Prop :=
  ¬ nx < 0 ∧ (∀ (e pl w : Int32) (post : Int32 → SX → Prop), post o (n, e, pl, w, lo, hi, va', ce', ki, fi, se, th) → wpX_work post (n, e, pl, w, lo, hi, va, ce, ki, fi, se, th) q) ∧ (o = 0 → ∀ (e pl w : Int32) (post : Int32 → Prop), post nx → wpX_placeAfter post (n, e, pl, w, lo, hi, va', ce', ki, fi, se, th) q) ∧ (∀ (pl w : Int32) (post : Int32 → SY → Prop), post nx (n, o, pl, w, lo, hi, va', ce', ki, fi, se, th) → wpY_step post (n, 0, pl, w, lo, hi, va, ce, ki, fi, se, th) q)
theorem rg_pa {n e pl w : Int32} {lo hi va ce ki fi se th : Nat → Int32} {q k : Int32} {post : Int32 → Prop} (hq : vp_in q 14) (hk : ki q.toNatClampNeg = k) (h6 : ¬ k = 6) (h7 : ¬ k = 7) (hp : post (q + 1)) : wpX_placeAfter post (n, e, pl, w, lo, hi, va, ce, ki, fi, se, th) q :=
  And.intro hq (nm_r hk (br_f h6 (br_f h7 hp)))
theorem rg_k0 (n : Int32) (lo hi va ce ki fi se th : Nat → Int32) (q : Int32) (hq : vp_in q 14) (h1 : ¬ q + 1 < 0) (hk : ki q.toNatClampNeg = 0) (ha : rg_W 0 3 (fi q.toNatClampNeg)) : ∃ o nx va' ce', rg_S n lo hi va ce ki fi se th q o nx va' ce' := by
  obtain ⟨o, va', hX, hY⟩ := rg_give n lo hi va ce ki fi se th (fi q.toNatClampNeg) (se q.toNatClampNeg) (rg_in4 ha)
  refine ⟨o, q + 1, va', ce, h1, fun e pl w post hp => ?_, fun _ e pl w post hp => rg_pa hq hk (by decide) (by decide) hp, fun pl w post hp => ?_⟩
  · exact And.intro hq (nm_e (And.intro hq (nm_e (And.intro hq (nm_e (And.intro hq (nm_r hk (br_f (by decide) (br_f (by decide) (br_t rfl (hX e pl w _ hp)))))))))))
  · exact And.intro hq (br_f (by rw [hk]; decide) (And.intro hq (nm_e (And.intro hq (nm_e (And.intro hq (br_t hk (hY pl w _ hp))))))))
theorem rg_k1 (n : Int32) (lo hi va ce ki fi se th : Nat → Int32) (q : Int32) (hq : vp_in q 14) (h1 : ¬ q + 1 < 0) (hk : ki q.toNatClampNeg = 1) (ha : rg_W 0 3 (fi q.toNatClampNeg)) (hb : rg_W 0 3 (se q.toNatClampNeg)) : ∃ o nx va' ce', rg_S n lo hi va ce ki fi se th q o nx va' ce' := by
  obtain ⟨o, va', hX, hY⟩ := rg_give n lo hi va ce ki fi se th (fi q.toNatClampNeg) (va (se q.toNatClampNeg).toNatClampNeg + th q.toNatClampNeg) (rg_in4 ha)
  refine ⟨o, q + 1, va', ce, h1, fun e pl w post hp => ?_, fun _ e pl w post hp => rg_pa hq hk (by decide) (by decide) hp, fun pl w post hp => ?_⟩
  · exact And.intro hq (nm_e (And.intro hq (nm_e (And.intro hq (nm_e (And.intro hq (nm_r hk (br_f (by decide) (br_f (by decide) (br_f (by decide) (br_t rfl (And.intro (rg_in4 hb) (hX e pl w _ hp)))))))))))))
  · exact And.intro hq (br_f (by rw [hk]; decide) (And.intro hq (nm_e (And.intro hq (nm_e (And.intro hq (br_f (by rw [hk]; decide) (And.intro hq (br_t hk (And.intro (rg_in4 hb) (And.intro hq (hY pl w _ hp))))))))))))
theorem rg_k2 (n : Int32) (lo hi va ce ki fi se th : Nat → Int32) (q : Int32) (hq : vp_in q 14) (h1 : ¬ q + 1 < 0) (hk : ki q.toNatClampNeg = 2) (ha : rg_W 0 3 (fi q.toNatClampNeg)) (hb : rg_W 0 3 (se q.toNatClampNeg)) (hc : rg_W 0 3 (th q.toNatClampNeg)) : ∃ o nx va' ce', rg_S n lo hi va ce ki fi se th q o nx va' ce' := by
  obtain ⟨o, va', hX, hY⟩ := rg_give n lo hi va ce ki fi se th (fi q.toNatClampNeg) (va (se q.toNatClampNeg).toNatClampNeg + va (th q.toNatClampNeg).toNatClampNeg) (rg_in4 ha)
  refine ⟨o, q + 1, va', ce, h1, fun e pl w post hp => ?_, fun _ e pl w post hp => rg_pa hq hk (by decide) (by decide) hp, fun pl w post hp => ?_⟩
  · exact And.intro hq (nm_e (And.intro hq (nm_e (And.intro hq (nm_e (And.intro hq (nm_r hk (br_f (by decide) (br_f (by decide) (br_f (by decide) (br_f (by decide) (br_t rfl (And.intro (rg_in4 hb) (And.intro (rg_in4 hc) (hX e pl w _ hp)))))))))))))))
  · exact And.intro hq (br_f (by rw [hk]; decide) (And.intro hq (nm_e (And.intro hq (nm_e (And.intro hq (br_f (by rw [hk]; decide) (And.intro hq (br_f (by rw [hk]; decide) (And.intro hq (br_t hk (And.intro (rg_in4 hb) (And.intro hq (And.intro (rg_in4 hc) (hY pl w _ hp)))))))))))))))
theorem rg_k3 (n : Int32) (lo hi va ce ki fi se th : Nat → Int32) (q : Int32) (hq : vp_in q 14) (h1 : ¬ q + 1 < 0) (hk : ki q.toNatClampNeg = 3) (ha : rg_W 0 3 (fi q.toNatClampNeg)) (hb : rg_W 0 3 (se q.toNatClampNeg)) : ∃ o nx va' ce', rg_S n lo hi va ce ki fi se th q o nx va' ce' := by
  obtain ⟨o, va', hX, hY⟩ := rg_give n lo hi va ce ki fi se th (fi q.toNatClampNeg) (va (se q.toNatClampNeg).toNatClampNeg &&& th q.toNatClampNeg) (rg_in4 ha)
  refine ⟨o, q + 1, va', ce, h1, fun e pl w post hp => ?_, fun _ e pl w post hp => rg_pa hq hk (by decide) (by decide) hp, fun pl w post hp => ?_⟩
  · exact And.intro hq (nm_e (And.intro hq (nm_e (And.intro hq (nm_e (And.intro hq (nm_r hk (br_f (by decide) (br_f (by decide) (br_f (by decide) (br_f (by decide) (br_f (by decide) (br_t rfl (And.intro (rg_in4 hb) (hX e pl w _ hp)))))))))))))))
  · exact And.intro hq (br_f (by rw [hk]; decide) (And.intro hq (nm_e (And.intro hq (nm_e (And.intro hq (br_f (by rw [hk]; decide) (And.intro hq (br_f (by rw [hk]; decide) (And.intro hq (br_f (by rw [hk]; decide) (And.intro (rg_in4 hb) (And.intro hq (hY pl w _ hp))))))))))))))
/-! load and store -/
theorem rg_k4 (n : Int32) (lo hi va ce ki fi se th : Nat → Int32) (q : Int32) (hq : vp_in q 14) (h1 : ¬ q + 1 < 0) (hk : ki q.toNatClampNeg = 4) (ha : rg_W 0 3 (fi q.toNatClampNeg)) (hb : rg_W 0 3 (se q.toNatClampNeg)) : ∃ o nx va' ce', rg_S n lo hi va ce ki fi se th q o nx va' ce' := by
  by_cases h : rg_W 0 7 (va (se q.toNatClampNeg).toNatClampNeg + th q.toNatClampNeg)
  · obtain ⟨o, va', hX, hY⟩ := rg_give n lo hi va ce ki fi se th (fi q.toNatClampNeg) (ce (va (se q.toNatClampNeg).toNatClampNeg + th q.toNatClampNeg).toNatClampNeg) (rg_in4 ha)
    refine ⟨o, q + 1, va', ce, h1, fun e pl w post hp => ?_, fun _ e pl w post hp => rg_pa hq hk (by decide) (by decide) hp, fun pl w post hp => ?_⟩
    · exact And.intro hq (nm_e (And.intro hq (nm_e (And.intro hq (nm_e (And.intro hq (nm_r hk (br_f (by decide) (br_f (by decide) (br_f (by decide) (br_f (by decide) (br_f (by decide) (br_f (by decide) (br_t rfl (And.intro (rg_in4 hb) (rg_xC (fun _ => And.intro (rg_in8 h) (hX e pl w _ hp)) (fun z => absurd h z)))))))))))))))))
    · exact And.intro hq (br_t (by rw [hk]; decide) (And.intro hq (br_f (by rw [hk]; decide) (And.intro hq (nm_e (And.intro hq (And.intro (rg_in4 hb) (And.intro hq (nm_e (rg_yW (fun _ => And.intro hq (br_t hk (And.intro (rg_in8 h) (hY pl w _ hp)))) (fun z => absurd h z)))))))))))
  · refine ⟨3, q + 1, va, ce, h1, fun e pl w post hp => ?_, fun z => absurd z (by decide), fun pl w post hp => ?_⟩
    · exact And.intro hq (nm_e (And.intro hq (nm_e (And.intro hq (nm_e (And.intro hq (nm_r hk (br_f (by decide) (br_f (by decide) (br_f (by decide) (br_f (by decide) (br_f (by decide) (br_f (by decide) (br_t rfl (And.intro (rg_in4 hb) (rg_xC (fun z => absurd z h) (fun _ => hp)))))))))))))))))
    · exact And.intro hq (br_t (by rw [hk]; decide) (And.intro hq (br_f (by rw [hk]; decide) (And.intro hq (nm_e (And.intro hq (And.intro (rg_in4 hb) (And.intro hq (nm_e (rg_yW (fun z => absurd z h) (fun _ => hp)))))))))))
theorem rg_k5 (n : Int32) (lo hi va ce ki fi se th : Nat → Int32) (q : Int32) (hq : vp_in q 14) (h1 : ¬ q + 1 < 0) (hk : ki q.toNatClampNeg = 5) (ha : rg_W 0 3 (fi q.toNatClampNeg)) (hb : rg_W 0 3 (se q.toNatClampNeg)) : ∃ o nx va' ce', rg_S n lo hi va ce ki fi se th q o nx va' ce' := by
  by_cases h : rg_W 0 7 (va (se q.toNatClampNeg).toNatClampNeg + th q.toNatClampNeg)
  · refine ⟨0, q + 1, va, upd ce (va (se q.toNatClampNeg).toNatClampNeg + th q.toNatClampNeg).toNatClampNeg (va (fi q.toNatClampNeg).toNatClampNeg), h1, fun e pl w post hp => ?_, fun _ e pl w post hp => rg_pa hq hk (by decide) (by decide) hp, fun pl w post hp => ?_⟩
    · exact And.intro hq (nm_e (And.intro hq (nm_e (And.intro hq (nm_e (And.intro hq (nm_r hk (br_f (by decide) (br_f (by decide) (br_f (by decide) (br_f (by decide) (br_f (by decide) (br_f (by decide) (br_f (by decide) (br_t rfl (And.intro (rg_in4 hb) (rg_xC (fun _ => And.intro (rg_in4 ha) (And.intro (rg_in8 h) (nm_e hp))) (fun z => absurd h z))))))))))))))))))
    · exact And.intro hq (br_t (by rw [hk]; decide) (And.intro hq (br_f (by rw [hk]; decide) (And.intro hq (nm_e (And.intro hq (And.intro (rg_in4 hb) (And.intro hq (nm_e (rg_yW (fun _ => And.intro hq (br_f (by rw [hk]; decide) (And.intro (rg_in4 ha) (And.intro (rg_in8 h) (nm_e hp))))) (fun z => absurd h z)))))))))))
  · refine ⟨3, q + 1, va, ce, h1, fun e pl w post hp => ?_, fun z => absurd z (by decide), fun pl w post hp => ?_⟩
    · exact And.intro hq (nm_e (And.intro hq (nm_e (And.intro hq (nm_e (And.intro hq (nm_r hk (br_f (by decide) (br_f (by decide) (br_f (by decide) (br_f (by decide) (br_f (by decide) (br_f (by decide) (br_f (by decide) (br_t rfl (And.intro (rg_in4 hb) (rg_xC (fun z => absurd z h) (fun _ => hp))))))))))))))))))
    · exact And.intro hq (br_t (by rw [hk]; decide) (And.intro hq (br_f (by rw [hk]; decide) (And.intro hq (nm_e (And.intro hq (And.intro (rg_in4 hb) (And.intro hq (nm_e (rg_yW (fun z => absurd z h) (fun _ => hp)))))))))))
/-! less and jump -/
theorem rg_k6 (n : Int32) (lo hi va ce ki fi se th : Nat → Int32) (q : Int32) (hq : vp_in q 14) (h1 : ¬ q + 1 < 0) (hk : ki q.toNatClampNeg = 6) (ha : rg_W 0 3 (fi q.toNatClampNeg)) (hb : rg_W 0 3 (se q.toNatClampNeg)) (hc : ¬ th q.toNatClampNeg < 0) : ∃ o nx va' ce', rg_S n lo hi va ce ki fi se th q o nx va' ce' := by
  by_cases h : va (se q.toNatClampNeg).toNatClampNeg ≤ va (fi q.toNatClampNeg).toNatClampNeg
  · refine ⟨0, q + 1, va, ce, h1, fun e pl w post hp => ?_, fun _ e pl w post hp => ?_, fun pl w post hp => ?_⟩
    · exact And.intro hq (nm_e (And.intro hq (nm_e (And.intro hq (nm_e (And.intro hq (nm_r hk (br_f (by decide) (br_t (by decide) hp)))))))))
    · exact And.intro hq (nm_r hk (br_t rfl (And.intro hq (And.intro (rg_in4 ha) (And.intro hq (And.intro (rg_in4 hb) (br_t h hp)))))))
    · exact And.intro hq (br_t (by rw [hk]; decide) (And.intro hq (br_t (by rw [hk]; decide) (And.intro hq (br_f (by rw [hk]; decide) (And.intro hq (And.intro (rg_in4 ha) (And.intro hq (And.intro (rg_in4 hb) (br_t h hp))))))))))
  · refine ⟨0, th q.toNatClampNeg, va, ce, hc, fun e pl w post hp => ?_, fun _ e pl w post hp => ?_, fun pl w post hp => ?_⟩
    · exact And.intro hq (nm_e (And.intro hq (nm_e (And.intro hq (nm_e (And.intro hq (nm_r hk (br_f (by decide) (br_t (by decide) hp)))))))))
    · exact And.intro hq (nm_r hk (br_t rfl (And.intro hq (And.intro (rg_in4 ha) (And.intro hq (And.intro (rg_in4 hb) (br_f h (And.intro hq hp))))))))
    · exact And.intro hq (br_t (by rw [hk]; decide) (And.intro hq (br_t (by rw [hk]; decide) (And.intro hq (br_f (by rw [hk]; decide) (And.intro hq (And.intro (rg_in4 ha) (And.intro hq (And.intro (rg_in4 hb) (br_f h (And.intro hq hp)))))))))))
theorem rg_k7 (n : Int32) (lo hi va ce ki fi se th : Nat → Int32) (q : Int32) (hq : vp_in q 14) (hk : ki q.toNatClampNeg = 7) (ha : ¬ fi q.toNatClampNeg < 0) : ∃ o nx va' ce', rg_S n lo hi va ce ki fi se th q o nx va' ce' := by
  refine ⟨0, fi q.toNatClampNeg, va, ce, ha, fun e pl w post hp => ?_, fun _ e pl w post hp => ?_, fun pl w post hp => ?_⟩
  · exact And.intro hq (nm_e (And.intro hq (nm_e (And.intro hq (nm_e (And.intro hq (nm_r hk (br_f (by decide) (br_t (by decide) hp)))))))))
  · exact And.intro hq (nm_r hk (br_f (by decide) (br_t rfl (And.intro hq hp))))
  · exact And.intro hq (br_t (by rw [hk]; decide) (And.intro hq (br_t (by rw [hk]; decide) (And.intro hq (br_t hk (And.intro hq hp))))))
theorem rg_step (n : Int32) (lo hi va ce ki fi se th : Nat → Int32) (q : Int32) (hq : vp_in q 14) (h1 : ¬ q + 1 < 0) (ok : rg_ok (ki q.toNatClampNeg) (fi q.toNatClampNeg) (se q.toNatClampNeg) (th q.toNatClampNeg)) : ∃ o nx va' ce', rg_S n lo hi va ce ki fi se th q o nx va' ce' := by
  rcases ok with ⟨hk, ha⟩ | ⟨hk, ha, hb⟩ | ⟨hk, ha, hb, hc⟩ | ⟨hk, ha, hb⟩ | ⟨hk, ha, hb⟩ | ⟨hk, ha, hb⟩ | ⟨hk, ha, hb, hc⟩ | ⟨hk, ha⟩
  · exact rg_k0 n lo hi va ce ki fi se th q hq h1 hk ha
  · exact rg_k1 n lo hi va ce ki fi se th q hq h1 hk ha hb
  · exact rg_k2 n lo hi va ce ki fi se th q hq h1 hk ha hb hc
  · exact rg_k3 n lo hi va ce ki fi se th q hq h1 hk ha hb
  · exact rg_k4 n lo hi va ce ki fi se th q hq h1 hk ha hb
  · exact rg_k5 n lo hi va ce ki fi se th q hq h1 hk ha hb
  · exact rg_k6 n lo hi va ce ki fi se th q hq h1 hk ha hb hc
  · exact rg_k7 n lo hi va ce ki fi se th q hq hk ha
