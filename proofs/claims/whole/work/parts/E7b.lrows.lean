/-! The law: rows of its walk. By wip/whole/gen_law.py. -/
abbrev Lf (i : Nat) (x5 x6 : Option Value) : mLo := [some (.ref 0), some (.ref 1), some (.ref 2), some (.ref 3), some (.int (nI i)), x5, x6]
def lwO (c : Nat) : Int := if c < 30 then (([133, 158, 183, 196, 276, 313, 326, 351, 388, 425, 438, 451, 488, 525, 550, 575, 612, 637, 662, 687, 736, 761, 798, 823, 836, 849, 886, 923, 960, 997] : List Int)[c]?).getD 1022 else 1022
def lwT (c : Nat) : Nat := (39 + lwO c).toNat
set_option maxRecDepth 40000 in
theorem sw_off : ∀ c, c < 32 → (if (nI c).toInt < 0 ∨ 29 < (nI c).toInt then some 1022 else (#[133, 158, 183, 196, 276, 313, 326, 351, 388, 425, 438, 451, 488, 525, 550, 575, 612, 637, 662, 687, 736, 761, 798, 823, 836, 849, 886, 923, 960, 997] : Array Int)[((nI c).toInt - 0).toNat]?) = some (lwO c) ∧ 0 ≤ (39 : Int) + lwO c := by decide +kernel
section LROW
variable {d : Nat} {Lw : mSt → Prop} {pc : Nat} {L : mLo} {S : List Value} {m : mMem} {x5 x6 : Option Value}
theorem l_w {i : Instr} {len : Nat} (hc : lwC d Lw) (hd : decode code pc = .ok (i, len)) (hl : len = mLen i ∨ mSw i = true) (h : mW d 0 0 mGl i pc L S m Lw (fun _ _ => False)) : Lw (pc, L, S, m) := by
  obtain ⟨o, h1, h2⟩ := wk_all i d 0 0 mGl pc L S m _ _ h
  cases o with
  | none => exact h2.elim
  | some x =>
    cases x with
    | inl st => exact hc.1 0 i len pc L S m st hd hl (h1 _) h2
    | inr r => exact h2.elim
theorem l_call {i : Instr} {kind cm : Nat} {g1 : mG} {As rest : List Value} (hc : lwC d Lw) (hd : decode code pc = .ok (i, 3)) (hi : ∀ cal, mStep cal d 0 0 mGl i pc L (As.reverse ++ rest) m = mInv cal d kind cm pc L (As.reverse ++ rest) m) (hl : mLen i = 3) (hg : mGm[cm]? = some g1) (h0 : cm ≠ 0) (hn : As.length = g1.2.2.2.2.2.1) (hs : (rest.map Value.category).sum ≤ 8) (hk : mKok kind g1 As m = true)
    (k : mEv d cm As m (fun r m' => Lw (pc + 3, L, r.toList ++ rest, m'))) : Lw (pc, L, As.reverse ++ rest, m) := by
  obtain ⟨N0, r, m', hq, h1⟩ := k
  refine hc.1 N0 i 3 pc L (As.reverse ++ rest) m (pc + 3, L, r.toList ++ rest, m') hd (Or.inl hl.symm) ?_ hq
  rw [hi]
  have hlt := (mBn_reg hg).2
  have e1 : (As.reverse ++ rest).take g1.2.2.2.2.2.1 = As.reverse := by rw [← hn, ← List.length_reverse, List.take_left']; rfl
  have e2 : (As.reverse ++ rest).drop g1.2.2.2.2.2.1 = rest := by rw [← hn, ← List.length_reverse, List.drop_left']; rfl
  unfold mInv
  rw [if_neg (by omega), if_neg (by omega), if_neg (by omega), if_neg (by omega), if_neg (by omega), hg]
  dsimp only
  rw [e1, e2, List.reverse_reverse, if_pos ⟨h0, by rw [List.length_append, List.length_reverse]; omega, hs, hk⟩, h1 N0 (Nat.le_refl _)]
  rfl
theorem kok0 {g : mG} {As : List Value} {k : Nat} (h : m.1 k = some (.inr g.2.2.2.2.2.2.1)) (hk : k ≠ 0) (hg : g.2.2.2.2.2.2.2 = false) : mKok 0 g (.ref k :: As) m = true := by
  show (decide (m.1 k = some (.inr g.2.2.2.2.2.2.1)) && k != 0 && !g.2.2.2.2.2.2.2) = true
  rw [h, hg, decide_eq_true rfl]
  simp [hk]
theorem l_arg {i n j : Nat} {z : Int} (hc : lwC d Lw) (h0 : decode code pc = .ok (.aload_n 0, 1)) (h1 : decode code (pc + 1) = .ok (.iload 4, 2)) (h2 : decode code (pc + 3) = .ok (.iconst z, 1)) (h3 : decode code (pc + 4) = .ok (.iadd, 1)) (h4 : decode code (pc + 5) = .ok (.iaload, 1)) (hz : Int32.ofInt z = nI j) (ha : m.1 0 = some (.inl (.int, n))) (hn : n ≤ 2048) (hi : i + j < n)
    (k : Lw (pc + 6, Lf i x5 x6, .int (m.2.2.1 0 (i + j)) :: S, m)) : Lw (pc, Lf i x5 x6, S, m) := by
  refine l_w hc h0 (Or.inl rfl) ⟨rfl, ?_⟩
  refine l_w hc h1 (Or.inl rfl) ⟨rfl, ?_⟩
  refine l_w hc h2 (Or.inl rfl) ⟨nI j, hz, ?_⟩
  refine l_w hc h3 (Or.inl rfl) (show Lw (pc + 5, Lf i x5 x6, .int (nI i + nI j) :: .ref 0 :: S, m) from ?_)
  rw [nI_add]
  refine l_w hc h4 (Or.inl rfl) ⟨.int, n, ha, ?_, m.2.2.1 0 (i + j), ?_, k⟩
  · simp only [Bool.and_eq_true, Bool.or_eq_true, bne_iff_ne, beq_iff_eq]
    exact ⟨⟨rfl, (nIin_iff (by omega)).mpr hi⟩, Or.inr trivial⟩
  · rw [nI_clamp (by omega)]
theorem l_next {i : Nat} (hc : lwC d Lw) (k : Lw (23, Lf (i + 4) x5 x6, [], m)) : Lw (1061, Lf i x5 x6, [], m) := by
  refine l_w hc (dAt DW10 43 rfl) (Or.inl rfl) ⟨Nat.lt_of_lt_of_le (by decide : 4 < 7) (Nat.le_refl _), nI (i + 4), nI_add i 4, ?_⟩
  exact l_w hc (dAt DW10 44 rfl) (Or.inl rfl) ⟨23, rfl, by decide, k⟩
end LROW
