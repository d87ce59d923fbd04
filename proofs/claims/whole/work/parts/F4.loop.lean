/-! The law: arc, the loop's head. By wip/whole/gen_arc.py. -/
theorem lg_same {x : Int64} : lg_cmp x x = 0 := by
  unfold lg_cmp
  rw [if_neg Int64.lt_irrefl, if_pos rfl]
section LARC
variable {L q : Nat} {xs : Nat → Int32} {Lw : mSt → Prop} {m : mMem} {x5 x6 : Option Value}
/-- behind the call of arc -/
theorem l_arc2 {kv bv : Int32} (hc : lwC 1000 Lw) (hl : lI m L xs) (hn : L ≤ 2048) (hq : 4 * q + 3 < L) (h2 : m.1 2 = some (.inr 8))
    (k : mEv 1000 159 [.ref 2, .int (xs (4 * q + 1)), .int (xs (4 * q + 2)), .int (xs (4 * q + 3))] m (fun r m1 => r = some (.int bv) ∧ m1.1 2 = some (.inr 8) ∧ m1.1 3 = some (.inl (.long, 1)) ∧ iF m1 2 0 = kv ∧ mWT m1 ∧ (kv = 0 → m1.2.2.2.1 3 0 = bv.toInt64) ∧ Lw (1061, Lf (4 * q) (some (.int kv)) (some (.int bv)), [], m1))) : Lw (258, Lf (4 * q) x5 x6, [.int kv], m) := by
  refine l_w hc (dAt DW1 24 rfl) (Or.inl rfl) ⟨rfl, Nat.lt_of_lt_of_le (by decide : 5 < 7) (Nat.le_refl _), (show Lw (260, Lf (4 * q) (some (.int kv)) x6, [], m) from ?_)⟩
  refine l_w hc (dAt DW1 25 rfl) (Or.inl rfl) ⟨rfl, ?_⟩
  refine l_arg hc (dAt DW1 26 rfl) (dAt DW1 27 rfl) (dAt DW1 28 rfl) (dAt DW1 29 rfl) (dAt DW1 30 rfl) (j := 1) rfl hl.1 hn (by omega) ?_
  refine l_arg hc (dAt DW1 31 rfl) (dAt DW1 32 rfl) (dAt DW1 33 rfl) (dAt DW1 34 rfl) (dAt DW1 35 rfl) (j := 2) rfl hl.1 hn (by omega) ?_
  refine l_arg hc (dAt DW1 36 rfl) (dAt DW1 37 rfl) (dAt DW1 38 rfl) (dAt DW1 39 rfl) (dAt DW1 40 rfl) (j := 3) rfl hl.1 hn (by omega) ?_
  rw [hl.2.1]
  refine l_call hc (kind := 0) (cm := 159) (As := [.ref 2, .int (xs (4 * q + 1)), .int (xs (4 * q + 2)), .int (xs (4 * q + 3))]) (rest := []) (dAt DW1 41 rfl) (fun _ => rfl) rfl G159 (by decide) rfl (Nat.le_of_ble_eq_true rfl) (kok0 h2 (by decide) rfl) ?_
  refine k.imp (fun r m1 ⟨e, f2, f3, f0, fw, fv, k2⟩ => ?_)
  subst e
  refine l_w hc (dAt DW1 42 rfl) (Or.inl rfl) ⟨rfl, Nat.lt_of_lt_of_le (by decide : 6 < 7) (Nat.le_refl _), (show Lw (284, Lf (4 * q) (some (.int kv)) (some (.int bv)), [], m1) from ?_)⟩
  refine l_w hc (dAt DW1 43 rfl) (Or.inl rfl) ⟨rfl, ?_⟩
  refine l_call hc (kind := 0) (cm := 148) (As := [.ref 2]) (rest := []) (dAt DW1 44 rfl) (fun _ => rfl) rfl G148 (by decide) rfl (Nat.le_of_ble_eq_true rfl) (kok0 f2 (by decide) rfl) ?_
  refine ev_thrown (by omega) fw ⟨f2, by decide⟩ ?_
  rw [f0]
  refine l_w hc (dAt DW1 45 rfl) (Or.inl rfl) ⟨rfl, ?_⟩
  refine l_w hc (dAt DW1 46 rfl) (Or.inl rfl) ⟨295, rfl, by decide, fun _ => ?_, fun h => absurd rfl h⟩
  refine l_w hc (dAt DW1 49 rfl) (Or.inl rfl) ⟨rfl, ?_⟩
  have fin : Lw (312, Lf (4 * q) (some (.int kv)) (some (.int bv)), [], m1) := l_w hc (dAt DW2 0 rfl) (Or.inl rfl) ⟨1061, rfl, by decide, k2⟩
  refine l_w hc (dAt DW1 50 rfl) (Or.inl rfl) ⟨312, rfl, by decide, fun _ => fin, fun h => ?_⟩
  have k0 : kv = 0 := Classical.not_not.mp h
  refine l_w hc (dAt DW1 51 rfl) (Or.inl rfl) ⟨rfl, ?_⟩
  refine l_w hc (dAt DW1 52 rfl) (Or.inl rfl) ⟨0, rfl, ?_⟩
  refine l_w hc (dAt DW1 53 rfl) (Or.inl rfl) ⟨1, f3, rfl, bv.toInt64, fv k0, ?_⟩
  refine l_w hc (dAt DW1 54 rfl) (Or.inl rfl) ⟨rfl, ?_⟩
  refine l_w hc (dAt DW1 55 rfl) (Or.inl rfl) (show Lw (306, Lf (4 * q) (some (.int kv)) (some (.int bv)), .long bv.toInt64 :: .long bv.toInt64 :: [], m1) from ?_)
  refine l_w hc (dAt DW1 56 rfl) (Or.inl rfl) (show Lw (307, Lf (4 * q) (some (.int kv)) (some (.int bv)), .int (lg_cmp bv.toInt64 bv.toInt64) :: [], m1) from ?_)
  rw [lg_same]
  exact l_w hc (dAt DW1 57 rfl) (Or.inl rfl) ⟨312, rfl, by decide, fun _ => fin, fun h => absurd rfl h⟩
theorem s_3 (hc : lwC 1000 Lw) (hn : L ≤ 2048) (hq : 4 * q + 3 < L) (H : gI L xs q m) (ih : ∀ m2 x5 x6, gI L xs (q + 1) m2 → Lw (23, Lf (4 * q + 4) x5 x6, [], m2)) : Lw (235, Lf (4 * q) x5 x6, [], m) := by
  obtain ⟨n, n2, P, T, tk, pt, fi, V, tx, len, nv, mv, h, hm, e1, e2, e3, e4⟩ := H
  obtain ⟨hT, hl, hc1, hs1, hB, hK⟩ := id h
  obtain ⟨a0, a1, a2, a3, a4, a5, a6, a7⟩ := id hB
  refine l_w hc (dAt DW1 6 rfl) (Or.inl rfl) ⟨rfl, ?_⟩
  refine l_arg hc (dAt DW1 7 rfl) (dAt DW1 8 rfl) (dAt DW1 9 rfl) (dAt DW1 10 rfl) (dAt DW1 11 rfl) (j := 1) rfl hl.1 hn (by omega) ?_
  refine l_arg hc (dAt DW1 12 rfl) (dAt DW1 13 rfl) (dAt DW1 14 rfl) (dAt DW1 15 rfl) (dAt DW1 16 rfl) (j := 2) rfl hl.1 hn (by omega) ?_
  refine l_arg hc (dAt DW1 17 rfl) (dAt DW1 18 rfl) (dAt DW1 19 rfl) (dAt DW1 20 rfl) (dAt DW1 21 rfl) (j := 3) rfl hl.1 hn (by omega) ?_
  rw [hl.2.1]
  refine l_w hc (dAt DW1 22 rfl) (Or.inl rfl) ⟨rfl, ?_⟩
  by_cases hi : pIx T (xs (4 * q + 1)) ∧ pIx P (xs (4 * q + 2))
  · obtain ⟨⟨a, ha, ea⟩, b, hb, eb⟩ := id hi
    obtain ⟨N0, r, m1, ⟨rfl, rfl⟩, hrun⟩ := es_la (d := 999) (z := xs (4 * q + 3)) (by omega) hT a1 ha hb ⟨hl.2.2, by decide⟩
    have tJ : mTo (fun k => k = 3) (fun _ _ => False) m (mSetJ m 3 (vp_updL (m.2.2.2.1 3) 0 (arcV tk pt a b (xs (4 * q + 3))).toInt64)) := (mTo.rf hT).sJ rfl
    have g3 : gFr (fun _ _ => False) (fun a => a = 3) 0 0 m (mSetJ m 3 (vp_updL (m.2.2.2.1 3) 0 (arcV tk pt a b (xs (4 * q + 3))).toInt64)) := tJ.fr (fun _ z => z) (fun _ _ z => z.elim)
    have h1 : gC L xs q (mSetJ m 3 (vp_updL (m.2.2.2.1 3) 0 (arcV tk pt a b (xs (4 * q + 3))).toInt64)) n n2 P T tk pt fi V tx len nv mv := ⟨tJ.wt, hl, hc1, hs1, hB, hK⟩
    have b1 : mI (mSetJ m 3 (vp_updL (m.2.2.2.1 3) 0 (arcV tk pt a b (xs (4 * q + 3))).toInt64)) P T tk pt fi V tx len := hm
    refine hc.2.2.1 N0 _ m _ 1 3 _ _ _ (by rw [ea, eb]; exact hrun N0 N0 (Nat.le_refl _) (Nat.le_refl _)) ?_
    refine l_arc2 (kv := 0) (bv := arcV tk pt a b (xs (4 * q + 3))) hc h1.2.1 hn hq b1.1.1.1 ?_
    refine ev_arcM (by omega) h1.1 b1.1 (fun a' b' ha' hb' ea' eb' => ?_) (fun hno => absurd hi hno)
    have e5 : a = a' := (nIeq (by have := a1.2.2.2.1.2.1; omega) (by have := a1.2.2.2.1.2.1; omega)).mp (ea.symm.trans ea')
    have e6 : b = b' := (nIeq (by have := a1.2.2.2.1.1; omega) (by have := a1.2.2.2.1.1; omega)).mp (eb.symm.trans eb')
    subst e5
    subst e6
    have h2 := h1.th b1
    refine ⟨rfl, b1.1.1.1, hl.2.2, iF_s, h2.1, fun _ => ?_, ?_⟩
    · rw [rJ_F, rdJ_same, upL_s]
    · exact l_next hc (ih _ _ _ (h2.up.fin b1.th e1 e2 e3 e4))
  · obtain ⟨N0, L', hrun⟩ := et_arc (d := 998) (w := xs (4 * q + 3)) (by omega) hT a1 hi
    have h1 : gC L xs (q + 1) (mUp m) n n2 P T tk pt fi V tx len nv mv := ⟨hT, hl, by show m.2.2.2.2.1 + 1 ≤ _; omega, by show m.2.2.2.2.2 + 6 ≤ _; omega, hB, hK⟩
    have b1 : mI (mUp m) P T tk pt fi V tx len := hm
    refine hc.2.2.2 N0 N0 _ L' m 1 3 _ _ _ a1.1 (hrun N0 N0 (Nat.le_refl _) (Nat.le_refl _)) ?_
    refine l_arc2 (kv := 1) (bv := 0) hc h1.2.1 hn hq b1.1.1.1 ?_
    refine ev_arcM (by omega) h1.1 b1.1 (fun a b ha hb ea eb => absurd ⟨⟨a, ha, ea⟩, b, hb, eb⟩ hi) (fun _ => ?_)
    have t2 : mTo (fun _ => False) (fun k f => k = 2 ∧ f = 0) (mUp m) (mSetF (mUp m) 2 0 (.int 1)) := (mTo.rf h1.1).sF b1.1.1 ⟨rfl, rfl⟩ (by decide)
    have h2 := h1.md t2 (fun k z => z.elim) (fun k f z => z.1)
    refine ⟨rfl, b1.1.1.1, hl.2.2, iF_s, h2.1, fun e => absurd e one0, ?_⟩
    exact l_next hc (ih _ _ _ (h2.fin (b1.lc agN.s0) e1 e2 e3 e4))
theorem n4lt {n q : Nat} (hn : n ≤ 2048) (hq : 4 * q ≤ 4096) : nI n - (4 : Int32) < nI (4 * q) ↔ n < 4 * q + 4 := by
  by_cases h : 4 ≤ n
  · rw [l4, pk_sub h, nI_ltI (by omega) (by omega)]
    omega
  · refine ⟨fun _ => by omega, fun _ => ?_⟩
    have h0 : nI n - (4 : Int32) < 0 := by
      rcases (show n = 0 ∨ n = 1 ∨ n = 2 ∨ n = 3 by omega) with rfl | rfl | rfl | rfl <;> decide
    have h1 : ¬ nI (4 * q) < 0 := nI_nlt0 (by omega)
    rw [Int32.lt_iff_toInt_lt] at h0 h1 ⊢
    omega
/-- the loop's head -/
theorem l_head (hc : lwC 1000 Lw) (hl : lI m L xs) (hn : L ≤ 2048) (hq : q ≤ 600) (hend : L < 4 * q + 4 → m.2.2.2.2.1 ≤ 601024 ∧ m.2.2.2.2.2 ≤ 7293034) (hgo : 4 * q + 3 < L → ∀ c, c < 32 → Lw (lwT c, Lf (4 * q) x5 x6, [], m)) : Lw (23, Lf (4 * q) x5 x6, [], m) := by
  refine l_w hc (dAt DW0 13 rfl) (Or.inl rfl) ⟨rfl, ?_⟩
  refine l_w hc (dAt DW0 14 rfl) (Or.inl rfl) ⟨rfl, ?_⟩
  refine l_w hc (dAt DW0 15 rfl) (Or.inl rfl) ⟨.int, L, hl.1, rfl, (show Lw (27, Lf (4 * q) x5 x6, .int (nI L) :: .int (nI (4 * q)) :: [], m) from ?_)⟩
  refine l_w hc (dAt DW0 16 rfl) (Or.inl rfl) ⟨4, rfl, ?_⟩
  refine l_w hc (dAt DW0 17 rfl) (Or.inl rfl) (show Lw (29, Lf (4 * q) x5 x6, .int (nI L - 4) :: .int (nI (4 * q)) :: [], m) from ?_)
  refine l_w hc (dAt DW0 18 rfl) (Or.inl rfl) ⟨1067, rfl, by decide, fun h => ?_, fun h => ?_⟩
  · have h4 := hend ((n4lt hn (by omega)).mp h)
    refine l_w hc (dAt DW10 45 rfl) (Or.inl rfl) ⟨1, rfl, ?_⟩
    exact hc.2.1 1068 _ m (dAt DW10 46 rfl) h4.1 h4.2
  · have h4 : 4 * q + 3 < L := by
      have := mt (n4lt hn (show 4 * q ≤ 4096 by omega)).mpr h
      omega
    refine l_w hc (dAt DW0 19 rfl) (Or.inl rfl) ⟨rfl, ?_⟩
    refine l_w hc (dAt DW0 20 rfl) (Or.inl rfl) ⟨rfl, ?_⟩
    refine l_w hc (dAt DW0 21 rfl) (Or.inl rfl) ⟨.int, L, hl.1, (by simp only [Bool.and_eq_true, Bool.or_eq_true, bne_iff_ne, beq_iff_eq]; exact ⟨⟨rfl, (nIin_iff (by omega)).mpr (by omega)⟩, Or.inr trivial⟩), _, rfl, ?_⟩
    refine l_w hc (dAt DW0 22 rfl) (Or.inl rfl) ⟨31, rfl, ?_⟩
    obtain ⟨v, hv, ev⟩ := wb_of32 (m.2.2.1 0 (nI (4 * q)).toNatClampNeg)
    refine l_w hc (dAt DW0 23 rfl) (Or.inl rfl) (show Lw (39, Lf (4 * q) x5 x6, .int (m.2.2.1 0 (nI (4 * q)).toNatClampNeg &&& 31) :: [], m) from ?_)
    rw [ev, show (31 : Int32) = nI (2 ^ 5 - 1) from rfl, fa_mask]
    obtain ⟨s1, s2⟩ := sw_off (v % 2 ^ 5) (Nat.mod_lt _ (by decide))
    exact l_w hc (dAt DW0 24 rfl) (Or.inr rfl) ⟨lwO (v % 2 ^ 5), s1, s2, hgo h4 (v % 2 ^ 5) (Nat.mod_lt _ (by decide))⟩
theorem l_loop (hc : lwC 1000 Lw) (hn : L ≤ 2048) : ∀ k q m x5 x6, k + q = L / 4 → gI L xs q m → Lw (23, Lf (4 * q) x5 x6, [], m) := by
  intro k
  induction k with
  | zero =>
    intro q m x5 x6 hq H
    obtain ⟨n, n2, P, T, tk, pt, fi, V, tx, len, nv, mv, h, hm, e1, e2, e3, e4⟩ := H
    refine l_head hc h.2.1 hn (by omega) (fun _ => ⟨by have := h.2.2.1; omega, by have := h.2.2.2.1; omega⟩) (fun h4 => by omega)
  | succ k ih =>
    intro q m x5 x6 hq H
    have ih2 : ∀ m2 x5 x6, gI L xs (q + 1) m2 → Lw (23, Lf (4 * q + 4) x5 x6, [], m2) := fun m2 x5 x6 h => ih (q + 1) m2 x5 x6 (by omega) h
    obtain ⟨n, n2, P, T, tk, pt, fi, V, tx, len, nv, mv, h, hm, e1, e2, e3, e4⟩ := id H
    refine l_head hc h.2.1 hn (by omega) (fun _ => ⟨by have := h.2.2.1; omega, by have := h.2.2.2.1; omega⟩) (fun h4 c hc32 => ?_)
    have nop : Lw (1061, Lf (4 * q) x5 x6, [], m) := l_next hc (ih2 _ _ _ (h.up.fin hm e1 e2 e3 e4))
    rcases (show c = 0 ∨ c = 1 ∨ c = 2 ∨ c = 3 ∨ c = 4 ∨ c = 5 ∨ c = 6 ∨ c = 7 ∨ c = 8 ∨ c = 9 ∨ c = 10 ∨ c = 11 ∨ c = 12 ∨ c = 13 ∨ c = 14 ∨ c = 15 ∨ c = 16 ∨ c = 17 ∨ c = 18 ∨ c = 19 ∨ c = 20 ∨ c = 21 ∨ c = 22 ∨ c = 23 ∨ c = 24 ∨ c = 25 ∨ c = 26 ∨ c = 27 ∨ c = 28 ∨ c = 29 ∨ c = 30 ∨ c = 31 by omega) with rfl | rfl | rfl | rfl | rfl | rfl | rfl | rfl | rfl | rfl | rfl | rfl | rfl | rfl | rfl | rfl | rfl | rfl | rfl | rfl | rfl | rfl | rfl | rfl | rfl | rfl | rfl | rfl | rfl | rfl | rfl | rfl
    · exact s_0 hc hn h4 H ih2
    · exact s_1 hc hn h4 H ih2
    · exact s_2 hc hn h4 H ih2
    · exact s_3 hc hn h4 H ih2
    · exact s_4 hc hn h4 H ih2
    · exact s_5 hc hn h4 H ih2
    · exact s_6 hc hn h4 H ih2
    · exact s_7 hc hn h4 H ih2
    · exact s_8 hc hn h4 H ih2
    · exact s_9 hc hn h4 H ih2
    · exact s_10 hc hn h4 H ih2
    · exact s_11 hc hn h4 H ih2
    · exact s_12 hc hn h4 H ih2
    · exact s_13 hc hn h4 H ih2
    · exact s_14 hc hn h4 H ih2
    · exact s_15 hc hn h4 H ih2
    · exact s_16 hc hn h4 H ih2
    · exact s_17 hc hn h4 H ih2
    · exact s_18 hc hn h4 H ih2
    · exact s_19 hc hn h4 H ih2
    · exact s_20 hc hn h4 H ih2
    · exact s_21 hc hn h4 H ih2
    · exact s_22 hc hn h4 H ih2
    · exact s_23 hc hn h4 H ih2
    · exact s_24 hc hn h4 H ih2
    · exact s_25 hc hn h4 H ih2
    · exact s_26 hc hn h4 H ih2
    · exact s_27 hc hn h4 H ih2
    · exact s_28 hc hn h4 H ih2
    · exact s_29 hc hn h4 H ih2
    · exact nop
    · exact nop
end LARC
