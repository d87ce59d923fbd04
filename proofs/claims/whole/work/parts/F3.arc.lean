/-! arc: the class, the model. -/
noncomputable def arcV (tk pt : Nat → Nat → Nat) (a b : Nat) (z : Int32) : Int32 := cif (z = 0) (nI (tk a b)) (cif (z = 1) (nI (pt a b)) (-1))
theorem osw {z : Int32} : Op.lookupswitch.offset (#[(0, 25), (1, 40)] : Array (Int × Int)).toList 55 z.toInt = if z = 0 then 25 else if z = 1 then 40 else 55 := by
  show Op.lookupswitch.offset [(0, 25), (1, 40)] 55 z.toInt = _
  by_cases h0 : z = 0
  · subst h0; rfl
  · by_cases h1 : z = 1
    · subst h1; rfl
    · rw [lv_osw (k := 0) (a := 0) h0 rfl, lv_osw (k := 1) (a := 1) h1 rfl, if_neg h0, if_neg h1]
      rfl
section ARC
variable {d x o n P T a b : Nat} {tk pt : Nat → Nat → Nat} {fi : Nat → Nat} {V : aV} {y z w : Int32} {m : mMem} {Q : Option Value → mMem → Prop}
theorem ev_arcC (hd : 3 ≤ d) (hT : mWT m) (hS : cS m x n P T tk pt fi V) (ha : a < T) (hb : b < P) (hQ : Q (some (.int (arcV tk pt a b z))) m) : mEv d 146 [.ref x, .int (nI a), .int (nI b), .int z] m Q := by
  obtain ⟨hO, hnx, hN, hk, -⟩ := id hS
  have h10 := hk.1
  have hT10 := hk.2.1
  unfold arcV at hQ
  refine mEv.at (by omega) G146 (Nat.le_of_ble_eq_true rfl) ?_
  refine e_aload_n (pc' := 1) (dAt D146 0 rfl) rfl rfl ?_
  refine e_getfield (pc' := 4) (dAt D146 1 rfl) rfl rfl hO hnx ?_
  refine e_iload_n (pc' := 5) (dAt D146 2 rfl) rfl rfl ?_
  refine e_call2 (pc' := 8) (As := [.ref n, .int (nI a)]) (rest := []) (ev_hasTr (by omega) hT hN hk _ ?_) (dAt D146 3 rfl) (hi0 rfl) rfl G25 (by decide) rfl (Nat.le_of_ble_eq_true rfl) (kV hN.1 rfl rfl) rfl rfl
  rw [bz_t ⟨a, ha, rfl⟩]
  refine e_if_eq (t := 22) (pc' := 11) (dAt D146 4 rfl) ⟨by decide, by decide⟩ rfl (fun c => absurd c (by decide)) (fun _ => ?_)
  refine e_aload_n (pc' := 12) (dAt D146 5 rfl) rfl rfl ?_
  refine e_getfield (pc' := 15) (dAt D146 6 rfl) rfl rfl hO hnx ?_
  refine e_iload_n (pc' := 16) (dAt D146 7 rfl) rfl rfl ?_
  refine e_call2 (pc' := 19) (As := [.ref n, .int (nI b)]) (rest := []) (ev_hasPl (by omega) hT hN hk _ ?_) (dAt D146 8 rfl) (hi0 rfl) rfl G19 (by decide) rfl (Nat.le_of_ble_eq_true rfl) (kV hN.1 rfl rfl) rfl rfl
  rw [bz_t ⟨b, hb, rfl⟩]
  refine e_if_ne (t := 30) (pc' := 22) (dAt D146 9 rfl) ⟨by decide, by decide⟩ rfl (fun _ => ?_) (fun c => absurd one0 c)
  refine e_iload_n (pc' := 31) (dAt D146 14 rfl) rfl rfl ?_
  have idx : nI a * (10 : Int32) + nI b = nI (a * 10 + b) := by rw [l10, nI_mul, nI_add]
  by_cases z0 : z = 0
  · rw [cif_t z0] at hQ
    refine e_lookupswitch (off := 25) (t := 56) (dAt D146 15 rfl) (by decide) (by rw [osw, if_pos z0]) ⟨by decide, by decide⟩ ?_
    refine e_aload_n (pc' := 57) (dAt D146 16 rfl) rfl rfl ?_
    refine e_getfield (pc' := 60) (dAt D146 17 rfl) rfl rfl hO hnx ?_
    refine e_getfield (pc' := 63) (dAt D146 18 rfl) rfl rfl hN.1 (hT.own hN.1 1 rfl) ?_
    refine e_iload_n (pc' := 64) (dAt D146 19 rfl) rfl rfl ?_
    refine e_bipush (pc' := 66) (v := 10) (dAt D146 20 rfl) rfl (by decide) ?_
    refine e_imul (pc' := 67) (dAt D146 21 rfl) rfl ?_
    refine e_iload_n (pc' := 68) (dAt D146 22 rfl) rfl rfl ?_
    refine e_iadd (pc' := 69) (dAt D146 23 rfl) rfl ?_
    rw [idx]
    refine e_iaload (pc' := 70) (v := nI (tk a b)) (dAt D146 24 rfl) rfl (hT.arr hN.1 1 rfl (by decide)).1 (Or.inl (hT.arr hN.1 1 rfl (by decide)).2) ((nIin_iff (by omega)).mpr (by omega)) ?_ ?_
    · rw [nI_clamp (by omega)]; exact hN.2.2.2.1 a (by omega) b (by omega)
    · exact e_ireturn (dAt D146 25 rfl) rfl ⟨rfl, fun e => by cases e⟩ hQ
  · rw [cif_f z0] at hQ
    by_cases z1 : z = 1
    · rw [cif_t z1] at hQ
      refine e_lookupswitch (off := 40) (t := 71) (dAt D146 15 rfl) (by decide) (by rw [osw, if_neg z0, if_pos z1]) ⟨by decide, by decide⟩ ?_
      refine e_aload_n (pc' := 72) (dAt D146 26 rfl) rfl rfl ?_
      refine e_getfield (pc' := 75) (dAt D146 27 rfl) rfl rfl hO hnx ?_
      refine e_getfield (pc' := 78) (dAt D146 28 rfl) rfl rfl hN.1 (hT.own hN.1 2 rfl) ?_
      refine e_iload_n (pc' := 79) (dAt D146 29 rfl) rfl rfl ?_
      refine e_bipush (pc' := 81) (v := 10) (dAt D146 30 rfl) rfl (by decide) ?_
      refine e_imul (pc' := 82) (dAt D146 31 rfl) rfl ?_
      refine e_iload_n (pc' := 83) (dAt D146 32 rfl) rfl rfl ?_
      refine e_iadd (pc' := 84) (dAt D146 33 rfl) rfl ?_
      rw [idx]
      refine e_iaload (pc' := 85) (v := nI (pt a b)) (dAt D146 34 rfl) rfl (hT.arr hN.1 2 rfl (by decide)).1 (Or.inl (hT.arr hN.1 2 rfl (by decide)).2) ((nIin_iff (by omega)).mpr (by omega)) ?_ ?_
      · rw [nI_clamp (by omega)]; exact hN.2.2.2.2.1 a (by omega) b (by omega)
      · exact e_ireturn (dAt D146 35 rfl) rfl ⟨rfl, fun e => by cases e⟩ hQ
    · rw [cif_f z1] at hQ
      refine e_lookupswitch (off := 55) (t := 86) (dAt D146 15 rfl) (by decide) (by rw [osw, if_neg z0, if_neg z1]) ⟨by decide, by decide⟩ ?_
      refine e_iconst (pc' := 87) (v := -1) (dAt D146 36 rfl) rfl (by decide) ?_
      exact e_ireturn (dAt D146 37 rfl) rfl ⟨rfl, fun e => by cases e⟩ hQ
/-- PlaceNetsLaw.arc where it returns -/
theorem es_la {o3 : Nat} (hd : 4 ≤ d) (hT : mWT m) (hS : cS m x n P T tk pt fi V) (ha : a < T) (hb : b < P) (h3 : m.1 o3 = some (.inl (.long, 1)) ∧ o3 ≠ 0) : mEs d 999 x gLa (0, mEn (laA x o3 (nI a) (nI b) z) 6, [], m) (fun r m' => r = some (.int 0) ∧ m' = mSetJ m o3 (vp_updL (m.2.2.2.1 o3) 0 (arcV tk pt a b z).toInt64)) := by
  refine e_aload (pc' := 2) (dAt DLa 0 rfl) rfl rfl ?_
  refine e_iconst (pc' := 3) (v := 0) (dAt DLa 1 rfl) rfl (by decide) ?_
  refine e_aload_n (pc' := 4) (dAt DLa 2 rfl) rfl rfl ?_
  refine e_iload_n (pc' := 5) (dAt DLa 3 rfl) rfl rfl ?_
  refine e_iload_n (pc' := 6) (dAt DLa 4 rfl) rfl rfl ?_
  refine e_iload_n (pc' := 7) (dAt DLa 5 rfl) rfl rfl ?_
  refine e_call2 (pc' := 10) (As := [.ref x, .int (nI a), .int (nI b), .int z]) (rest := [.int 0, .ref o3]) (ev_arcC (by omega) hT hS ha hb ?_) (dAt DLa 6 rfl) (hi0 rfl) rfl G146 (by decide) rfl (Nat.le_of_ble_eq_true rfl) (kV hS.1 rfl rfl) rfl rfl
  refine e_i2l (pc' := 11) (dAt DLa 7 rfl) rfl ?_
  refine e_lastore (pc' := 12) (dAt DLa 8 rfl) rfl h3.1 h3.2 (by decide) ?_
  refine e_goto (t := 19) (dAt DLa 9 rfl) ⟨by decide, by decide⟩ ?_
  refine e_iconst (pc' := 20) (v := 0) (dAt DLa 13 rfl) rfl (by decide) ?_
  exact e_ireturn (dAt DLa 14 rfl) rfl ⟨rfl, fun e => by cases e⟩ ⟨rfl, rfl⟩
/-- runs up to a place -/
def mEt (d mi b : Nat) (g : mG) (stop : Nat) (m0 : mMem) (st : mSt) : Prop := ∃ (N0 : Nat) (L' : mLo), ∀ N n, N0 ≤ N → N0 ≤ n → mRunT (mCall N d) d mi b g stop n st = some (stop, L', [], m0)
theorem t_end {mi b' stop : Nat} {g : mG} {L : mLo} : mEt d mi b' g stop m (stop, L, [], m) := by
  refine ⟨1, L, fun N n _ hn => ?_⟩
  obtain ⟨k, rfl⟩ : ∃ k, n = k + 1 := ⟨n - 1, by omega⟩
  unfold mRunT
  rw [if_pos rfl]
theorem t_go {mi b' stop pc len N1 : Nat} {g : mG} {L : mLo} {S : List Value} {m0 : mMem} {i : Instr} {st : mSt} (hs : pc ≠ stop) (hd : decode g.2.1 pc = .ok (i, len)) (hl : len = mLen i ∨ mSw i = true) (h : ∀ N, N1 ≤ N → mStep (mCall N d) d mi b' g i pc L S m = some (.inl st)) (k : mEt d mi b' g stop m0 st) : mEt d mi b' g stop m0 (pc, L, S, m) := by
  obtain ⟨N0, L', h2⟩ := k
  refine ⟨N0 + N1 + 1, L', fun N n hN hn => ?_⟩
  obtain ⟨k, rfl⟩ : ∃ k, n = k + 1 := ⟨n - 1, by omega⟩
  rw [mRunT_go hs hd hl (h N (by omega))]
  exact h2 N k (by omega) (by omega)
theorem t_w {mi b' stop pc len : Nat} {g : mG} {L : mLo} {S : List Value} {m0 : mMem} {i : Instr} (hs : pc ≠ stop) (hd : decode g.2.1 pc = .ok (i, len)) (hl : len = mLen i ∨ mSw i = true) (h : mW d mi b' g i pc L S m (mEt d mi b' g stop m0) (fun _ _ => False)) : mEt d mi b' g stop m0 (pc, L, S, m) := by
  obtain ⟨o, h1, h2⟩ := wk_all i d mi b' g pc L S m _ _ h
  cases o with
  | none => exact h2.elim
  | some x =>
    cases x with
    | inl st => exact t_go (N1 := 0) hs hd hl (fun N _ => h1 _) h2
    | inr r => exact h2.elim
theorem t_call {mi b' stop pc cm kind : Nat} {g g1 : mG} {L : mLo} {As rest : List Value} {m0 : mMem} {i : Instr} (hs : pc ≠ stop) (hd : decode g.2.1 pc = .ok (i, 3)) (hi : ∀ cal, mStep cal d mi b' g i pc L (As.reverse ++ rest) m = mInv cal d kind cm pc L (As.reverse ++ rest) m) (hl : mLen i = 3) (hg : mGm[cm]? = some g1) (h0 : cm ≠ 0) (hn : As.length = g1.2.2.2.2.2.1) (hr : (rest.map Value.category).sum ≤ 8) (hk : mKok kind g1 As m = true)
    (k : mEv d cm As m (fun r m' => mEt d mi b' g stop m0 (pc + 3, L, r.toList ++ rest, m'))) : mEt d mi b' g stop m0 (pc, L, As.reverse ++ rest, m) := by
  obtain ⟨N0, r, m', hq, h1⟩ := k
  refine t_go (N1 := N0) (st := (pc + 3, L, r.toList ++ rest, m')) hs hd (Or.inl hl.symm) (fun N hN => ?_) hq
  rw [hi]
  have hlt := (mBn_reg hg).2
  have e1 : (As.reverse ++ rest).take g1.2.2.2.2.2.1 = As.reverse := by rw [← hn, ← List.length_reverse, List.take_left']; rfl
  have e2 : (As.reverse ++ rest).drop g1.2.2.2.2.2.1 = rest := by rw [← hn, ← List.length_reverse, List.drop_left']; rfl
  unfold mInv
  rw [if_neg (by omega), if_neg (by omega), if_neg (by omega), if_neg (by omega), if_neg (by omega), hg]
  dsimp only
  rw [e1, e2, List.reverse_reverse, if_pos ⟨h0, by rw [List.length_append, List.length_reverse]; omega, hr, hk⟩, h1 N hN]
  rfl
/-- PlaceNets.arc where it throws -/
theorem et_arc (hd : 2 ≤ d) (hT : mWT m) (hS : cS m x n P T tk pt fi V) (hno : ¬ (pIx T y ∧ pIx P z)) : mEt d 146 x g146 22 m (0, mEn [.ref x, .int y, .int z, .int w] 4, [], m) := by
  obtain ⟨hO, hnx, hN, hk, -⟩ := id hS
  refine t_w (by decide) (dAt D146 0 rfl) (Or.inl rfl) ⟨rfl, ?_⟩
  refine t_w (by decide) (dAt D146 1 rfl) (Or.inl rfl) ⟨0, 1, 207, rfl, hO, .ref n, hnx, ?_⟩
  refine t_w (by decide) (dAt D146 2 rfl) (Or.inl rfl) ⟨rfl, ?_⟩
  refine t_call (kind := 0) (cm := 25) (As := [.ref n, .int y]) (rest := []) (by decide) (dAt D146 3 rfl) (hi0 rfl) rfl G25 (by decide) rfl (Nat.le_of_ble_eq_true rfl) (kV hN.1 rfl rfl) ?_
  refine ev_hasTr (by omega) hT hN hk _ ?_
  refine t_w (by decide) (dAt D146 4 rfl) (Or.inl rfl) ⟨22, by decide, by decide, fun _ => t_end, fun c => ?_⟩
  have ht : pIx T y := Classical.byContradiction fun h => c (bz_f h)
  refine t_w (by decide) (dAt D146 5 rfl) (Or.inl rfl) ⟨rfl, ?_⟩
  refine t_w (by decide) (dAt D146 6 rfl) (Or.inl rfl) ⟨0, 1, 207, rfl, hO, .ref n, hnx, ?_⟩
  refine t_w (by decide) (dAt D146 7 rfl) (Or.inl rfl) ⟨rfl, ?_⟩
  refine t_call (kind := 0) (cm := 19) (As := [.ref n, .int z]) (rest := []) (by decide) (dAt D146 8 rfl) (hi0 rfl) rfl G19 (by decide) rfl (Nat.le_of_ble_eq_true rfl) (kV hN.1 rfl rfl) ?_
  refine ev_hasPl (by omega) hT hN hk _ ?_
  refine t_w (by decide) (dAt D146 9 rfl) (Or.inl rfl) ⟨30, by decide, by decide, fun c => absurd (bz_f (fun h => hno ⟨ht, h⟩)) c, fun _ => t_end⟩
theorem ev_arcM (hd : 4 ≤ d) (hT : mWT m) (hS : mS m o P T tk pt fi V)
    (hQ1 : ∀ a b, a < T → b < P → y = nI a → z = nI b → Q (some (.int (arcV tk pt a b w))) (mSetF m o 0 (.int 0)))
    (hQ2 : ¬ (pIx T y ∧ pIx P z) → Q (some (.int 0)) (mSetF m o 0 (.int 1))) : mEv d 159 [.ref o, .int y, .int z, .int w] m Q := by
  obtain ⟨S1, T1⟩ := hS.th hT
  have hk := hS.2.2.1
  have h10 := hk.1
  have hT10 := hk.2.1
  refine mEv.at (by omega) G159 (Nat.le_of_ble_eq_true rfl) ?_
  refine bk159_0 hT hS.1 ?_
  refine ev_mTr (by omega) hT hS.1 hS.2.1 hT10 _ ?_
  refine bk159_6 hT hS.1 hS.1 ?_
  rw [bz_0]
  refine ⟨fun c => ?_, fun c => ?_⟩
  · rintro m1 rfl
    rw [iF_s]
    exact ⟨fun e => absurd rfl e, fun _ => hQ2 (fun h => c h.1)⟩
  · refine ev_mPl (by omega) hT hS.1 hS.2.1 h10 _ ?_
    refine bk159_14 hT hS.1 hS.1 ?_
    rw [bz_0]
    refine ⟨fun c2 => ?_, fun c2 => ?_⟩
    · rintro m1 rfl
      rw [iF_s]
      exact ⟨fun e => absurd rfl e, fun _ => hQ2 (fun h => c2 h.2)⟩
    · rintro m1 rfl
      rw [iF_s]
      obtain ⟨a, ha, ea⟩ := Classical.not_not.mp c
      obtain ⟨b, hb, eb⟩ := Classical.not_not.mp c2
      have q := hQ1 a b ha hb ea eb
      unfold arcV at q
      subst ea
      subst eb
      refine ⟨fun _ => ⟨fun w0 => ⟨fun w1 => ?_, fun w1 => ?_⟩, fun w0 => ?_⟩, fun e => absurd (show ¬ (0 : Int32) = 1 by decide) e⟩
      · rw [cif_f w0, cif_f w1] at q; exact q
      · rw [cif_f w0, cif_t (Classical.not_not.mp w1)] at q
        exact ev_ptM (by omega) T1.wt S1.1 S1.2.1 (by omega) (by omega) (bk159_59 T1.wt S1.1 q)
      · rw [cif_t (Classical.not_not.mp w0)] at q
        exact ev_tkM (by omega) T1.wt S1.1 S1.2.1 (by omega) (by omega) (bk159_45 T1.wt S1.1 q)
theorem ev_thrown (hd : 1 ≤ d) (hT : mWT m) (hO : m.1 o = some (.inr 8) ∧ o ≠ 0) (hQ : Q (some (.int (iF m o 0))) m) : mEv d 148 [.ref o] m Q := by
  refine mEv.at (by omega) G148 (Nat.le_of_ble_eq_true rfl) ?_
  exact bk148_0 hT hO hQ
end ARC
