/-! The class Reach: the table of slots, adding, spreading. -/
def hM (row : Nat → Nat) : Nat → Int32
  | 0 => 0
  | p + 1 => hM row p * 101 + nI (row p)
def hxI (x : Int32) : Int32 := x ^^^ ((x.toUInt32 >>> ((13 : Int32).toUInt32 &&& Int32.toUInt32 31)).toInt32)
def hx (P : Nat) (row : Nat → Nat) : Nat := (hxI (hM row P)).toBitVec.toNat % 1024
theorem hM_cg {a b : Nat → Nat} : ∀ P, rSame P a b → hM a P = hM b P := by
  intro P
  induction P with
  | zero => intro _; rfl
  | succ P ih =>
    intro h
    show hM a P * 101 + nI (a P) = hM b P * 101 + nI (b P)
    rw [ih (fun p hp => h p (by omega)), h P (Nat.lt_succ_self _)]
theorem hx_cg {P : Nat} {a b : Nat → Nat} (h : rSame P a b) : hx P a = hx P b := by unfold hx; rw [hM_cg P h]
theorem hx_lt {P : Nat} {row : Nat → Nat} : hx P row < 1024 := Nat.mod_lt _ (by decide)
/-- the slots: free, or of a marking; each marking's on its way; none twice -/
def hTab (sl : Nat → Int32) (P N : Nat) (h : Nat → Nat → Nat) : Prop :=
  (∀ s, s < 1024 → sl s = -1 ∨ ∃ k, k < N ∧ sl s = nI k) ∧ (∀ k, k < N → ∃ j, j < 1024 ∧ sl ((hx P (h k) + j) % 1024) = nI k ∧ ∀ l, l < j → ¬ sl ((hx P (h k) + l) % 1024) = -1) ∧ (∀ s s', s < 1024 → s' < 1024 → sl s = sl s' → ¬ sl s = -1 → s = s')
theorem hTab_cg {sl : Nat → Int32} {P N : Nat} {h h' : Nat → Nat → Nat} (H : hTab sl P N h) (e : ∀ k, k < N → h k = h' k) : hTab sl P N h' := by
  obtain ⟨a, b, c⟩ := H
  refine ⟨a, fun k hk => ?_, c⟩
  rw [← e k hk]
  exact b k hk
theorem hTab_add {sl : Nat → Int32} {P N j s : Nat} {h : Nat → Nat → Nat} {row : Nat → Nat} (H : hTab sl P N h) (hN : N < 2 ^ 31) (hs : s = (hx P row + j) % 1024) (hj : j < 1024) (hf : sl s = -1) (hp : ∀ l, l < j → ¬ sl ((hx P row + l) % 1024) = -1) : hTab (upd sl s (nI N)) P (N + 1) (fun k => if k = N then row else h k) := by
  obtain ⟨a, b, c⟩ := H
  have up : ∀ q, ¬ sl q = -1 → ¬ upd sl s (nI N) q = -1 := by
    intro q hq
    by_cases e : q = s
    · rw [e, up_s]; exact neg1_ne hN
    · rw [up_n e]; exact hq
  refine ⟨fun q hq => ?_, fun k hk => ?_, fun q q' h1 h2 h3 h4 => ?_⟩
  · by_cases e : q = s
    · rw [e, up_s]; exact Or.inr ⟨N, Nat.lt_succ_self _, rfl⟩
    · rw [up_n e]
      rcases a q hq with h | ⟨k, h1, h2⟩
      · exact Or.inl h
      · exact Or.inr ⟨k, by omega, h2⟩
  · dsimp only
    by_cases e : k = N
    · subst e
      rw [if_pos rfl]
      exact ⟨j, hj, by rw [← hs, up_s], fun l hl => up _ (hp l hl)⟩
    · rw [if_neg e]
      obtain ⟨j', h1, h2, h3⟩ := b k (by omega)
      refine ⟨j', h1, ?_, fun l hl => up _ (h3 l hl)⟩
      rw [up_n (fun e2 => ?_)]
      · exact h2
      · rw [e2, hf] at h2
        exact neg1_ne (show k < 2 ^ 31 by omega) h2.symm
  · have key : ∀ q, q < 1024 → q ≠ s → ¬ sl q = nI N := by
      intro q hq _ e
      rcases a q hq with h | ⟨k, h1, h2⟩
      · rw [h] at e; exact neg1_ne hN e.symm
      · rw [h2, nIeq (by omega) (by omega)] at e; omega
    by_cases e : q = s
    · by_cases e' : q' = s
      · rw [e, e']
      · rw [e, up_s, up_n e'] at h3
        exact absurd h3.symm (key q' h2 e')
    · by_cases e' : q' = s
      · rw [e', up_s, up_n e] at h3
        exact absurd h3 (key q h1 e)
      · rw [up_n e, up_n e'] at h3
        rw [up_n e] at h4
        exact c q q' h1 h2 h3 h4
/-- markings as they lie in the class -/
def rcR (m : mMem) (c P T : Nat) (tk pt : Nat → Nat → Nat) (S : rcS) : Prop := iF m c 12 = nI P ∧ iF m c 13 = nI T ∧ iF m c 1 = nI S.1 ∧ (∀ k, k < S.1 → ∀ p, p < 10 → m.2.2.1 (64 * c + 2) (k * 10 + p) = nI (S.2.1 k p)) ∧ (∀ k, k < S.1 → m.2.2.1 (64 * c + 3) k = nI (bs (rdyS P tk pt (S.2.1 k)) T)) ∧ (∀ k, k < S.1 → m.2.2.1 (64 * c + 4) k = oI S.2.2.1 k) ∧ (∀ k, k < S.1 → m.2.2.1 (64 * c + 5) k = oI S.2.2.2.1 k) ∧ (∀ k, k < S.1 → m.2.2.1 (64 * c + 1) k = nI (S.2.2.2.2.1 k)) ∧ hTab (m.2.2.1 (64 * c + 8)) P S.1 S.2.1
section CRC
variable {d c n P T N r lr : Nat} {tk pt : Nat → Nat → Nat} {fi mk row : Nat → Nat} {h : Nat → Nat → Nat} {S : rcS} {m : mMem} {Q : Option Value → mMem → Prop}
theorem ev_rSame {k : Nat} (hd : 1 ≤ d) (hT : mWT m) (hO : m.1 c = some (.inr 5) ∧ c ≠ 0) (h12 : iF m c 12 = nI P) (hP : P ≤ 10) (hk : k < 300) (hv : ∀ p, p < 10 → m.2.2.1 (64 * c + 2) (k * 10 + p) = nI (mk p)) (hm : ∀ p, mk p ≤ 99) (hA : m.1 r = some (.inl (.int, lr)) ∧ r ≠ 0) (hl : 10 ≤ lr) (hr : ∀ p, p < 10 → m.2.2.1 r p = nI (row p)) (hrm : ∀ p, row p ≤ 99) (hQ : Q (some (.int (bz (rSame P mk row)))) m) : mEv d 63 [.ref c, .int (nI k), .ref r] m Q := by
  refine mEv.at (by omega) G63 (Nat.le_of_ble_eq_true rfl) ?_
  refine bk63_0 hT hO hA ?_
  refine upto (e := P) (X := fun p => (∀ q, q < p → mk q = row q) → mEs (d - 1) 63 _ g63 (2, [some (.ref c), some (.int (nI k)), some (.ref r), some (.int (nI p))], [], m) Q) ?_ ?_ 0 (Nat.zero_le _) (fun q hq => absurd hq (Nat.not_lt_zero _))
  · intro hq
    refine bk63_2 hT hO hA ?_
    simp (disch := omega) only [forall_eq, l2, l3, l4, l9, l10, l11, l12, l20, l30, l80, l90, l99, l100, l110, l200, l240, l252, l300, l1024, l1M, nI_mul, nIle, nI_ltI, nIeq, nIx10, n10x, nI_add, nI_clamp, nIin_iff, nIinc, nIlt0, nIeq0, nIle0, nIle1, n1lt, n0lt, nIeq1, bz_0, Classical.not_not, h12]
    rw [bz_t (show rSame P mk row from hq)] at hQ
    exact ⟨fun _ => hQ, fun c => absurd (Nat.le_refl _) c⟩
  · intro p hp ih hq
    have a1 := hm p
    have a2 := hrm p
    refine bk63_2 hT hO hA ?_
    simp (disch := omega) only [forall_eq, l2, l3, l4, l9, l10, l11, l12, l20, l30, l80, l90, l99, l100, l110, l200, l240, l252, l300, l1024, l1M, nI_mul, nIle, nI_ltI, nIeq, nIx10, n10x, nI_add, nI_clamp, nIin_iff, nIinc, nIlt0, nIeq0, nIle0, nIle1, n1lt, n0lt, nIeq1, bz_0, Classical.not_not, h12, hv p (by omega), hr p (by omega)]
    refine ⟨fun c => by omega, fun _ => ⟨by omega, by omega, fun c2 => ih ?_, fun c2 => ?_⟩⟩
    · intro q hq'
      by_cases e : q = p
      · rw [e]; exact c2
      · exact hq q (by omega)
    · rw [bz_f (C := rSame P mk row) (fun z => c2 (z p hp))] at hQ; exact hQ
theorem ev_slotOf (hd : 2 ≤ d) (hT : mWT m) (hO : m.1 c = some (.inr 5) ∧ c ≠ 0) (h12 : iF m c 12 = nI P) (hP : P ≤ 10) (hN : N ≤ 300) (hv : ∀ k, k < N → ∀ p, p < 10 → m.2.2.1 (64 * c + 2) (k * 10 + p) = nI (h k p)) (hm : ∀ k p, h k p ≤ 99) (hH : hTab (m.2.2.1 (64 * c + 8)) P N h) (hA : m.1 r = some (.inl (.int, lr)) ∧ r ≠ 0) (hl : 10 ≤ lr) (hr : ∀ p, p < 10 → m.2.2.1 r p = nI (row p)) (hrm : ∀ p, row p ≤ 99)
    (hQ1 : ∀ s j, s < 1024 → j < 1024 → s = (hx P row + j) % 1024 → m.2.2.1 (64 * c + 8) s = -1 → (∀ l, l < j → ¬ m.2.2.1 (64 * c + 8) ((hx P row + l) % 1024) = -1) → (∀ k, k < N → ¬ rSame P (h k) row) → Q (some (.int (nI s))) m)
    (hQ2 : ∀ s k, s < 1024 → k < N → m.2.2.1 (64 * c + 8) s = nI k → rSame P (h k) row → Q (some (.int (nI s))) m) : mEv d 62 [.ref c, .ref r] m Q := by
  obtain ⟨t1, t2, t3⟩ := id hH
  refine mEv.at (by omega) G62 (Nat.le_of_ble_eq_true rfl) ?_
  refine bk62_0 hT hO hA ?_
  refine upto (e := P) (X := fun p => ∀ o4 : Option Value, mEs (d - 1) 62 _ g62 (4, [some (.ref c), some (.ref r), some (.int (hM row p)), some (.int (nI p)), o4], [], m) Q) ?_ ?_ 0 (Nat.zero_le _) _
  · intro o4
    refine bk62_4 hT hO hA ?_
    rw [h12, nIle (by omega) (by omega)]
    refine ⟨fun _ => ?_, fun c => absurd (Nat.le_refl _) c⟩
    rw [show hM row P ^^^ ((hM row P).toUInt32 >>> ((13 : Int32).toUInt32 &&& Int32.toUInt32 31)).toInt32 = hxI (hM row P) from rfl, pk_and (m := 1023) (hxI (hM row P)) 10 (by decide)]
    rintro v1 rfl
    have z := upto (e := 1024) (X := fun j => (∀ l, l < j → ∃ k, k < N ∧ m.2.2.1 (64 * c + 8) ((hx P row + l) % 1024) = nI k ∧ ¬ rSame P (h k) row) → mEs (d - 1) 62 c g62 (41, [some (.ref c), some (.ref r), some (.int (hM row P)), some (.int (nI ((hx P row + j) % 1024))), some (.int (nI j))], [], m) Q) ?_ ?_ 0 (Nat.zero_le _) (fun q hq => absurd hq (Nat.not_lt_zero _))
    · rw [Nat.add_zero, Nat.mod_eq_of_lt hx_lt] at z
      exact z
    · intro hq
      exfalso
      have hf := fb_holes N 1024 (fun l => if q : l < 1024 then (hq l q).choose else 0) (fun i hi => ?_) (fun i j hij hj => ?_)
      · omega
      · rw [dif_pos hi]; exact (hq i hi).choose_spec.1
      · rw [dif_pos (show i < 1024 by omega), dif_pos hj]
        intro e
        have a := (hq i (by omega)).choose_spec
        have b := (hq j hj).choose_spec
        rw [e] at a
        have := t3 _ _ (Nat.mod_lt _ (by decide)) (Nat.mod_lt _ (by decide)) (a.2.1.trans b.2.1.symm) (by rw [a.2.1]; exact neg1_ne (by omega))
        omega
    · intro j hj ih hq
      have hsl : (hx P row + j) % 1024 < 1024 := Nat.mod_lt _ (by decide)
      refine bk62_41 hT hO hA ?_
      rw [nI_clamp (by omega), l1024, nIle (by omega) (by omega), nIin_iff (by omega)]
      refine ⟨fun c => by omega, fun _ => ⟨hsl, fun cf => ?_, fun cf => ⟨hsl, ?_⟩⟩⟩
      · refine hQ1 _ j hsl hj rfl cf (fun l hl => ?_) (fun k hk hs => ?_)
        · obtain ⟨k, h1, h2, h3⟩ := hq l hl
          rw [h2]; exact neg1_ne (by omega)
        · obtain ⟨j', h1, h2, h3⟩ := t2 k hk
          rw [hx_cg hs] at h2 h3
          rcases Nat.lt_trichotomy j' j with g | g | g
          · obtain ⟨k', g1, g2, g3⟩ := hq j' g
            rw [h2, nIeq (by omega) (by omega)] at g2
            subst g2; exact g3 hs
          · subst g; rw [cf] at h2; exact neg1_ne (show k < 2 ^ 31 by omega) h2.symm
          · exact h3 j g cf
      · rcases t1 _ hsl with g | ⟨k, g1, g2⟩
        · exact absurd g cf
        rw [g2]
        refine ev_rSame (mk := h k) (row := row) (by omega) hT hO h12 hP (by omega) (hv k g1) (hm k) hA hl hr hrm ?_
        refine bk62_70 hT hO hA ?_
        rw [bz_0, nIinc, nIinc, pk_andN (show (hx P row + j) % 1024 + 1 < 2 ^ 32 by omega) (m := 1023) 10 (by decide)]
        refine ⟨fun cs => ?_, fun cs => hQ2 _ k hsl g1 g2 (Classical.not_not.mp cs)⟩
        rintro v1 rfl v2 rfl
        rw [show ((hx P row + j) % 1024 + 1) % 2 ^ 10 = (hx P row + (j + 1)) % 1024 by omega]
        refine ih (fun l hl => ?_)
        by_cases e : l = j
        · subst e; exact ⟨k, g1, g2, cs⟩
        · exact hq l (by omega)
  · intro p hp ih o4
    refine bk62_4 hT hO hA ?_
    rw [h12, nIle (by omega) (by omega), nI_clamp (by omega), nIin_iff (by omega), hr p (by omega), nIinc]
    refine ⟨fun c => by omega, fun _ => ⟨by omega, ?_⟩⟩
    rintro v2 rfl v3 rfl
    exact ih _
theorem ev_find (hd : 3 ≤ d) (hT : mWT m) (hO : m.1 c = some (.inr 5) ∧ c ≠ 0) (h12 : iF m c 12 = nI P) (hP : P ≤ 10) (hN : N ≤ 300) (hv : ∀ k, k < N → ∀ p, p < 10 → m.2.2.1 (64 * c + 2) (k * 10 + p) = nI (h k p)) (hm : ∀ k p, h k p ≤ 99) (hH : hTab (m.2.2.1 (64 * c + 8)) P N h) (hA : m.1 r = some (.inl (.int, lr)) ∧ r ≠ 0) (hl : 10 ≤ lr) (hr : ∀ p, p < 10 → m.2.2.1 r p = nI (row p)) (hrm : ∀ p, row p ≤ 99)
    (hQ1 : (∀ k, k < N → ¬ rSame P (h k) row) → Q (some (.int (-1))) m) (hQ2 : ∀ k, k < N → rSame P (h k) row → Q (some (.int (nI k))) m) : mEv d 65 [.ref c, .ref r] m Q := by
  refine mEv.at (by omega) G65 (Nat.le_of_ble_eq_true rfl) ?_
  refine bk65_0 hT hO hA ?_
  refine ev_slotOf (h := h) (N := N) (by omega) hT hO h12 hP hN hv hm hH hA hl hr hrm ?_ ?_
  · intro s j h1 h2 h3 h4 h5 h6
    refine bk65_9 hT hO hA (ly0 := 1024) (hT.arr hO 7 rfl (by decide)) ⟨(nIin_iff (by omega)).mpr h1, ?_⟩
    rw [nI_clamp (by omega), h4]
    exact hQ1 h6
  · intro s k h1 h2 h3 h4
    refine bk65_9 hT hO hA (ly0 := 1024) (hT.arr hO 7 rfl (by decide)) ⟨(nIin_iff (by omega)).mpr h1, ?_⟩
    rw [nI_clamp (by omega), h3]
    exact hQ2 k h2 h4
end CRC
