/-! The class Reach: a marking more, spreading. -/
theorem sI1 {m m' : mMem} {a : Nat} {f : Nat → Int32} (e : m' = mSetI m a f) (hT : mWT m) : mTo (fun k => k = a) (fun _ _ => False) m m' ∧ m'.2.2.1 a = f := by
  subst e
  exact ⟨(mTo.rf hT).sI rfl, rdI_same⟩
theorem sF1 {m m' : mMem} {k f ci : Nat} {v : Int32} (e : m' = mSetF m k f (.int v)) (hT : mWT m) (ho : m.1 k = some (.inr ci) ∧ k ≠ 0) (hn : ∀ r ∈ mOwn ci, r.1 ≠ f) : mTo (fun _ => False) (fun k' f' => k' = k ∧ f' = f) m m' ∧ iF m' k f = v := by
  subst e
  exact ⟨(mTo.rf hT).sF ho ⟨rfl, rfl⟩ hn, iF_s⟩
def raA (c k : Nat) : Prop := k = 64 * c + 1 ∨ k = 64 * c + 2 ∨ k = 64 * c + 3 ∨ k = 64 * c + 4 ∨ k = 64 * c + 5 ∨ k = 64 * c + 8
def raF (c k f : Nat) : Prop := k = c ∧ f = 1
section CRC2
variable {d c n P T N r lr : Nat} {tk pt : Nat → Nat → Nat} {fi mk row : Nat → Nat} {h : Nat → Nat → Nat} {S : rcS} {m : mMem} {Q : Option Value → mMem → Prop}
/-- a marking more -/
theorem ev_rAdd {x3 x4 : Int32} {i0 t0 d0 : Nat} (hd : 3 ≤ d) (hT : mWT m) (hO : m.1 c = some (.inr 5) ∧ c ≠ 0) (hNt : cNet m n P T tk pt fi) (hk : okNet P T tk pt fi) (hnc : n ≠ c) (hR : rcR m c P T tk pt S) (hN : S.1 < 300) (hm : ∀ k p, S.2.1 k p ≤ 99) (hA : m.1 r = some (.inl (.int, lr)) ∧ r ≠ 0) (hl : 10 ≤ lr) (hrc : ∀ i, 1 ≤ i → i ≤ 8 → r ≠ 64 * c + i) (hr : ∀ p, p < 10 → m.2.2.1 r p = nI (row p)) (hrm : ∀ p, row p ≤ 99) (hnew : ∀ k, k < S.1 → ¬ rSame P (S.2.1 k) row)
    (h3 : oI (updN S.2.2.1 S.1 i0) S.1 = x3) (h4 : oI (updN S.2.2.2.1 S.1 t0) S.1 = x4) (h5 : (x3 = -1 ∧ d0 = 0) ∨ ∃ i, i < S.1 ∧ x3 = nI i ∧ d0 = S.2.2.2.2.1 i + 1)
    (hQ : ∀ m', mTo (raA c) (raF c) m m' → rcR m' c P T tk pt (S.1 + 1, (fun k => if k = S.1 then row else S.2.1 k), updN S.2.2.1 S.1 i0, updN S.2.2.2.1 S.1 t0, updN S.2.2.2.2.1 S.1 d0, S.2.2.2.2.2) → Q (some (.int (nI S.1))) m') : mEv d 61 [.ref c, .ref n, .ref r, .int x3, .int x4] m Q := by
  obtain ⟨r1, r2, r3, r4, r5, r6, r7, r8, r9⟩ := id hR
  have hP10 := hk.1
  have h5w : Unit → ((x3 = -1 ∧ d0 = 0) ∨ ∃ i, i < S.1 ∧ x3 = nI i ∧ d0 = S.2.2.2.2.1 i + 1) := fun _ => h5
  clear h5
  refine mEv.at (by omega) G61 (Nat.le_of_ble_eq_true rfl) ?_
  refine bk61_0 hT hO hNt.1 hA (by omega) ?_
  simp only [c0c, c10c]
  rw [r3, l300, nI_ltI (by omega) (by omega), nIinc]
  refine ⟨fun _ => ?_, fun c => absurd hN c⟩
  rintro v1 rfl m2 em2
  rw [l10, nI_mul, nI_clamp (by omega)]
  obtain ⟨t2, e1⟩ := sF1 em2 hT hO (by decide)
  rw [t2.i id, t2.i id]
  refine ⟨⟨by decide, nI_nlt0 (by omega), by decide, by omega, by omega⟩, ?_⟩
  intro m4 em4
  obtain ⟨t4', a2⟩ := sI1 em4 t2.wt
  have t4 : mTo (fun k => k = 64 * c + 2) (raF c) m m4 := (t2.mono (fun _ h => h.elim) (fun k f h => h)).tr (t4'.mono (fun _ h => h) (fun _ _ h => h.elim))
  have e1' : iF m4 c 1 = nI (S.1 + 1) := by rw [t4'.nf id]; exact e1
  have e2 : ∀ k, k < S.1 + 1 → ∀ p, p < 10 → m4.2.2.1 (64 * c + 2) (k * 10 + p) = nI ((if k = S.1 then row else S.2.1 k) p) := by
    intro k hk' p hp
    rw [a2]
    by_cases e : k = S.1
    · subst e
      rw [if_pos rfl, cp_in (by omega) (by omega), show 0 + (S.1 * 10 + p - S.1 * 10) = p by omega]
      exact hr p hp
    · rw [if_neg e, cp_out (by omega)]; exact r4 k (by omega) p hp
  clear em2 em4 t4' t2 a2
  have n2 := hrc 2 (by omega) (by omega)
  have n3 := hrc 3 (by omega) (by omega)
  have n8 := hrc 8 (by omega) (by omega)
  have er : ∀ p, p < 10 → m4.2.2.1 r p = nI (row p) := by rw [t4.i n2]; exact hr
  refine ev_slotOf (h := S.2.1) (N := S.1) (row := row) (by omega) t4.wt (t4.ob hO) (by rw [t4.nf (by unfold raF; omega)]; exact r1) hP10 (by omega) (fun k hk' p hp => by rw [e2 k (by omega) p hp, if_neg (by omega)]) hm (by rw [t4.i (by omega)]; exact r9) (t4.ob hA) hl er hrm ?_ (fun s k h1 h2 h3 h4 => absurd h4 (hnew k h2))
  intro s j s1 s2 s3 s4 s5 s6
  refine bk61_58 t4.wt (t4.ob hO) (t4.ob hNt.1) (t4.ob hA) (ly0 := 1024) (t4.wt.arr (t4.ob hO) 7 rfl (by decide)) ⟨(nIin_iff (by omega)).mpr s1, ?_⟩
  intro m5 em5
  rw [nI_clamp (by omega)] at em5
  obtain ⟨t5, a8⟩ := sI1 em5 t4.wt
  have H5 : hTab (m5.2.2.1 (64 * c + 8)) P (S.1 + 1) (fun k => if k = S.1 then row else S.2.1 k) := by
    rw [a8]
    exact hTab_add (by rw [t4.i (by omega)]; exact r9) (by omega) s3 s2 s4 s5
  clear em5 a8
  have gN5 := (hNt.to t4 (by omega) (by omega) (by omega) (by unfold raF; omega) (by unfold raF; omega)).to t5 (by omega) (by omega) (by omega) id id
  refine ev_readyBits (mk := row) (by omega) t5.wt gN5 hk (t5.ob (t4.ob hA)) hl (by rw [t5.i n8]; exact er) hrm ?_
  have T5 : mTo (raA c) (raF c) m m5 := (t4.mono (fun k h => by unfold raA; omega) (fun _ _ h => h)).tr (t5.mono (fun k h => by unfold raA; omega) (fun _ _ h => h.elim))
  refine bk61_72 T5.wt (T5.ob hO) (T5.ob hNt.1) (T5.ob hA) (ly0 := 300) (T5.wt.arr (T5.ob hO) 2 rfl (by decide)) ⟨(nIin_iff (by omega)).mpr hN, ?_⟩
  rw [nI_clamp (by omega)]
  intro m6 em6
  obtain ⟨t6, a3⟩ := sI1 em6 T5.wt
  refine ⟨(nIin_iff (by omega)).mpr hN, fun m7 em7 => ?_⟩
  obtain ⟨t7, a4⟩ := sI1 em7 t6.wt
  refine ⟨(nIin_iff (by omega)).mpr hN, fun m8 em8 => ?_⟩
  obtain ⟨t8, a5⟩ := sI1 em8 t7.wt
  clear em6 em7 em8
  have T8 : mTo (raA c) (raF c) m m8 := ((T5.tr (t6.mono (fun k h => by unfold raA; omega) (fun _ _ h => h.elim))).tr (t7.mono (fun k h => by unfold raA; omega) (fun _ _ h => h.elim))).tr (t8.mono (fun k h => by unfold raA; omega) (fun _ _ h => h.elim))
  have b1 : m8.2.2.1 (64 * c + 1) = m.2.2.1 (64 * c + 1) := by rw [t8.i (by omega), t7.i (by omega), t6.i (by omega), t5.i (by omega), t4.i (by omega)]
  have fin : ∀ m9, m9 = mSetI m8 (64 * c + 1) (upd (m8.2.2.1 (64 * c + 1)) S.1 (nI d0)) → Q (some (.int (nI S.1))) m9 := by
    intro m9 em9
    obtain ⟨t9, a1⟩ := sI1 em9 t8.wt
    refine hQ m9 (T8.tr (t9.mono (fun k h => by unfold raA; omega) (fun _ _ h => h.elim))) ⟨?_, ?_, ?_, ?_, ?_, ?_, ?_, ?_, ?_⟩
    · rw [t9.nf id, t8.nf id, t7.nf id, t6.nf id, t5.nf id, t4.nf (by unfold raF; omega)]; exact r1
    · rw [t9.nf id, t8.nf id, t7.nf id, t6.nf id, t5.nf id, t4.nf (by unfold raF; omega)]; exact r2
    · rw [t9.nf id, t8.nf id, t7.nf id, t6.nf id, t5.nf id]; exact e1'
    · rw [t9.i (by omega), t8.i (by omega), t7.i (by omega), t6.i (by omega), t5.i (by omega)]; exact e2
    · intro k hk'
      have hk2 : k < S.1 + 1 := hk'
      rw [t9.i (by omega), t8.i (by omega), t7.i (by omega), a3]
      show _ = nI (bs (rdyS P tk pt (if k = S.1 then row else S.2.1 k)) T)
      by_cases e : k = S.1
      · subst e; rw [up_s, if_pos rfl]
      · rw [up_n e, if_neg e, t5.i (by omega), t4.i (by omega)]; exact r5 k (by omega)
    · intro k hk'
      have hk2 : k < S.1 + 1 := hk'
      rw [t9.i (by omega), t8.i (by omega), a4]
      show _ = oI (updN S.2.2.1 S.1 i0) k
      by_cases e : k = S.1
      · subst e; rw [up_s, h3]
      · rw [up_n e, oI_up e, t6.i (by omega), t5.i (by omega), t4.i (by omega)]; exact r6 k (by omega)
    · intro k hk'
      have hk2 : k < S.1 + 1 := hk'
      rw [t9.i (by omega), a5]
      show _ = oI (updN S.2.2.2.1 S.1 t0) k
      by_cases e : k = S.1
      · subst e; rw [up_s, h4]
      · rw [up_n e, oI_up e, t7.i (by omega), t6.i (by omega), t5.i (by omega), t4.i (by omega)]; exact r7 k (by omega)
    · intro k hk'
      have hk2 : k < S.1 + 1 := hk'
      rw [a1, b1]
      show _ = nI (updN S.2.2.2.2.1 S.1 d0 k)
      by_cases e : k = S.1
      · subst e; rw [up_s, updN_s]
      · rw [up_n e, updN_n e]; exact r8 k (by omega)
    · rw [t9.i (by omega), t8.i (by omega), t7.i (by omega), t6.i (by omega)]; exact H5
  refine ⟨fun c3 => ?_, fun c3 => ⟨(nIin_iff (by omega)).mpr hN, fun m9 em9 => fin m9 ?_⟩⟩
  · rcases h5w () with ⟨e, _⟩ | ⟨i, g1, g2, g3⟩
    · exact absurd e c3
    · subst g2
      refine ⟨(nIin_iff (by omega)).mpr (by omega), (nIin_iff (by omega)).mpr hN, fun m9 em9 => fin m9 ?_⟩
      rw [em9, nI_clamp (by omega), b1, r8 i g1, nIinc, g3]
  · rcases h5w () with ⟨_, e⟩ | ⟨i, g1, g2, g3⟩
    · rw [em9, e]; rfl
    · exact absurd (Classical.not_not.mp c3) (by rw [g2]; exact neg1_ne (by omega))
end CRC2
