/-! A run of the mini machine is a walk of the machine; a call is a contract. -/
section MRS
variable {p : Program} {l : Launch} {e : Env} {R : Room} {s : State} {m : MethodId} {args : Array Value} {below : List Frame} {meth : Method} {c : Code} {Q : State → Prop} {c0 s0 : Nat}
variable {D : va_G} {cT : FieldType → ClassId} {A : Nat → Prop} {g : mG} {d mi b : Nat} {m0 : mMem} {φ0 : Nat → Nat} {cal : Nat → List Value → mMem → Option mRs}
theorem mRunS (hcal : mCalOk l D cT d cal) (hmon : ∀ cm as mm r m1, cal cm as mm = some (r, m1) → mm.2.2.2.2.1 ≤ m1.2.2.2.2.1 ∧ mm.2.2.2.2.2 ≤ m1.2.2.2.2.2) (C : mCx p s m args meth c R D cT A g d) (hsc : mi = 0 → mScr s A m0 φ0) (r : Option Value) (mf : mMem) (hRc : mf.2.2.2.2.1 - c0 ≤ R.cells) (hRs : mf.2.2.2.2.2 - s0 ≤ R.slots)
    (kret : ∀ (i : Instr) (pc : Nat) (L : mLo) (S : List Value) (mm : mMem) (φ : Nat → Nat) (H : Heap) (locs : List Loc) (ls : Array Slot), decode g.2.1 pc = .ok (i, mLen i) → mStep cal d mi b g i pc L S mm = some (.inr (r, mf)) → mm = mf → mRl D cT A s.heap m0 φ0 φ mm H locs → mFr φ mm L S ls g.2.2.1 → W p l e R s m args below meth c H locs (mm.2.2.2.2.1 - c0) (mm.2.2.2.2.2 - s0) Q (F0 m pc ls (S.map (mCv φ)))) :
    ∀ (n pc : Nat) (L : mLo) (S : List Value) (mm : mMem) (φ : Nat → Nat) (H : Heap) (locs : List Loc) (ls : Array Slot), mRun cal d mi b g n (pc, L, S, mm) = some (r, mf) → mRl D cT A s.heap m0 φ0 φ mm H locs → mFr φ mm L S ls g.2.2.1 → c0 ≤ mm.2.2.2.2.1 → s0 ≤ mm.2.2.2.2.2 → W p l e R s m args below meth c H locs (mm.2.2.2.2.1 - c0) (mm.2.2.2.2.2 - s0) Q (F0 m pc ls (S.map (mCv φ))) := by
  intro n
  induction n with
  | zero => intro pc L S mm φ H locs ls h; cases h
  | succ n ih =>
    intro pc L S mm φ H locs ls h hR hF hc0 hs0
    unfold mRun at h
    split at h
    · rename_i i len hdg
      split at h
      · rename_i hlen
        split at h
        · rename_i st hst
          obtain ⟨pc', L', S', mm'⟩ := st
          have h1 := mMon_step hmon _ hst
          have h2 := mRun_mono hmon n pc' L' S' mm' r mf h
          dsimp only at h1
          exact so_all i p l e R s m args below meth c H locs Q c0 s0 D cT A g d m0 mm φ0 φ L S ls pc cal mi b pc' L' S' mm' len hcal hst C hsc hdg hlen hR hF hc0 hs0 (by omega) (by omega) (fun φ' H' locs' ls' hR' hF' => ih pc' L' S' mm' φ' H' locs' ls' h hR' hF' (by omega) (by omega))
        · rename_i r' hst
          cases h
          have h1 := mRt_step _ hst
          have h2 : len = mLen i := by
            rcases hlen with h | h
            · exact h
            · exfalso
              unfold mSw at h
              split at h
              · unfold mStep at hst
                dsimp only [mSwt] at hst
                split at hst
                · split at hst
                  · split at hst
                    · cases hst
                    · cases hst
                  · cases hst
                · cases hst
              · unfold mStep at hst
                dsimp only [mSwt] at hst
                split at hst
                · split at hst
                  · split at hst
                    · cases hst
                    · cases hst
                  · cases hst
                · cases hst
              · cases h
          subst h2
          exact kret i pc L S mm φ H locs ls hdg hst h1.symm hR hF
        · cases h
      · cases h
    · cases h
end MRS
-- what answers
def mNR (o : Option (mSt ⊕ mRs)) : Prop := ∀ r : mRs, o ≠ some (.inr r)
theorem mNR_none : mNR none := fun _ h => by cases h
theorem mNR_go {pc : Nat} {L : mLo} {S : List Value} {m : mMem} : mNR (mGo pc L S m) := fun st h => by unfold mGo at h; cases h
theorem mNR_swt {pc : Nat} {off : Option Int} {L : mLo} {S : List Value} {m : mMem} : mNR (mSwt pc off L S m) := by
  unfold mSwt
  repeat' first | exact mNR_none | exact mNR_go | split
theorem mNR_inv {cal : Nat → List Value → mMem → Option mRs} {d kind cm pc : Nat} {L : mLo} {S : List Value} {m : mMem} : mNR (mInv cal d kind cm pc L S m) := by
  unfold mInv mCpy
  repeat' first | exact mNR_none | exact mNR_go | (dsimp only; split) | split
set_option maxHeartbeats 1000000 in
theorem mStep_inr {cal : Nat → List Value → mMem → Option mRs} {d mi b pc : Nat} {g : mG} {i : Instr} {L : mLo} {S : List Value} {m mf : mMem} {r : Option Value} (h : mStep cal d mi b g i pc L S m = some (.inr (r, mf))) :
    (i = .ireturn ∧ ∃ v ty, S = [.int v] ∧ g.2.2.2.1 = some ty ∧ narrow ty (.int v) = .int v ∧ r = some (.int v)) ∨ (i = .lreturn ∧ ∃ v, S = [.long v] ∧ g.2.2.2.1 = some .long ∧ r = some (.long v)) ∨ (i = .areturn ∧ ∃ v C, S = [.ref v] ∧ g.2.2.2.1 = some (.object C) ∧ r = some (.ref v)) ∨ (i = .return_ ∧ S = [] ∧ g.2.2.2.1 = none ∧ r = none) := by
  by_cases hn : mNR (mStep cal d mi b g i pc L S m)
  · exact absurd h (hn _)
  · cases i
    case ireturn =>
      unfold mStep at h
      dsimp only at h
      split at h
      · rename_i v ty he
        split at h
        · rename_i hc
          cases h
          exact Or.inl ⟨rfl, v, ty, rfl, he, hc.1, rfl⟩
        · cases h
      · cases h
    case lreturn =>
      unfold mStep at h
      dsimp only at h
      split at h
      · rename_i v he
        cases h
        exact Or.inr (Or.inl ⟨rfl, v, rfl, he, rfl⟩)
      · cases h
    case areturn =>
      unfold mStep at h
      dsimp only at h
      split at h
      · rename_i v C he
        cases h
        exact Or.inr (Or.inr (Or.inl ⟨rfl, v, C, rfl, he, rfl⟩))
      · cases h
    case return_ =>
      unfold mStep at h
      dsimp only at h
      split at h
      · rename_i he
        cases h
        exact Or.inr (Or.inr (Or.inr ⟨rfl, rfl, he, rfl⟩))
      · cases h
    all_goals first
      | exact absurd mNR_none hn
      | (exfalso; refine hn ?_; unfold mStep; dsimp only [mLoad, mStore]; repeat' first | exact mNR_none | exact mNR_go | exact mNR_swt | exact mNR_inv | split)
-- the entry
theorem mEa_len (φ : Nat → Nat) : ∀ as : List Value, (lg_sl (as.map (mCv φ))).length = (mEa as).length
  | [] => rfl
  | v :: as => by
    have ih := mEa_len φ as
    unfold lg_sl at ih ⊢
    rw [List.map_cons, List.flatMap_cons, List.length_append, ih, mCv_cat]
    show _ = (if v.category = 2 then some v :: none :: mEa as else some v :: mEa as).length
    by_cases h : v.category = 2
    · rw [if_pos h, if_pos h]; simp only [List.length_cons, List.length_nil]; omega
    · rw [if_neg h, if_neg h]; simp only [List.length_cons, List.length_nil]; omega
theorem mEa_at (φ : Nat → Nat) : ∀ (as : List Value) (i j : Nat) (v : Value), mLd (mEa as) j = some v → (i + j, mCv φ v) ∈ lv_args i (as.map (mCv φ))
  | [], i, j, v, h => by unfold mLd mEa at h; simp at h
  | w :: as, i, j, v, h => by
    show _ ∈ (i, mCv φ w) :: lv_args (if (mCv φ w).category = 2 then i + 2 else i + 1) (as.map (mCv φ))
    rw [mCv_cat]
    unfold mEa at h
    by_cases hc : w.category = 2
    · rw [if_pos hc] at h ⊢
      match j, h with
      | 0, h =>
        have e : w = v := Option.some.inj h
        subst e
        exact List.mem_cons_self
      | 1, h => cases h
      | j + 2, h =>
        have h2 : mLd (mEa as) j = some v := h
        have := mEa_at φ as (i + 2) j v h2
        rw [show i + (j + 2) = i + 2 + j by omega]
        exact List.mem_cons_of_mem _ this
    · rw [if_neg hc] at h ⊢
      match j, h with
      | 0, h =>
        have e : w = v := Option.some.inj h
        subst e
        exact List.mem_cons_self
      | j + 1, h =>
        have h2 : mLd (mEa as) j = some v := h
        have := mEa_at φ as (i + 1) j v h2
        rw [show i + (j + 1) = i + 1 + j by omega]
        exact List.mem_cons_of_mem _ this
theorem mEn_ld {as : List Value} {n j : Nat} {v : Value} (h : mLd (mEn as n) j = some v) : mLd (mEa as) j = some v := by
  unfold mLd mEn at h
  unfold mLd
  by_cases hj : j < (mEa as).length
  · rw [List.getElem?_append_left hj] at h
    exact h
  · rw [List.getElem?_append_right (by omega), List.getElem?_replicate] at h
    split at h
    · rename_i w hw
      split at hw <;> cases hw
    · cases h
theorem mEa_mem : ∀ (as : List Value) (j : Nat) (v : Value), mLd (mEa as) j = some v → v ∈ as
  | [], j, v, h => by unfold mLd mEa at h; simp at h
  | w :: as, j, v, h => by
    unfold mEa at h
    by_cases hc : w.category = 2
    · rw [if_pos hc] at h
      match j, h with
      | 0, h => rw [show w = v from Option.some.inj h]; exact List.mem_cons_self
      | 1, h => cases h
      | j + 2, h => exact List.mem_cons_of_mem _ (mEa_mem as j v h)
    · rw [if_neg hc] at h
      match j, h with
      | 0, h => rw [show w = v from Option.some.inj h]; exact List.mem_cons_self
      | j + 1, h => exact List.mem_cons_of_mem _ (mEa_mem as j v h)
theorem mEn_len {as : List Value} {n : Nat} (h : (mEa as).length ≤ n) : (mEn as n).length = n := by
  unfold mEn
  rw [List.length_append, List.length_replicate]
  omega
/-- the frame at a method's entry -/
theorem mFr_entry {φ : Nat → Nat} {mm : mMem} {as : List Value} {n : Nat} (h : (mEa as).length ≤ n) (hok : mOkS mm as) : mFr φ mm (mEn as n) [] ((lg_sl (as.map (mCv φ)) ++ List.replicate (n - (lg_sl (as.map (mCv φ))).length) Slot.unset).toArray) n := by
  have hl := lv_entry (as.map (mCv φ)) (n := n) (by rw [mEa_len]; exact h)
  refine ⟨mEn_len h, ⟨hl.1, hl.2.1, fun q hq => hl.2.2 q ?_⟩, fun i v hv => hok v (mEa_mem as i v (mEn_ld hv)), fun v hv => by cases hv⟩
  obtain ⟨v, h1, h2⟩ := mAl_mem.mp hq
  have h3 := mEa_at φ as 0 q.1 v (mEn_ld h1)
  rw [Nat.zero_add, ← h2] at h3
  exact h3
theorem mCall_mono (N : Nat) : ∀ (d : Nat) cm as mm r m1, mCall N d cm as mm = some (r, m1) → mm.2.2.2.2.1 ≤ m1.2.2.2.2.1 ∧ mm.2.2.2.2.2 ≤ m1.2.2.2.2.2 := by
  intro d
  induction d with
  | zero => intro cm as mm r m1 h; cases h
  | succ d ih =>
    intro cm as mm r m1 h
    unfold mCall at h
    split at h
    · split at h
      · exact mRun_mono ih _ _ _ _ _ _ _ h
      · cases h
    · cases h
set_option maxHeartbeats 1000000 in
/-- EVERY CALL OF THE MINI MACHINE IS A CONTRACT OF THE MACHINE -/
theorem mCallOk (l : Launch) (D : va_G) (cT : FieldType → ClassId) (N : Nat) : ∀ d, mCalOk l D cT d (mCall N d) := by
  intro d
  induction d with
  | zero => intro cm as mm r m1 g h; cases h
  | succ d ih =>
    intro cm as mm r m1 g h hg h0 hok hokS
    have hmono := mCall_mono N (d + 1) cm as mm r m1 h
    refine ⟨Nat.succ_pos d, hmono.1, hmono.2, ?_⟩
    show mMt l D cT d g as mm r m1
    unfold mCall at h
    rw [hg] at h
    dsimp only at h
    split at h
    · rename_i hlen
      obtain ⟨G1, G2, G3, G4, G5, G6, G7⟩ := t_G hg h0
      intro φ sz
      refine Met.ofW (cc := g.2.1) (maxL := g.2.2.1) (ret := g.2.2.2.1) G3 rfl ?_
      intro p e s m args below meth c s₁ B hml hv
      obtain ⟨rfl, hsz, hK, hnw, dom, hn, hd, hP, hD⟩ := hv
      have hts := atoms_spec (ws := mWd g) B.pre
      have hown : s.vm.findClass g.1.cls = some m.cls := findClass_of_methodNamed B.named
      subst hsz
      have hA : ∀ q : Nat, s.heap.size ≤ q → mA φ mm s.heap.size q := fun q h => Or.inr h
      have C : mCx p s m (as.map (mCv φ)).toArray meth c (headSpec (mWd g) (mRm d (m1.2.2.2.2.1 - mm.2.2.2.2.1) (m1.2.2.2.2.2 - mm.2.2.2.2.2))).room D cT (mA φ mm s.heap.size) g d := by
        refine ⟨B.exec, B.bytes, hml, B.returns, B.notSynchronized, by rw [G4]; exact hown, fun w hw => hts w (List.mem_cons_of_mem _ hw), hnw, hK, hA, G5, fun hi => ?_, Nat.le_refl _, Nat.le_refl _⟩
        have hne : g.2.2.2.2.2.2.1 ≠ 99 := fun e => by
          have := (t_Gs hg h0 e).2.2
          rw [hi] at this
          cases this
        obtain ⟨I1, -, ⟨q1, I4, I5⟩, I6, -⟩ := t_Gi hg h0 hne
        refine ⟨?_, q1, I4, by rw [G4]; exact I5⟩
        rw [← (I6 hi).1]
        exact (name_of_methodNamed B.named B.method).1
      have hR : mRl D cT (mA φ mm s.heap.size) s.heap mm φ φ mm s.heap [] := by
        refine ⟨hok, mExt.rf, dom, hn, hd, hP, ⟨hD.1, fun k q hk => ?_⟩, va_S.rf⟩
        unfold mWs at hk
        rw [List.getElem?_map] at hk
        cases hj : dom[k]? with
        | none => rw [hj] at hk; cases hk
        | some j =>
          rw [hj] at hk
          cases hk
          obtain ⟨a1, a2⟩ := (hd j).mp (List.mem_of_getElem? hj)
          exact Or.inl ⟨j, a1, a2, rfl⟩
      rw [lg_entry_eq]
      have hw := mRunS (l := l) (e := e) (below := below) (Q := MQ below (mQc D cT φ mm s.heap.size r m1) (as.map (mCv φ)).toArray s (m1.2.2.2.2.1 - mm.2.2.2.2.1) (m1.2.2.2.2.2 - mm.2.2.2.2.2) (mA φ mm s.heap.size)) (c0 := mm.2.2.2.2.1) (s0 := mm.2.2.2.2.2) (m0 := mm) (φ0 := φ) ih (mCall_mono N d) C (fun e => absurd e h0) r m1 (Nat.le_refl _) (Nat.le_refl _) ?_ N 0 (mEn as g.2.2.1) [] mm φ s.heap [] _ h hR (mFr_entry hlen hokS) (Nat.le_refl _) (Nat.le_refl _)
      · rw [Nat.sub_self, Nat.sub_self] at hw
        exact hw
      · intro i pc L S m2 φ2 H locs ls hdg hst em hR2 hF2
        subst em
        obtain ⟨hx, hb, -, hr, hlk, -⟩ := C
        obtain ⟨hok2, hex2, dom2, hn2, hd2, hP2, hD2, hS2⟩ := hR2
        have hq : ∀ v : Option Value, r = v → (∀ w, v = some w → mOkV m2 w) → ∀ t : State, t.heap = H → s.WarmedH t.vm → mQc D cT φ mm s.heap.size r m2 (as.map (mCv φ)).toArray s (.returned (v.map (mCv φ2))) t := by
          intro v ev hvv t ht hW
          subst ev
          exact ⟨⟨φ2, hok2, hex2, hvv, rfl, dom2, hn2, hd2, by rw [ht]; exact hP2, hD2⟩, hS2.F ht⟩
        have hSo := hF2.2.2.2
        rcases mStep_inr hst with ⟨rfl, v, ty, rfl, e1, e2, e3⟩ | ⟨rfl, v, rfl, e1, e3⟩ | ⟨rfl, v, C9, rfl, e1, e3⟩ | ⟨rfl, rfl, e1, e3⟩
        · exact W.zret hx hb (hr.trans e1) e2 (fun t ht hW => hq (some (.int v)) e3 (fun w hw => by cases hw; exact mOkV_int _ _) t ht hW) hS2.2.2 hdg hlk
        · exact W.lret hx hb (hr.trans e1) (fun t ht hW => hq (some (.long v)) e3 (fun w hw => by cases hw; exact mOkV_long _ _) t ht hW) hS2.2.2 hdg hlk
        · exact W.aret (v := .ref (φ2 v)) hx hb (hr.trans e1) (Or.inl ⟨_, rfl⟩) (Or.inr ⟨_, rfl⟩) (fun t ht hW => hq (some (.ref v)) e3 (fun w hw => by cases hw; exact hSo.hd) t ht hW) hS2.2.2 hdg hlk
        · exact W.vret hx hb (hr.trans e1) (fun t ht hW => hq none e3 (fun w hw => by cases hw) t ht hW) hS2.2.2 hdg hlk
    · cases h
