/-! Calls, one by one. -/
def mSoX (i : Instr) : Prop := ∀ (p : Program) (l : Launch) (e : Env) (R : Room) (s : State) (m : MethodId) (args : Array Value) (below : List Frame) (meth : Method) (c : Code) (H : Heap) (locs : List Loc) (Q : State → Prop) (c0 s0 : Nat)
    (D : va_G) (cT : FieldType → ClassId) (A : Nat → Prop) (g : mG) (d : Nat) (m0 mm : mMem) (φ0 φ : Nat → Nat) (L : mLo) (S : List Value) (ls : Array Slot) (pc : Nat) (cal : Nat → List Value → mMem → Option mRs) (mi b pc' : Nat) (L' : mLo) (S' : List Value) (mm' : mMem) (len : Nat),
    mCalOk l D cT d cal → mStep cal d mi b g i pc L S mm = some (.inl (pc', L', S', mm')) → mCx p s m args meth c R D cT A g d → (mi = 0 → mScr s A m0 φ0) → decode g.2.1 pc = .ok (i, len) → (len = mLen i ∨ mSw i = true) → mRl D cT A s.heap m0 φ0 φ mm H locs → mFr φ mm L S ls g.2.2.1 →
    c0 ≤ mm.2.2.2.2.1 → s0 ≤ mm.2.2.2.2.2 → mm'.2.2.2.2.1 - c0 ≤ R.cells → mm'.2.2.2.2.2 - s0 ≤ R.slots →
    (∀ φ' H' locs' ls', mRl D cT A s.heap m0 φ0 φ' mm' H' locs' → mFr φ' mm' L' S' ls' g.2.2.1 → W p l e R s m args below meth c H' locs' (mm'.2.2.2.2.1 - c0) (mm'.2.2.2.2.2 - s0) Q (F0 m pc' ls' (S'.map (mCv φ')))) →
    W p l e R s m args below meth c H locs (mm.2.2.2.2.1 - c0) (mm.2.2.2.2.2 - s0) Q (F0 m pc ls (S.map (mCv φ)))
theorem mSoX_M {i : Instr} (h : mSoM i) : mSoX i := by
  intro p l e R s m args below meth c H locs Q c0 s0 D cT A g d m0 mm φ0 φ L S ls pc cal mi b pc' L' S' mm' len hcal
  exact h p l e R s m args below meth c H locs Q c0 s0 D cT A g d m0 mm φ0 φ L S ls g.2.2.1 pc cal mi b pc' L' S' mm' len
def mReg (cal : Nat → List Value → mMem → Option mRs) (kind cm pc : Nat) (L : mLo) (S : List Value) (mm : mMem) (pc' : Nat) (L' : mLo) (S' : List Value) (m' : mMem) : Prop := ∃ (g : mG) (r : Option Value), mGm[cm]? = some g ∧ cm ≠ 0 ∧ g.2.2.2.2.2.1 ≤ S.length ∧ ((S.drop g.2.2.2.2.2.1).map Value.category).sum ≤ 8 ∧ mKok kind g (S.take g.2.2.2.2.2.1).reverse mm = true ∧ cal cm (S.take g.2.2.2.2.2.1).reverse mm = some (r, m') ∧ pc' = pc + 3 ∧ L' = L ∧ S' = r.toList ++ S.drop g.2.2.2.2.2.1
theorem mInv_reg {cal : Nat → List Value → mMem → Option mRs} {d kind cm pc : Nat} {L : mLo} {S : List Value} {mm : mMem} {pc' : Nat} {L' : mLo} {S' : List Value} {m' : mMem} (h : mInv cal d kind cm pc L S mm = some (.inl (pc', L', S', m'))) (h1 : cm ≠ 901) (h2 : cm ≠ 902) (h3 : cm ≠ 903) (h4 : cm ≠ 904) (h5 : cm ≠ 905) : mReg cal kind cm pc L S mm pc' L' S' m' := by
  unfold mInv at h
  rw [if_neg h1, if_neg h2, if_neg h3, if_neg h4, if_neg h5] at h
  split at h
  · rename_i g hg
    dsimp only at h
    split at h
    · rename_i hc
      split at h
      · rename_i r m1 hr
        obtain ⟨rfl, rfl, rfl, rfl⟩ := mGo_inj h
        exact ⟨g, r, hg, hc.1, hc.2.1, hc.2.2.1, hc.2.2.2, hr, rfl, rfl, rfl⟩
      · cases h
    · cases h
  · cases h
theorem mBn_reg {cm : Nat} {g : mG} (h : mGm[cm]? = some g) : mBn cm = some g.1 ∧ cm < 900 := by
  have hl : cm < 241 := by
    have := (List.getElem?_eq_some_iff.mp h).1
    rw [t_Glen2] at this
    exact this
  refine ⟨?_, by omega⟩
  unfold mBn
  split <;> first | omega | (rw [h]; rfl)
theorem mStk_split (S : List Value) (n : Nat) : S = ((S.take n).reverse).reverse ++ S.drop n := by rw [List.reverse_reverse, List.take_append_drop]
section MIV
variable {p : Program} {l : Launch} {e : Env} {R : Room} {s : State} {m : MethodId} {args : Array Value} {below : List Frame} {meth : Method} {c : Code} {H : Heap} {locs : List Loc} {Q : State → Prop} {c0 s0 : Nat}
variable {D : va_G} {cT : FieldType → ClassId} {A : Nat → Prop} {g g1 : mG} {d : Nat} {m0 mm m1 : mMem} {φ0 φ : Nat → Nat} {L : mLo} {As rest : List Value} {ls : Array Slot} {pc : Nat} {r : Option Value} {a : Array Value} {st0 : List Value}
/-- behind a call: how it goes on -/
theorem mAfter (hr : va_Run p l e R s m args below meth c H locs (mm.2.2.2.2.1 - c0) (mm.2.2.2.2.2 - s0) (m1.2.2.2.2.1 - mm.2.2.2.2.1) (m1.2.2.2.2.2 - mm.2.2.2.2.2) (F0 m pc ls st0) (rest.map (mCv φ)) (mQc D cT φ mm H.size r m1 a) (mA φ mm H.size)) (hR : mRl D cT A s.heap m0 φ0 φ mm H locs) (hA : ∀ q, s.heap.size ≤ q → A q) (hF : mFr φ mm L rest ls g.2.2.1) (hc0 : c0 ≤ mm.2.2.2.2.1) (hs0 : s0 ≤ mm.2.2.2.2.2) (hc1 : mm.2.2.2.2.1 ≤ m1.2.2.2.2.1) (hs1 : mm.2.2.2.2.2 ≤ m1.2.2.2.2.2)
    (kk : ∀ φ' H' locs' ls', mRl D cT A s.heap m0 φ0 φ' m1 H' locs' → mFr φ' m1 L (r.toList ++ rest) ls' g.2.2.1 → W p l e R s m args below meth c H' locs' (m1.2.2.2.2.1 - c0) (m1.2.2.2.2.2 - s0) Q (F0 m (pc + 3) ls' ((r.toList ++ rest).map (mCv φ')))) :
    W p l e R s m args below meth c H locs (mm.2.2.2.2.1 - c0) (mm.2.2.2.2.2 - s0) Q (F0 m pc ls st0) := by
  refine mCalled hr hR hA (fun φ1 H1 locs1 hR1 hext hrv => ?_)
  have hS := hF.2.2.2
  have h1 := kk φ1 H1 locs1 ls hR1 (hext.fr hF (fun v hv => by
    rcases List.mem_append.mp hv with h | h
    · exact hrv v (by cases r with | none => cases h | some w => rw [List.mem_singleton.mp h])
    · exact hext.okS hS v h))
  have e1 : (r.toList ++ rest).map (mCv φ1) = (r.map (mCv φ1)).toList ++ rest.map (mCv φ) := by
    rw [List.map_append, hext.map hS]
    cases r <;> rfl
  rw [e1] at h1
  have e2 : mm.2.2.2.2.1 - c0 + (m1.2.2.2.2.1 - mm.2.2.2.2.1) = m1.2.2.2.2.1 - c0 := by omega
  have e3 : mm.2.2.2.2.2 - s0 + (m1.2.2.2.2.2 - mm.2.2.2.2.2) = m1.2.2.2.2.2 - s0 := by omega
  rw [e2, e3]
  exact h1
theorem mRoomOk {mL : Nat} {c1 n1 : Nat} (h1 : 1 ≤ d) (h2 : d ≤ R.frames) (h3 : 64 * d ≤ R.locals) (h4 : mL ≤ 40) : (mRm (d - 1) c1 n1).frames + 1 ≤ R.frames ∧ 8 + (mL + 11) + (mRm (d - 1) c1 n1).locals ≤ R.locals := by
  unfold mRm
  constructor
  · show d - 1 + 1 ≤ _; omega
  · show 8 + (mL + 11) + 64 * (d - 1) ≤ _; omega
end MIV
theorem mKok0 {g : mG} {As : List Value} {mm : mMem} (h : mKok 0 g As mm = true) : ∃ k As', As = .ref k :: As' ∧ mm.1 k = some (.inr g.2.2.2.2.2.2.1) ∧ k ≠ 0 ∧ g.2.2.2.2.2.2.2 = false := by
  cases As with
  | nil => exact Bool.noConfusion (show false = true from h)
  | cons v As' =>
    cases v with
    | ref k =>
      have h2 : (decide (mm.1 k = some (.inr g.2.2.2.2.2.2.1)) && k != 0 && !g.2.2.2.2.2.2.2) = true := h
      simp only [Bool.and_eq_true, decide_eq_true_eq, bne_iff_ne, Bool.not_eq_true'] at h2
      exact ⟨k, As', rfl, h2.1.1, h2.1.2, h2.2⟩
    | _ => exact Bool.noConfusion (show false = true from h)
theorem mKok1 {g : mG} {As : List Value} {mm : mMem} (h : mKok 1 g As mm = true) : ∃ k As', As = .ref k :: As' ∧ g.2.2.2.2.2.2.1 ≠ 99 ∧ g.2.2.2.2.2.2.2 = true := by
  cases As with
  | nil => exact Bool.noConfusion (show false = true from h)
  | cons v As' =>
    cases v with
    | ref k =>
      have h2 : (g.2.2.2.2.2.2.1 != 99 && g.2.2.2.2.2.2.2) = true := h
      simp only [Bool.and_eq_true, bne_iff_ne] at h2
      exact ⟨k, As', rfl, h2.1, h2.2⟩
    | _ => exact Bool.noConfusion (show false = true from h)
theorem mKok2 {g : mG} {As : List Value} {mm : mMem} (h : mKok 2 g As mm = true) : g.2.2.2.2.2.2.1 = 99 := by
  have h2 : (g.2.2.2.2.2.2.1 == 99) = true := h
  simpa using h2
theorem so_invokevirtual (j : Nat) : mSoX (.invokevirtual j) := by
  intro p l e R s m args below meth c H locs Q c0 s0 D cT A g d m0 mm φ0 φ L S ls pc cal mi b pc' L' S' mm' len hcal hst C hsc hdg hlen hR hF hc0 hs0 hcl hsl kk
  obtain ⟨hx, hb, hml, hr, hlk, hown, hts, hnw, hK, hA, ho, hini, hd1, hd2⟩ := C
  have hS := hF.2.2.2
  have hlen : len = 3 := hlen.resolve_right (by intro h; cases h)
  subst hlen
  unfold mStep at hst
  dsimp only at hst
  split at hst
  · rename_i cm q heq
    have hn : ∀ k, (k = 901 ∨ k = 902 ∨ k = 903 ∨ k = 904 ∨ k = 905) → cm ≠ k := by
      intro k hk he
      rw [he] at hst
      rcases hk with rfl | rfl | rfl | rfl | rfl <;> (simp only [mInv] at hst; revert hst; simp) <;> (split <;> simp)
    obtain ⟨g1, r, hg, h0, hnp, hsum, hkok, hcal1, rfl, rfl, rfl⟩ := mInv_reg hst (hn 901 (by simp)) (hn 902 (by simp)) (hn 903 (by simp)) (hn 904 (by simp)) (hn 905 (by simp))
    obtain ⟨y, hy, hy2⟩ := t_M ho heq
    rw [(mBn_reg hg).1] at hy
    obtain rfl := Option.some.inj hy
    have hl : Cond.methodLink (mOw g.2.2.2.2.1) j g1.1 ∈ lw_tbl := hy2.elim (fun h => h.2) (fun h => absurd rfl h.1)
    have hsp := mStk_split S g1.2.2.2.2.2.1
    have hal : ((S.take g1.2.2.2.2.2.1).reverse).length = g1.2.2.2.2.2.1 := by rw [List.length_reverse, List.length_take]; omega
    generalize (S.take g1.2.2.2.2.2.1).reverse = As at *
    generalize S.drop g1.2.2.2.2.2.1 = rest at *
    obtain ⟨k, As, rfl, hk, hk0, hin⟩ := mKok0 hkok
    · have hokA : mOkS mm (.ref k :: As) := fun v hv => hS v (by rw [hsp]; exact List.mem_append_left _ (List.mem_reverse.mpr hv))
      have hokR : mOkS mm rest := fun v hv => hS v (by rw [hsp]; exact List.mem_append_right _ hv)
      obtain ⟨h1d, hc1, hs1, hM⟩ := hcal cm _ mm r mm' g1 hcal1 hg h0 hR.1 hokA
      obtain ⟨G1, G2, G3, G4, G5, G6, G7⟩ := t_G hg h0
      have hne : g1.2.2.2.2.2.2.1 ≠ 99 := by
        intro h
        have := (hR.1.1 k _ hk).1
        omega
      obtain ⟨I1, ⟨n, I2, I3⟩, ⟨q1, I4, I5⟩, I6, I7⟩ := t_Gi hg h0 hne
      obtain ⟨dom, q0, hnd, hd, hP, hD, hSS, hdq, hat⟩ := hR.cell hk0 (by rw [hk]; exact fun h => by cases h)
      rw [mEc_o hk] at hat
      have hrec := va_recv hK hP I4 hat
      rw [I5] at hrec
      have hst0 : S.map (mCv φ) = (As.map (mCv φ)).reverse ++ .ref (φ k) :: rest.map (mCv φ) := by
        rw [hsp, List.map_append, List.reverse_cons, List.map_append, List.map_reverse, List.append_assoc]
        rfl
      rw [hst0]
      have hlenA : (As.map (mCv φ)).length = n := by rw [List.length_map]; have : As.length + 1 = _ := hal; omega
      have hGood : GoodIn mTb (wsV (mOw g.2.2.2.2.1) j g1.1.cls g1.1 (mWd g1)) := mTb_GoodIn (fun w hw => by
        unfold wsV at hw
        rcases List.mem_append.mp hw with h | h
        · simp only [List.mem_cons, List.not_mem_nil, or_false] at h
          rcases h with rfl | rfl | rfl | rfl
          · exact mTb_in hl rfl
          · exact mTb_in I1 rfl
          · exact mTb_in (I7 hin) rfl
          · exact mTb_in G2 rfl
        · exact mWd_in hg h0 w h)
      refine mAfter (g := g) (va_runV (Ts := mTb) (C := g1.1.cls) (n := n) (bytes := g1.2.1) (maxL := g1.2.2.1) (ret := g1.2.2.2.1) (As := As.map (mCv φ)) (rest := rest.map (mCv φ)) ⟨hx, hb, hml, hown, hts⟩ (hM φ H.size) (cwV n hts hGood rfl rfl rfl ⟨rfl, G7.1, G7.2, I2⟩ (mRoomOk h1d hd1 hd2 G6)) ⟨mPB_blind, hrec, mPre hR hK hnw (.ref k :: As)⟩ rfl hlenA hF.2.1.1 rfl (lv_room (by rw [mCv_sum]; exact hsum)) hdg ?_) hR hA (hF.stk hokR) hc0 hs0 hc1 hs1 kk
      exact ⟨by omega, by omega⟩
  · cases hst
