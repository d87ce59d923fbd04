/-! The model's unfolding: conditions come; whether an event is cut off. -/
def mcC (tn : Nat → Nat) (m : mMem) (o : Nat) (V : uS) : Prop := (uC V ≤ 80 ∧ iF m o 46 = 0 ∧ mcR tn m o V) ∨ (uC V = 81 ∧ iF m o 46 = 1 ∧ iF m o 55 = nI 80)
def adA (o k : Nat) : Prop := 64 * o + 35 ≤ k ∧ k ≤ 64 * o + 37
def adF (o k f : Nat) : Prop := k = o ∧ (f = 46 ∨ f = 55)
section MUN7
variable {P T d o p e N : Nat} {tn : Nat → Nat} {tk pt : Nat → Nat → Nat} {fi mk : Nat → Nat} {U V : uS} {m m1 : mMem} {Q : Option Value → mMem → Prop}
theorem hb_ac : uHb tn (uAc V p e) = uHb tn V := by
  unfold uAc
  split <;> rfl
theorem hb_an : ∀ k, uHb tn (uAn V p e k) = uHb tn V := by
  intro k
  induction k with
  | zero => rfl
  | succ k ih => exact hb_ac.trans ih
theorem hb_ap {g : Nat → Nat} : ∀ k, uHb tn (uAp V g e k) = uHb tn V := by
  intro k
  induction k with
  | zero => rfl
  | succ k ih => exact (hb_an _).trans ih
theorem ev_mAddCond (hd : 1 ≤ d) (hT : mWT m) (hO : m.1 o = some (.inr 8) ∧ o ≠ 0) (h : mcC tn m o V) (hN : N ≤ uC V) (hV : ∀ c f, N ≤ c → ¬ uHb tn V c f)
    (hQ : ∀ m', mTo (adA o) (adF o) m m' → mcC tn m' o (uAc V p e) → Q none m') : mEv d 225 [.ref o, .int (nI p), .int (ogV e)] m Q := by
  refine mEv.at (by omega) G225 (Nat.le_of_ble_eq_true rfl) ?_
  refine bk225_0 hT hO ?_
  have full : uC (uAc V p e) = 81 → iF m o 55 = nI 80 → (¬ iF m o 55 = 80 → False) ∧ (∀ m9, m9 = mSetF m o 46 (.int 1) → Q none m9) := by
    intro h1 h2
    refine ⟨fun z => z h2, ?_⟩
    rintro m9 rfl
    exact hQ _ ((mTo.rf hT).sF hO ⟨rfl, Or.inl rfl⟩ (by decide)) (Or.inr ⟨h1, iF_s, by rw [iF_nf (by decide)]; exact h2⟩)
  rcases h with ⟨h1, h2, h3⟩ | ⟨h1, h2, h3⟩
  · by_cases q : uC V = 80
    · have f := full (by unfold uAc; rw [if_neg (by omega)]) (by rw [h3.1, q])
      exact ⟨fun z => (f.1 z).elim, fun _ => f.2⟩
    · refine ⟨fun _ => ?_, fun z => absurd (fun w => ?_) z⟩
      · have hI : mIn (nI (uC V)) 81 = true := (nIin_iff (by omega)).mpr (by omega)
        rw [h3.1]
        refine ⟨hI, ?_⟩
        rintro m1 rfl
        rw [iF_I, h3.1]
        refine ⟨hI, ?_⟩
        rintro m2 rfl
        rw [iF_I, iF_I, h3.1]
        refine ⟨hI, ?_⟩
        rintro m3 rfl m4 rfl
        rw [iF_I, iF_I, iF_I, h3.1, nIinc, nI_clamp (by omega)]
        have eC : uC (uAc V p e) = uC V + 1 := by unfold uAc; rw [if_pos (by omega)]
        have eL : ∀ j, uPl (uAc V p e) j = updN (uPl V) (uC V) p j := fun j => by unfold uAc; rw [if_pos (by omega)]
        have eO : ∀ j, uOr (uAc V p e) j = updN (uOr V) (uC V) e j := fun j => by unfold uAc; rw [if_pos (by omega)]
        refine hQ _ ((((mTo.rf hT).sI (by unfold adA; omega)).sI (by unfold adA; omega)).sI (by unfold adA; omega) |>.sF hO ⟨rfl, Or.inr rfl⟩ (by decide)) (Or.inl ⟨by omega, ?_, by rw [iF_s, eC], fun j hj => ?_⟩)
        · rw [iF_nf (by decide)]; exact h2
        · rw [eC] at hj
          rw [eL, eO, hb_ac, rI_F, rI_F, rI_F]
          by_cases w : j = uC V
          · subst w
            refine ⟨?_, ?_, ?_⟩
            · rw [rdI_ne (by omega), rdI_ne (by omega), rdI_same, up_s, updN_s]
            · rw [rdI_ne (by omega), rdI_same, up_s, updN_s]
            · rw [rdI_same, up_s]
              rw [bs_zero.mpr (fun i _ => hV _ i hN)]
              rfl
          · obtain ⟨r1, r2, r3⟩ := h3.2 j (by omega)
            refine ⟨?_, ?_, ?_⟩
            · rw [rdI_ne (by omega), rdI_ne (by omega), rdI_same, up_n w, updN_n w]; exact r1
            · rw [rdI_ne (by omega), rdI_same, up_n w, updN_n w, rdI_ne (by omega)]; exact r2
            · rw [rdI_same, up_n w, rdI_ne (by omega), rdI_ne (by omega)]; exact r3
      · rw [h3.1, l80, nIeq (by omega) (by omega)] at w
        exact q w
  · have f := full (uAc_81 h1) h3
    exact ⟨fun z => (f.1 z).elim, fun _ => f.2⟩
theorem ev_isCutOff (hd : 2 ≤ d) (hT : mWT m) (hO : m.1 o = some (.inr 8) ∧ o ≠ 0) (h6 : iF m o 6 = nI P) (hP : P ≤ 10) (he : e < 30) (h4 : ∀ p, p < 10 → m.2.2.1 (64 * o + 4) p = nI (mk p)) (hpa : ∀ f, f ≤ e → m.2.2.1 (64 * o + 31) f = nI (uPa U f) ∧ uPa U f < 2 ^ 31) (hlf : ∀ f, f ≤ e → ∀ p, p < P → m.2.2.1 (64 * o + 33) (10 * f + p) = uLf tk pt mk U f p) (hQ : Q (some (.int (bz (uCu P tk pt mk U e)))) m) : mEv d 236 [.ref o, .int (nI e)] m Q := by
  refine mEv.at (by omega) G236 (Nat.le_of_ble_eq_true rfl) ?_
  refine bk236_0 hT hO ?_
  have pcb : ∀ x, pcN x ≤ 32 := fun x => fb_ct_le _ 32
  -- the events before
  have out : ∀ r f (z : Int32) (x4 : Option Value), r + f = e → z = bz ((∀ p, p < P → uLf tk pt mk U e p = nI (mk p)) ∨ ∃ g, g < f ∧ pcN (uPa U g) < pcN (uPa U e) ∧ ∀ p, p < P → uLf tk pt mk U e p = uLf tk pt mk U g p) → mEs (d - 1) 236 o g236 (50, [some (.ref o), some (.int (nI e)), some (.int z), some (.int (nI f)), x4], [], m) Q := by
    intro r
    induction r with
    | zero =>
      intro f z x4 hf hz
      obtain rfl : f = e := by omega
      subst hz
      exact bk236_50 hT hO ⟨fun _ => ⟨bz_01 _, hQ⟩, fun z => absurd ((nIle (by omega) (by omega)).mpr (Nat.le_refl _)) z⟩
    | succ r ih =>
      intro f z x4 hf hz
      subst hz
      obtain ⟨a1, a2⟩ := hpa f (by omega)
      obtain ⟨b1, b2⟩ := hpa e (Nat.le_refl _)
      have c1 := pcb (uPa U f)
      have c2 := pcb (uPa U e)
      refine bk236_50 hT hO ?_
      rw [nIle (by omega) (by omega), bz_0, Classical.not_not, nI_clamp (by omega), a1]
      refine ⟨fun z => by omega, fun _ => ⟨fun q => ⟨Or.inr (bz_t q), ?_⟩, fun q => ⟨(nIin_iff (by omega)).mpr (by omega), ?_⟩⟩⟩
      · rw [bz_t q]
        rw [bz_t (C := uCu P tk pt mk U e) (q.imp id (fun ⟨g, g1, g2⟩ => ⟨g, by omega, g2⟩))] at hQ
        exact hQ
      · refine ev_ones (by omega) hT a2 ?_
        refine bk236_68 hT hO ?_
        rw [nI_clamp (by omega), b1]
        refine ⟨(nIin_iff (by omega)).mpr (by omega), ?_⟩
        refine ev_ones (by omega) hT b2 ?_
        refine bk236_77 hT hO ?_
        rw [nIle (by omega) (by omega)]
        have inn : ∀ r2 p (z : Int32), r2 + p = P → z = bz (pcN (uPa U f) < pcN (uPa U e) ∧ ∀ q, q < p → uLf tk pt mk U e q = uLf tk pt mk U f q) → mEs (d - 1) 236 o g236 (89, [some (.ref o), some (.int (nI e)), some (.int z), some (.int (nI f)), some (.int (nI p))], [], m) Q := by
          intro r2
          induction r2 with
          | zero =>
            intro p z hp hz
            obtain rfl : p = P := by omega
            refine bk236_89 hT hO ?_
            rw [h6]
            refine ⟨fun _ => ?_, fun z => absurd ((nIle (by omega) (by omega)).mpr (Nat.le_refl _)) z⟩
            rintro v rfl
            rw [nIinc]
            refine ih (f + 1) z _ (by omega) (hz.trans (bz_cg ⟨fun h => Or.inr ⟨f, by omega, h⟩, fun h => ?_⟩))
            rcases h with h | ⟨g, g1, g2⟩
            · exact absurd (Or.inl h) q
            · by_cases w : g = f
              · rw [w] at g2; exact g2
              · exact absurd (Or.inr ⟨g, by omega, g2⟩) q
          | succ r2 ih2 =>
            intro p z hp hz
            subst hz
            refine bk236_89 hT hO ?_
            rw [h6, nIle (by omega) (by omega), bz_0, n10x, n10x, nI_add, nI_add, nI_clamp (by omega), nI_clamp (by omega), hlf f (by omega) p (by omega), hlf e (Nat.le_refl _) p (by omega)]
            refine ⟨fun z => by omega, fun _ => ⟨fun w => ?_, fun w => ⟨(nIin_iff (by omega)).mpr (by omega), (nIin_iff (by omega)).mpr (by omega), fun y => ?_, fun y => ?_⟩⟩⟩
            · rintro v rfl
              rw [nIinc]
              exact ih2 (p + 1) 0 (by omega) (bz_f (fun h => w ⟨h.1, fun q hq => h.2 q (by omega)⟩)).symm
            · rintro v rfl
              rw [nIinc]
              exact ih2 (p + 1) 0 (by omega) (bz_f (fun h => y (h.2 p (by omega)).symm)).symm
            · rintro v rfl
              rw [nIinc]
              have w := Classical.not_not.mp w
              refine ih2 (p + 1) 1 (by omega) (bz_t ⟨w.1, fun q hq => ?_⟩).symm
              by_cases u : q = p
              · rw [u]; exact (Classical.not_not.mp y).symm
              · exact w.2 q (by omega)
        refine ⟨fun w => inn P 0 0 (by omega) (bz_f (fun h => by omega)).symm, fun w => inn P 0 1 (by omega) (bz_t ⟨by omega, fun q hq => by omega⟩).symm⟩
  -- the marking of the beginning
  have first : ∀ r p (z : Int32) (x4 : Option Value), r + p = P → z = bz (∀ q, q < p → uLf tk pt mk U e q = nI (mk q)) → mEs (d - 1) 236 o g236 (4, [some (.ref o), some (.int (nI e)), some (.int z), some (.int (nI p)), x4], [], m) Q := by
    intro r
    induction r with
    | zero =>
      intro p z x4 hp hz
      obtain rfl : p = P := by omega
      refine bk236_4 hT hO ?_
      rw [h6]
      refine ⟨fun _ => ?_, fun z => absurd ((nIle (by omega) (by omega)).mpr (Nat.le_refl _)) z⟩
      exact out e 0 z x4 (by omega) (hz.trans (bz_cg ⟨Or.inl, fun h => h.elim id (fun ⟨g, g1, _⟩ => by omega)⟩))
    | succ r ih =>
      intro p z x4 hp hz
      subst hz
      refine bk236_4 hT hO ?_
      rw [h6, nIle (by omega) (by omega), bz_0, n10x, nI_add, nI_clamp (n := 10 * e + p) (by omega), nI_clamp (n := p) (by omega), hlf e (Nat.le_refl _) p (by omega), h4 p (by omega)]
      refine ⟨fun z => by omega, fun _ => ⟨fun w => ?_, fun w => ⟨(nIin_iff (by omega)).mpr (by omega), (nIin_iff (by omega)).mpr (by omega), fun y => ?_, fun y => ?_⟩⟩⟩
      · rintro v rfl
        rw [nIinc]
        exact ih (p + 1) 0 x4 (by omega) (bz_f (fun h => w (fun q hq => h q (by omega)))).symm
      · rintro v rfl
        rw [nIinc]
        exact ih (p + 1) 0 x4 (by omega) (bz_f (fun h => y (h p (by omega)))).symm
      · rintro v rfl
        rw [nIinc]
        have w := Classical.not_not.mp w
        refine ih (p + 1) 1 x4 (by omega) (bz_t (fun q hq => ?_)).symm
        by_cases u : q = p
        · rw [u]; exact Classical.not_not.mp y
        · exact w q (by omega)
  exact first P 0 1 _ (by omega) (bz_t (fun q hq => by omega)).symm
end MUN7
