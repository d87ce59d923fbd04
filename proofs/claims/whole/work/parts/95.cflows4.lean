/-! The class Flows: what is told. -/
/-- the k-th number of the i-th least flow, as told -/
noncomputable def flwT (W : Nat) (S : fwS) (y z : Int32) : Int32 := cif (pIx S.1 y) (nI (S.2 (fIx W S y.toNatClampNeg) z.toNatClampNeg)) (-1)
/-- tokens times the numbers of a row -/
def wSum (mk row : Nat → Nat) (W : Nat) : Nat := fb_sm (fun k => row k * mk k) W
def cap2 (v : Nat) : Int32 := if 2147483647 < v then 2147483647 else nI v
noncomputable def keptT (W : Nat) (S : fwS) (mk : Nat → Nat) (y : Int32) : Int32 := cif (pIx S.1 y) (cap2 (wSum mk (S.2 (fIx W S y.toNatClampNeg)) W)) (-1)
theorem wSum_b {mk row : Nat → Nat} (h1 : ∀ k, row k ≤ 1000000000) (h2 : ∀ k, mk k ≤ 99) : ∀ n, fb_sm (fun k => row k * mk k) n ≤ n * 99000000000 := fun n => fb_sm_bound fun k _ => Nat.le_trans (Nat.mul_le_mul (h1 k) (h2 k)) (by decide)
section CFW4
variable {d c n P T W E lr : Nat} {pl : Prop} {tk pt : Nat → Nat → Nat} {fi mk : Nat → Nat} {S : fwS} {m : mMem} {Q : Option Value → mMem → Prop}
theorem flC.far (hC : flC m c W E pl (dF pl tk pt)) : (fZ W E (dF pl tk pt) E = none ∧ iF m c 2 = 1) ∨ ∃ S, fZ W E (dF pl tk pt) E = some S ∧ iF m c 2 = 0 ∧ iF m c 1 = nI S.1 := by
  obtain ⟨ra, rb, B, h⟩ := hC
  cases hz : fZ W E (dF pl tk pt) E with
  | none => rw [hz] at h; exact Or.inl ⟨rfl, h⟩
  | some S => rw [hz] at h; exact Or.inr ⟨S, rfl, h.1, h.2.1⟩
theorem ev_flTell {y z : Int32} (hd : 1 ≤ d) (hT : mWT m) (hC : flC m c W E pl (dF pl tk pt)) (hW : W ≤ 10) (hz : fZ W E (dF pl tk pt) E = some S) (hS : fOk W (dF pl tk pt) S) (hk : pIx W z) (hQ : Q (some (.int (flwT W S y z))) m) : mEv d 93 [.ref c, .int y, .int z] m Q := by
  obtain ⟨ra, rb, B, h⟩ := hC
  rw [hz] at h
  obtain ⟨h2, h1, hR, o, ho, ho2⟩ := h
  obtain ⟨a1, a2, a3, a4, a5, a6, a7, a8, a9⟩ := id B
  have h300 := hS.1
  obtain ⟨k, hk', rfl⟩ := hk
  unfold flwT at hQ
  refine mEv.at (by omega) G93 (Nat.le_of_ble_eq_true rfl) ?_
  refine bk93_0 hT a1 ?_
  rw [h1, a8]
  rcases pk_ix y (n := S.1) (by omega) with h | h | ⟨j, hj, rfl⟩
  · rw [cif_f] at hQ
    · exact ⟨fun _ => hQ, fun c => absurd h c⟩
    · rintro ⟨j, h1, rfl⟩; exact nI_nlt0 (by omega) h
  · rw [cif_f] at hQ
    · exact ⟨fun _ => hQ, fun _ => ⟨fun _ => hQ, fun c => absurd h c⟩⟩
    · rintro ⟨j, h1, rfl⟩; rw [nIle (by omega) (by omega)] at h; omega
  · rw [cif_t ⟨j, hj, rfl⟩, nI_clamp (by omega), nI_clamp (by omega), ord_fIx hW hS ho hj] at hQ
    have hoj := ho.1 j hj
    rw [nIle (by omega) (by omega), nI_ltI (by omega) (by omega), nI_clamp (by omega), ho2 j hj, l10, nI_mul, nI_add, nI_clamp (by omega)]
    refine ⟨fun c => absurd c (nI_nlt0 (by omega)), fun _ => ⟨fun c => by omega, fun _ => ⟨fun c => absurd c (nI_nlt0 (by omega)), fun _ => ⟨fun _ => ⟨ra, 3000, a2, a4, (nIin_iff (by omega)).mpr (by omega), (nIin_iff (by omega)).mpr (by omega), ?_⟩, fun c => by omega⟩⟩⟩⟩
    rw [hR (o j) hoj k hk']
    exact hQ
theorem ev_weigh {y : Int32} (hd : 2 ≤ d) (hT : mWT m) (hC : flC m c W E pl (dF pl tk pt)) (hW : W ≤ 10) (hz : fZ W E (dF pl tk pt) E = some S) (hS : fOk W (dF pl tk pt) S) (hA : m.1 lr = some (.inl (.int, n)) ∧ lr ≠ 0) (hl : 10 ≤ n) (hv : ∀ p, p < 10 → m.2.2.1 lr p = nI (mk p)) (hm : ∀ p, mk p ≤ 99) (hQ : Q (some (.int (keptT W S mk y))) m) : mEv d 95 [.ref c, .int y, .ref lr] m Q := by
  obtain ⟨ra, rb, B, h⟩ := hC
  rw [hz] at h
  obtain ⟨h2, h1, hR, o, ho, ho2⟩ := h
  obtain ⟨a1, a2, a3, a4, a5, a6, a7, a8, a9⟩ := id B
  have h300 := hS.1
  unfold keptT at hQ
  refine mEv.at (by omega) G95 (Nat.le_of_ble_eq_true rfl) ?_
  refine bk95_0 hT a1 hA ?_
  rw [h1]
  rcases pk_ix y (n := S.1) (by omega) with h | h | ⟨j, hj, rfl⟩
  · rw [cif_f] at hQ
    · exact ⟨fun _ => hQ, fun c => absurd h c⟩
    · rintro ⟨j, h1, rfl⟩; exact nI_nlt0 (by omega) h
  · rw [cif_f] at hQ
    · exact ⟨fun _ => hQ, fun _ => ⟨fun c => absurd h (Int32.not_le.mpr c), fun _ => hQ⟩⟩
    · rintro ⟨j, h1, rfl⟩; rw [nIle (by omega) (by omega)] at h; omega
  · rw [cif_t ⟨j, hj, rfl⟩, nI_clamp (by omega), ord_fIx hW hS ho hj] at hQ
    have hoj := ho.1 j hj
    have hrb := (hS.2.1 (o j) hoj).2.1
    have hsb := wSum_b (mk := mk) hrb hm
    refine ⟨fun c => absurd c (nI_nlt0 (by omega)), fun _ => ⟨fun _ => ?_, fun c => absurd ((nI_ltI (by omega) (by omega)).mpr hj) c⟩⟩
    refine upto (e := W) (X := fun k => mEs (d - 1) 95 c g95 (19, [some (.ref c), some (.int (nI j)), some (.ref lr), some (.long (lN (fb_sm (fun k => S.2 (o j) k * mk k) k))), none, some (.int (nI k))], [], m) Q) ?_ ?_ 0 (Nat.zero_le _)
    · have hb := hsb W
      refine bk95_19 hT a1 hA (by omega) ?_
      rw [a8, nIle (by omega) (by omega)]
      refine ⟨fun _ => ?_, fun c => absurd (Nat.le_refl _) c⟩
      have e : (if 2147483647 < lN (fb_sm (fun k => S.2 (o j) k * mk k) W) then 2147483647 else lN (fb_sm (fun k => S.2 (o j) k * mk k) W)).toInt32 = cap2 (wSum mk (S.2 (o j)) W) := by
        show _ = cap2 (fb_sm (fun k => S.2 (o j) k * mk k) W)
        unfold cap2
        have ev : ((2147483647 : Int64) < lN (fb_sm (fun k => S.2 (o j) k * mk k) W)) ↔ 2147483647 < fb_sm (fun k => S.2 (o j) k * mk k) W := pk_lLT (a := 2147483647) (by omega) (by omega)
        by_cases q : 2147483647 < fb_sm (fun k => S.2 (o j) k * mk k) W
        · rw [if_pos (ev.mpr q), if_pos q]; rfl
        · rw [if_neg (fun z => q (ev.mp z)), if_neg q]
          exact n_Ln (by omega)
      rw [e]; exact hQ
    · intro k hk' ih
      have h1 := hrb k
      have h2 := hm k
      refine bk95_19 hT a1 hA (by omega) ?_
      rw [a8, nIle (by omega) (by omega)]
      refine ⟨fun c => by omega, fun _ => ⟨ra, 3000, a2, a4, ?_⟩⟩
      rw [nI_clamp (by omega), ho2 j hj, l10, nI_mul, nI_add, nI_clamp (by omega), nI_clamp (by omega), hR (o j) hoj k hk', hv k (by omega), w_n (by omega), w_n (by omega), nIinc, ← iL_n, ← iL_n, ← iL_n, iL_mul, iL_add, ← Int.natCast_mul, ← Int.natCast_add, iL_n]
      refine ⟨(nIin_iff (by omega)).mpr (by omega), (nIin_iff (by omega)).mpr (by omega), (nIin_iff (by omega)).mpr (by omega), ?_⟩
      rintro v rfl v2 rfl
      exact ih
end CFW4
