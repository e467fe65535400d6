/-! ===== read on both sides ===== -/
theorem nar_255 (x : Int32) : (am_nar 1 x) &&& 255 = x &&& 255 := by
  show (x.toInt8.toInt32) &&& 255 = x &&& 255
  apply Int32.toBitVec_inj.mp
  apply BitVec.eq_of_getLsbD_eq
  intro i hi
  rw [Int32.toBitVec_and, Int32.toBitVec_and, BitVec.getLsbD_and, BitVec.getLsbD_and]
  have k : ∀ i, i < 32 → (255 : Int32).toBitVec.getLsbD i = decide (i < 8) := by decide
  rw [k i hi]
  by_cases q : i < 8
  · have e : x.toInt8.toInt32.toBitVec.getLsbD i = x.toBitVec.getLsbD i := by
      rw [Int8.toBitVec_toInt32, Int32.toBitVec_toInt8, BitVec.getLsbD_signExtend, if_pos q, BitVec.getLsbD_signExtend, if_pos hi, decide_eq_true hi, decide_eq_true q, Bool.true_and, Bool.true_and]
    rw [e]
  · simp [q]
section RDD
variable {C : Nat → Nat} {n : Nat} {K : Nat → Nat} {V : Nat → Int32} {P X : Nat → Nat} {D T l : Nat}
theorem cp_loop {N : Nat} (hN : N ≤ 2000) : ∀ (F i : Nat) (b : am_S), b.1 58 4 = nI N → i ≤ N → N < i + F → (∀ j, j < i → b.1 60 j = am_nar 1 (b.1 59 j)) → ∃ b', f_X12_read_L10 F (nI i) b = some (.inr ((), b')) ∧ rw_on [60] b' b ∧ ∀ j, j < N → b'.1 60 j = am_nar 1 (b.1 59 j) := by
  intro F
  induction F with
  | zero => intro i b h h1 h2; omega
  | succ F ih =>
    intro i b h h1 h2 hz
    have d4 : nI i + 1 = nI (i + 1) := nI_1 i
    by_cases hi : i < N
    · have d1 : nI i < nI N := nI_lt hi (by omega)
      have d2 : am_in (nI i) 2000 = true := rl_nin (by decide) (by omega)
      have d3 : (nI i).toNatClampNeg = i := nI_clamp (by omega)
      obtain ⟨b', g1, g2, g3⟩ := ih (i + 1) (am_wI b 60 i (am_nar 1 (b.1 59 i))) h (by omega) (by omega) (fun j hj => by
        rw [rl_ws, rl_wr _ _ (by decide)]
        by_cases e : j = i
        · simp [e]
        · simp only [e, if_false]; exact hz j (by omega))
      exact ⟨b', by rw [f_X12_read_L10, h, if_pos d1, rl_gu d2, rl_gu d2, d3, d4]; exact g1, g2.trans ((rw_on.refl _ _).w (by simp) _ _), fun j hj => by rw [g3 j hj, rl_wr _ _ (by decide)]⟩
    · have d1 : ¬ nI i < nI N := nI_nlt (by omega) (by omega)
      exact ⟨b, by rw [f_X12_read_L10, h, if_neg d1], rw_on.refl _ _, fun j hj => hz j (by omega)⟩
/-- all rules have been read -/
def AO (D : Nat) (C : Nat → Nat) (n : Nat) (K : Nat → Nat) (V : Nat → Int32) (P X : Nat → Nat) (T l i : Nat) (a b' : am_S) : Prop := ∃ (a' : am_S) (j c κ N sd : Nat) (sg : Nat → Nat) (hd : Nat → (Nat → Int32) → Bool) (vv : Nat → (Nat → Int32) → Int32), PLc D i a = PLc D j a' ∧ cA D a' a ∧ sd < 3 ∧ N ≤ 20 ∧ PS D C n K V X a' j 0 sd 0 N ∧ MS K V P T l b' j 0 c ∧ c ≤ 500 * l + j ∧ j < T ∧ j ≤ 400 ∧ K j = 0 ∧ b'.1 72 l = nI κ ∧ 3 * κ ≤ j ∧ b'.1 66 l = nI N ∧ ∀ r, r < N → RUb (a'.1 (D + 1)) (tkI K) V b'.1 j l c κ r (sg r) (hd r) (vv r)
theorem rd_loop (hD : D = 5 ∨ D = 11) (hT : TT C n T K V P X) (hnx : ∀ s, s < T → K s ≠ 0 → s < 400 → s + 1 < T) (hl : l < 2) : ∀ (F i c κ N sd : Nat) (a b : am_S) (sg : Nat → Nat) (hd : Nat → (Nat → Int32) → Bool) (vv : Nat → (Nat → Int32) → Int32), PS D C n K V X a i 0 sd 0 N → MS K V P T l b i 0 c → c ≤ 500 * l + i → 500 * l ≤ c → i < T → i ≤ 400 → b.1 72 l = nI κ → 3 * κ ≤ i → b.1 66 l = nI N → N ≤ 20 → sd < 3 → (∀ r, r < N → RUb (a.1 (D + 1)) (tkI K) V b.1 i l c κ r (sg r) (hd r) (vv r)) → 402 < i + F → ∃ b', f_X12_read_L107 F b = some (.inr ((), b')) ∧ uG c κ N l b' b ∧ (FO D P i a b' ∨ AO D C n K V P X T l i a b') := by
  intro F
  induction F with
  | zero => intro i c κ N sd a b sg hd vv h1 h2 h3 h4 hi hi4; omega
  | succ F ih =>
    intro i c κ N sd a b sg hd vv h1 h2 h3 h4 hi hi4 e72 hκ e66 hN hs hR hF
    have i0 := is_M (k := 0) hT h2 hi hi4 (by decide)
    by_cases q0 : K i = 0
    · rw [decide_eq_true q0] at i0
      refine ⟨b, ?_, uG.refl _ _ _ _ _, Or.inr ⟨a, i, c, κ, N, sd, sg, hd, vv, rfl, rw_on.refl _ _, hs, hN, h1, h2, h3, hi, hi4, q0, e72, hκ, e66, hR⟩⟩
      rw [f_X12_read_L107, h2.2.2.1, if_pos rfl, show (0 : Int32) = nI 0 from rfl, bd_some i0, if_neg (by decide)]
    · rw [decide_eq_false q0] at i0
      obtain ⟨b1, g1, g2, g3⟩ := tr_all hD hT hnx hl hN hs h1 h2 h3 h4 hi hi4 q0 e72 e66 hκ
      have run : f_X12_read_L107 (F + 1) b = f_X12_read_L107 F b1 := by
        rw [f_X12_read_L107, h2.2.2.1, if_pos rfl]
        have i0' : f_X12_is b 0 = some (0, b) := i0
        rw [bd_some i0', if_pos rfl, bd_some g1]
      obtain ⟨F', rfl⟩ : ∃ F', F = F' + 1 := ⟨F - 1, by omega⟩
      rcases g3 with g3 | ⟨a1, j, c1, κ1, σ, sd1, h, val, k1, k2, k3, k4, k5, k6, k7, k8, k9, k10, k11, k12, k13, k14, k15, k16, k17⟩
      · refine ⟨b1, ?_, g2, Or.inl g3⟩
        rw [run, f_X12_read_L107, if_neg g3.ne.1]
      · have hR1 : ∀ r, r < N + 1 → RUb (a1.1 (D + 1)) (tkI K) V b1.1 j l c1 κ1 r ((fun r => if r = N then σ else sg r) r) ((fun r => if r = N then h else hd r) r) ((fun r => if r = N then val else vv r) r) := by
          intro r hr
          by_cases e : r = N
          · subst e
            simp only [if_true]
            exact k17
          · simp only [if_neg e]
            refine (hR r (by omega)).fr (by omega) k5 k6 (by rw [k3 r, if_neg e]) (fun x q1 q2 => g2.2.2.2.2.2 x q1 q2 _ (Or.inl (by omega))) (fun x kk q1 q2 q3 => g2.2.2.2.1 x q1 q2 kk (Or.inl q3)) (fun jj q => g2.2.2.1 jj (Or.inl q))
        obtain ⟨b', y1, y2, y3⟩ := ih j c1 κ1 (N + 1) sd1 a1 b1 _ _ _ k9 k10 k11 (by omega) k12 k13 k14 k15 k16 (by omega) k7 hR1 (by omega)
        refine ⟨b', by rw [run]; exact y1, y2.trans g2 k5 k6 (by omega), ?_⟩
        rcases y3 with y3 | ⟨a', j', c', κ', N', sd', sg', hd', vv', z1, z2, z3⟩
        · exact Or.inl (y3.tr k1 k2)
        · exact Or.inr ⟨a', j', c', κ', N', sd', sg', hd', vv', k1.trans z1, z2.trans k2, z3⟩
end RDD
