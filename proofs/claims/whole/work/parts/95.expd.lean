/-! ===== an expression is read on both sides: all of it ===== -/
theorem cm_bad1 : ∀ k, k < 26 → k ≠ 2 → k ≠ 6 → goes 1 0 0 (cm k) = false := by decide
theorem cm_u : ∀ k, k < 34 → (k = 2 ∨ 26 ≤ k) → goes 1 0 0 (cm k) = true ∧ cm k ≠ 17 ∧ cm k ≠ 18 ∧ (∀ q, q < 3 → mq q (cm k) = 2) ∧ (∀ s, s < 3 → ms s (cm k) = s) := by decide
theorem cm_o : ∀ k, k < 34 → (k = 8 ∨ k = 9 ∨ k = 10) → cm k = 10 ∨ cm k = 11 ∨ cm k = 12 := by decide
theorem cm_n0 : ∀ k, k < 34 → ¬ (k = 8 ∨ k = 9 ∨ k = 10) → cm k ≠ 10 ∧ cm k ≠ 11 ∧ cm k ≠ 12 := by decide
theorem cm_n (k : Nat) (h : k < 34) (h1 : k ≠ 8) (h2 : k ≠ 9) (h3 : k ≠ 10) : cm k ≠ 10 ∧ cm k ≠ 11 ∧ cm k ≠ 12 := cm_n0 k h (by omega)
theorem cm_7 : ∀ k, k < 34 → (cm k = 18 ↔ k = 7) := by decide
theorem goes1 (sd L t : Nat) : goes 1 sd L t = goes 1 0 0 t := rfl
theorem ml_n {L t : Nat} (h1 : t ≠ 17) (h2 : t ≠ 18) : ml L t = L := by unfold ml; rw [if_neg h1, if_neg h2]
theorem cu_U : ∀ k, k < 34 → (k = 2 ∨ 26 ≤ k) → (cm k = 2 ∧ k = 2 ∨ cm k = 19 + (k - 26) ∧ 26 ≤ k) := by decide
theorem i_m19' : ∀ w, w < 8 → (nI (19 + w) - 19).toNatClampNeg = w := by decide +kernel
section EXD
variable {C : Nat → Nat} {n : Nat} {K : Nat → Nat} {V : Nat → Int32} {P X : Nat → Nat} {D T l i0 c0 sd N : Nat}
/-- behind the brackets: the expression ends, or goes on -/
theorem ex_mid (hD : D = 5 ∨ D = 11) (hT : TT C n T K V P X) (hnx : ∀ s, s < T → K s ≠ 0 → s < 400 → s + 1 < T) (hl : l < 2) (hs : sd < 3) (hN : N ≤ 20) (hc : 500 * l ≤ c0) {nF : Nat} (ih : ∀ (a b : am_S) (m k : Nat) (F : List FRm), XI D C n K V P X T l i0 c0 sd N a b m k F → 401 < i0 + m + nF → ∃ b', (f_X12_expression_L12 nF 0 1 b = some (.inl ((), b')) ∨ f_X12_expression_L12 nF 0 1 b = some (.inr ((), b'))) ∧ cG c0 l b' b ∧ (FO D P (i0 + m) a b' ∨ XO D C n K V P X T l i0 c0 sd N a b' m)) {a b : am_S} {m k : Nat} {f : FRm} {r : List FRm} {z : (Nat → Int32) → Int32} (h : XB D C n K V P X T l i0 c0 sd N a b m k f r z) (h1m : 1 ≤ m) (h7 : ¬ (K (i0 + m) = 7 ∧ 0 < r.length)) (hF : 400 < i0 + m + nF) (hF1 : 1 ≤ nF) : ∃ b', (exM nF 0 b = some (.inl ((), b')) ∨ exM nF 0 b = some (.inr ((), b'))) ∧ cG c0 l b' b ∧ (FO D P (i0 + m) a b' ∨ XO D C n K V P X T l i0 c0 sd N a b' m) := by
  obtain ⟨h1, h2, h3, h4, h5, h6, hi, hi4, h9⟩ := id h
  have hK := (hT (i0 + m) hi).2
  have i8 := is_M (k := 8) hT h2 hi hi4 (by decide)
  have i9 := is_M (k := 9) hT h2 hi hi4 (by decide)
  have i10 := is_M (k := 10) hT h2 hi hi4 (by decide)
  have hCD : CD K V i0 c0 l b := h.cd hc
  by_cases hop : K (i0 + m) = 8 ∨ K (i0 + m) = 9 ∨ K (i0 + m) = 10
  · -- an operator
    have key : ∀ k, k < 34 → (k = 8 ∨ k = 9 ∨ k = 10) → (k = 8 ∧ cm k = 10) ∨ (k = 9 ∧ cm k = 11) ∨ (k = 10 ∧ cm k = 12) := by decide
    have hgo : goes 2 sd r.length (cm (K (i0 + m))) = true := by
      rcases cm_o _ hK hop with q | q | q <;> rw [q] <;> simp [goes]
    have n17 : cm (K (i0 + m)) ≠ 17 := by rcases cm_o _ hK hop with q | q | q <;> rw [q] <;> decide
    have n18 : cm (K (i0 + m)) ≠ 18 := by rcases cm_o _ hK hop with q | q | q <;> rw [q] <;> decide
    have hq1 : mq 2 (cm (K (i0 + m))) = 1 := by rcases cm_o _ hK hop with q | q | q <;> rw [q] <;> rfl
    have hs1 : ms sd (cm (K (i0 + m))) = sd := by rcases cm_o _ hK hop with q | q | q <;> rw [q] <;> rfl
    have yes : exM nF 0 b = _ := exM_yes (n := nF) (i := i0 + m) (k := K (i0 + m)) hi4 h2.1 (h2.2.2.2.2.2 _ hi).1 (by
      rcases hop with q | q | q
      · rw [decide_eq_true q] at i8
        exact Or.inl ⟨q, i8⟩
      · rw [decide_eq_false (by omega)] at i8
        rw [decide_eq_true q] at i9
        exact Or.inr (Or.inl ⟨q, i8, i9⟩)
      · rw [decide_eq_false (by omega)] at i8 i9
        rw [decide_eq_true q] at i10
        exact Or.inr (Or.inr ⟨q, i8, i9, i10⟩))
    -- what comes out, and the frame that waits then
    obtain ⟨b1, kk, f', rest, g1, g2, g3, g4, g5, g6, g7, g8, g9, g10⟩ : ∃ (b1 : am_S) (kk : Nat) (f' : FRm) (rest : List Int32), f_X12_comesOut b (mc_i (decide (K (i0 + m) = 10))) = some ((), b1) ∧ EI (tkI K) V (b1.1 78) (b1.1 79) i0 (m + 1) c0 kk (f' :: r) ∧ wl (f' :: r) = nI (K (i0 + m)) :: rest ∧ b1.1 58 36 = nI rest.length ∧ b1.1 58 32 = nI (c0 + kk) ∧ pl (b1.1 80) rest ∧ c0 + kk + wn (f' :: r) ≤ 500 * l + (i0 + m) + 1 ∧ rw_on [58, 78, 79] b1 b ∧ (∀ i, i ≠ 32 → i ≠ 36 → b1.1 58 i = b.1 58 i) ∧ ∀ j, j < c0 + k ∨ c0 + k + 2 ≤ j → b1.1 78 j = b.1 78 j ∧ b1.1 79 j = b.1 79 j := by
      rcases key _ hK hop with ⟨q1, q2⟩ | ⟨q1, q2⟩ | ⟨q1, q2⟩
      · obtain ⟨b1, g1, g2, g3, g4, g5, g6, g7, g8⟩ := co_all (rest := wr r) (wr_len r h9) (wr_or r) (by omega) h3 h4 h2.2.2.2.1 h5
        refine ⟨b1, k + opn f, (1, false, fw f z, fun _ => 0), wr r, by rw [q1]; exact g1, g2.plus (Or.inl ⟨by unfold tkI; rw [q2]; rfl, rfl⟩), by rw [q1]; rfl, g3, g4, g5, ?_, g6, g7, g8⟩
        have e1 : wn (f :: r) = opn f + wn r := rfl
        have e2 : wn (((1, false, fw f z, fun _ => 0) : FRm) :: r) = 1 + wn r := rfl
        omega
      · obtain ⟨b1, g1, g2, g3, g4, g5, g6, g7, g8⟩ := co_all (rest := wr r) (wr_len r h9) (wr_or r) (by omega) h3 h4 h2.2.2.2.1 h5
        refine ⟨b1, k + opn f, (2, false, fw f z, fun _ => 0), wr r, by rw [q1]; exact g1, g2.plus (Or.inr ⟨by unfold tkI; rw [q2]; rfl, rfl⟩), by rw [q1]; rfl, g3, g4, g5, ?_, g6, g7, g8⟩
        have e1 : wn (f :: r) = opn f + wn r := rfl
        have e2 : wn (((2, false, fw f z, fun _ => 0) : FRm) :: r) = 1 + wn r := rfl
        omega
      · obtain ⟨b1, g1, g2, g3, g4, g5, g6, g7, g8⟩ := co_one (rest := wr r) (wr_len r h9) (wr_or r) (by omega) h3 h4 h2.2.2.2.1 h5
        refine ⟨b1, k + (fop2 f).length, (f.1, true, f.2.2.1, fz f z), fop1 f ++ wr r, by rw [q1]; exact g1, g2.times (by unfold tkI; rw [q2]; rfl), by rw [q1]; rfl, g3, g4, g5, ?_, g6, g7, g8⟩
        have e1 : wn (f :: r) = opn f + wn r := rfl
        have e2 : wn (((f.1, true, f.2.2.1, fz f z) : FRm) :: r) = (1 + (fop1 f).length) + wn r := rfl
        have e3 : opn f = (fop2 f).length + (fop1 f).length := rfl
        omega
    have rl : rest.length < 47 := by
      have := wl_len (f' :: r)
      rw [g3] at this
      simp at this
      omega
    have d2 : am_in (nI rest.length) 48 = true := rl_nin (by decide) (by omega)
    have d3 : (nI rest.length).toNatClampNeg = rest.length := nI_clamp (by omega)
    have d4 : nI rest.length + 1 = nI (rest.length + 1) := nI_1 _
    generalize hb2 : am_wI (am_wI b1 80 rest.length (nI (K (i0 + m)))) 58 36 (nI (rest.length + 1)) = b2
    have o2 : rw_on [58, 80] b2 b1 := by rw [← hb2]; exact ((rw_on.refl _ _).w (by simp) _ _).w (by simp) _ _
    have f2 : ∀ i, i ≠ 36 → b2.1 58 i = b1.1 58 i := by intro i y; rw [← hb2]; simp [rl_wI, y]
    have G1 : cG c0 l b1 b := ⟨g8.mono (by simp), fun i a1 a2 a3 a4 a5 a6 => g9 i a5 a6, fun j hj => g10 j (by omega)⟩
    have G2 : cG c0 l b2 b := by
      rw [← hb2]
      exact ((cG.f (c := c0) (l := l) (i := 36) (by simp) _).trans (cG.r (c := c0) (l := l) (b := b1) rest.length _) (Nat.le_refl _)).trans G1 (Nat.le_refl _)
    have hM2 : MS K V P T l b2 (i0 + m) r.length (c0 + kk) := by
      obtain ⟨y1, y2, y3, y4, y5, y6⟩ := h2
      refine ⟨?_, ?_, ?_, ?_, ?_, (y6.on g8 (by simp) (by simp) (by simp)).on o2 (by simp) (by simp) (by simp)⟩
      · rw [f2 11 (by decide), g9 11 (by decide) (by decide)]; exact y1
      · rw [f2 12 (by decide), g9 12 (by decide) (by decide)]; exact y2
      · rw [f2 13 (by decide), g9 13 (by decide) (by decide)]; exact y3
      · rw [f2 32 (by decide)]; exact g5
      · rw [f2 19 (by decide), g9 19 (by decide) (by decide)]; exact y5
    have p80 : pl (b2.1 80) (wl (f' :: r)) := by
      rw [g3, ← hb2]
      show pl ((am_wI b1 80 rest.length (nI (K (i0 + m)))).1 80) _
      rw [rl_ws]
      exact ⟨by simp, pl_up rest (Nat.le_refl _) g6⟩
    have p36 : b2.1 58 36 = nI (wl (f' :: r)).length := by rw [g3, ← hb2]; simp [rl_wI]
    have run : exM nF 0 b = am_bd (f_X12_next b2) (fun (_ : Unit) s354 => f_X12_expression_L12 nF 0 1 s354) := by
      rw [yes, bd_some g1, g4, rl_gu d2, d3, d4, hb2]
    by_cases i400 : i0 + m = 400
    · have nx := next_E (by rw [i400] at hM2; exact hM2) (by omega)
      obtain ⟨nF', rfl⟩ : ∃ nF', nF = nF' + 1 := ⟨nF - 1, by omega⟩
      have fo : FO D P (i0 + m) a (am_wI (am_wI b2 58 13 2) 58 14 (nI (P 400))) := fo_room hD hT h1 hi hi4 (by decide) hs h9 hN hgo (Or.inl i400) (by simp [rl_wI]) (by rw [i400]; simp [rl_wI])
      refine ⟨_, Or.inr (by rw [run, bd_some nx]; exact L12_F fo.ne.1), ?_, Or.inl fo⟩
      exact ((cG.f (c := c0) (l := l) (i := 14) (by simp) _).trans (cG.f (c := c0) (l := l) (b := b2) (i := 13) (by simp) 2) (Nat.le_refl _)).trans G2 (Nat.le_refl _)
    · have nx := next_M hM2 (by omega)
      obtain ⟨a1, p1, p2, p3, p4⟩ := pl_go hD hT h1 hi hi4 (by decide) hs h9 hN hgo (by
        rintro (y | ⟨y, -⟩ | ⟨y, -⟩)
        · exact i400 y
        · cases y
        · exact n17 y) (fun y => absurd y n18)
      rw [hq1, hs1, ml_n n17 n18, if_neg (by decide)] at p2
      have p4 : ∀ j, a1.1 (D + 1) j = a.1 (D + 1) j := fun j => by rw [p4 j, if_neg (fun y => by cases y.1)]
      have hi1 := hnx (i0 + m) hi (by omega) (by omega)
      have e6 : (f' :: r).length - 1 = r.length := by simp
      have hX : XI D C n K V P X T l i0 c0 sd N a1 (am_wI b2 58 11 (nI (i0 + m + 1))) (m + 1) kk (f' :: r) := by
        refine ⟨by rw [e6]; exact p2, by rw [e6]; exact hM2.nx (i0 + m + 1), ?_, ?_, p80, by omega, hi1, by omega, by simp, by simp; omega⟩
        · rw [show (am_wI b2 58 11 (nI (i0 + m + 1))).1 78 = b1.1 78 from (o2 78 (by simp)).1, show (am_wI b2 58 11 (nI (i0 + m + 1))).1 79 = b1.1 79 from (o2 79 (by simp)).1]
          exact g2
        · rw [show (am_wI b2 58 11 (nI (i0 + m + 1))).1 58 36 = b2.1 58 36 by simp [rl_wI]]; exact p36
      obtain ⟨b', k1, k2, k3⟩ := ih a1 _ (m + 1) kk (f' :: r) hX (by omega)
      refine ⟨b', ?_, (k2.trans (cG.f (c := c0) (l := l) (b := b2) (i := 11) (by simp) _) (Nat.le_refl _)).trans G2 (Nat.le_refl _), ?_⟩
      · rw [run, bd_some nx]; exact k1
      · rcases k3 with k3 | ⟨a', m', k', f'', z', k4, k5, k6, k7, k8⟩
        · exact Or.inl (k3.tr p1 p3)
        · exact Or.inr ⟨a', m', k', f'', z', p1.trans k4, k5.trans p3, fun j => (k6 j).trans (p4 j), by omega, k8⟩
  · -- no operator
    have n8 : ¬ K (i0 + m) = 8 := fun q => hop (Or.inl q)
    have n9 : ¬ K (i0 + m) = 9 := fun q => hop (Or.inr (Or.inl q))
    have n10 : ¬ K (i0 + m) = 10 := fun q => hop (Or.inr (Or.inr q))
    rw [decide_eq_false n8] at i8
    rw [decide_eq_false n9] at i9
    rw [decide_eq_false n10] at i10
    obtain ⟨u1, u2, u3⟩ := cm_n _ hK n8 n9 n10
    have no := exM_no (n := nF) i8 i9 i10
    rw [h2.2.1] at no
    by_cases hr : 0 < r.length
    · have d1 : (0 : Int32) < nI r.length := nI_lt (a := 0) hr (by omega)
      have n7 : ¬ cm (K (i0 + m)) = 18 := fun q => h7 ⟨(cm_7 _ hK).mp q, hr⟩
      have hgo : goes 2 sd r.length (cm (K (i0 + m))) = false := by
        unfold goes
        rw [if_neg (by decide), if_neg (by decide), if_pos hr]
        simp [u1, u2, u3, n7]
      have fl := fail_M h2 hi hi4 1
      generalize hb1 : am_wI (am_wI b 58 13 1) 58 14 (nI (P (i0 + m))) = b1 at fl
      have o1 : rw_on [58] b1 b := by rw [← hb1]; exact ((rw_on.refl _ _).w (by simp) _ _).w (by simp) _ _
      have f1 : ∀ i, i ≠ 13 → i ≠ 14 → b1.1 58 i = b.1 58 i := by intro i y1 y2; rw [← hb1]; simp [rl_wI, y1, y2]
      have fo : FO D P (i0 + m) a b1 := fo_bad hD hT h1 hi hi4 (by decide) hs h9 (fun q => by cases q.1) hgo (by rw [← hb1]; simp [rl_wI]) (by rw [← hb1]; simp [rl_wI])
      have cd1 : CD K V i0 c0 l b1 := by
        obtain ⟨mm, kx, ff, rr, zz, y1, y2, y3, y4, y5⟩ := hCD
        exact ⟨mm, kx, ff, rr, zz, y1.cd (o1 78 (by simp)).1 (o1 79 (by simp)).1, by rw [f1 36 (by decide) (by decide)]; exact y2, by rw [f1 32 (by decide) (by decide)]; exact y3, by rw [(o1 80 (by simp)).1]; exact y4, y5⟩
      obtain ⟨b2, g1, g2, g3, g4⟩ := cd1.co hl
      refine ⟨b2, Or.inl (by rw [no, if_pos d1, bd_some fl, bd_some g1]), g2.trans ?_ (Nat.le_refl _), Or.inl (fo.on g3 g4)⟩
      rw [← hb1]
      exact (cG.f (c := c0) (l := l) (i := 14) (by simp) _).trans (cG.f (c := c0) (l := l) (b := b) (i := 13) (by simp) 1) (Nat.le_refl _)
    · have er : r = [] := by
        cases r with
        | nil => rfl
        | cons x y => simp at hr
      subst er
      have d1 : ¬ (0 : Int32) < nI ([] : List FRm).length := by decide
      obtain ⟨b1, g1, g2, g3, g4, g5, g6, g7, g8⟩ := co_all (rest := wr []) (by decide) (Or.inl rfl) (by omega) h3 h4 h2.2.2.2.1 h5
      refine ⟨b1, Or.inl (by rw [no, if_neg d1, bd_some g1]), ⟨g6.mono (by simp), fun i a1 a2 a3 a4 a5 a6 => g7 i a5 a6, fun j hj => g8 j (by omega)⟩, Or.inr ⟨a, m, k + opn f, f, z, rfl, rw_on.refl _ _, fun _ => rfl, Nat.le_refl _, h1m, h1, ?_, g2, ?_, hi, hi4, n8, n9, n10⟩⟩
      · obtain ⟨y1, y2, y3, y4, y5, y6⟩ := h2
        exact ⟨by rw [g7 11 (by decide) (by decide)]; exact y1, by rw [g7 12 (by decide) (by decide)]; exact y2, by rw [g7 13 (by decide) (by decide)]; exact y3, g4, by rw [g7 19 (by decide) (by decide)]; exact y5, y6.on g6 (by simp) (by simp) (by simp)⟩
      · have e1 : wn (f :: []) = opn f + 0 := rfl
        omega
theorem ex_loop (hD : D = 5 ∨ D = 11) (hT : TT C n T K V P X) (hnx : ∀ s, s < T → K s ≠ 0 → s < 400 → s + 1 < T) (hl : l < 2) (hs : sd < 3) (hN : N ≤ 20) (hc : 500 * l ≤ c0) : ∀ (nF : Nat) (a b : am_S) (m k : Nat) (F : List FRm), XI D C n K V P X T l i0 c0 sd N a b m k F → 401 < i0 + m + nF → ∃ b', (f_X12_expression_L12 nF 0 1 b = some (.inl ((), b')) ∨ f_X12_expression_L12 nF 0 1 b = some (.inr ((), b'))) ∧ cG c0 l b' b ∧ (FO D P (i0 + m) a b' ∨ XO D C n K V P X T l i0 c0 sd N a b' m) := by
  intro nF
  induction nF with
  | zero => intro a b m k F h h0; have := h.2.2.2.2.2.2.2.1; omega
  | succ nF ih =>
    intro a b m k F h h0
    obtain ⟨h1, h2, h3, h4, h5, h6, hi, hi4, hF1, hF7⟩ := id h
    have hK := (hT (i0 + m) hi).2
    have hL6 : F.length - 1 ≤ 6 := by omega
    by_cases q6 : K (i0 + m) = 6
    · obtain ⟨op1, op2⟩ := L12_open (nF := nF) hT h2 hi hi4 q6 hL6
      have hgo : goes 1 sd (F.length - 1) (cm (K (i0 + m))) = true := by rw [q6]; rfl
      by_cases qL : F.length - 1 = 6
      · have fo : FO D P (i0 + m) a (am_wI (am_wI b 58 13 2) 58 14 (nI (P (i0 + m)))) := fo_room hD hT h1 hi hi4 (by decide) hs hL6 hN hgo (Or.inr (Or.inr ⟨by rw [q6]; rfl, qL⟩)) (by simp [rl_wI]) (by simp [rl_wI])
        exact ⟨_, Or.inl (op1 qL), (cG.f (c := c0) (l := l) (i := 14) (by simp) _).trans (cG.f (c := c0) (l := l) (b := b) (i := 13) (by simp) 2) (Nat.le_refl _), Or.inl fo⟩
      · have op2 := op2 (by omega)
        have eL : F.length - 1 + 1 = F.length := by omega
        rw [eL] at op2
        have rl : (wl F).length < 47 := by have := wl_len F; omega
        have d2 : am_in (nI (wl F).length) 48 = true := rl_nin (by decide) (by omega)
        have d3 : (nI (wl F).length).toNatClampNeg = (wl F).length := nI_clamp (by omega)
        have d4 : nI (wl F).length + 1 = nI ((wl F).length + 1) := nI_1 _
        have hM1 : MS K V P T l (am_wI b 58 12 (nI F.length)) (i0 + m) F.length (c0 + k) := by
          obtain ⟨y1, y2, y3, y4, y5, y6⟩ := h2
          exact ⟨by simp [rl_wI]; exact y1, by simp [rl_wI], by simp [rl_wI]; exact y3, by simp [rl_wI]; exact y4, by simp [rl_wI]; exact y5, y6⟩
        have G1 : cG c0 l (am_wI b 58 12 (nI F.length)) b := cG.f (by simp) _
        by_cases i400 : i0 + m = 400
        · have nx := next_E (by rw [i400] at hM1; exact hM1) (by omega)
          obtain ⟨nF', rfl⟩ : ∃ nF', nF = nF' + 1 := ⟨nF - 1, by omega⟩
          generalize hb2 : am_wI (am_wI (am_wI b 58 12 (nI F.length)) 58 13 2) 58 14 (nI (P 400)) = b2 at nx
          have f2 : ∀ i, i ≠ 13 → i ≠ 14 → i ≠ 12 → b2.1 58 i = b.1 58 i := by intro i y1 y2 y3; rw [← hb2]; simp [rl_wI, y1, y2, y3]
          have e36 : b2.1 58 36 = nI (wl F).length := by rw [f2 36 (by decide) (by decide) (by decide)]; exact h4
          have fo : FO D P (i0 + m) a (am_wI (am_wI b2 80 (wl F).length 6) 58 36 (nI ((wl F).length + 1))) := fo_room hD hT h1 hi hi4 (by decide) hs hL6 hN hgo (Or.inl i400) (by rw [← hb2]; simp [rl_wI]) (by rw [← hb2, i400]; simp [rl_wI])
          refine ⟨_, Or.inr (by rw [op2, bd_some nx, e36, rl_gu d2, d3, d4]; exact L12_F fo.ne.1), ?_, Or.inl fo⟩
          refine ((cG.f (c := c0) (l := l) (i := 36) (by simp) _).trans (cG.r (c := c0) (l := l) (b := b2) _ _) (Nat.le_refl _)).trans ?_ (Nat.le_refl _)
          rw [← hb2]
          exact ((cG.f (c := c0) (l := l) (i := 14) (by simp) _).trans (cG.f (c := c0) (l := l) (i := 13) (by simp) 2) (Nat.le_refl _)).trans G1 (Nat.le_refl _)
        · have nx := next_M hM1 (by omega)
          obtain ⟨a1, p1, p2, p3, p4⟩ := pl_go hD hT h1 hi hi4 (by decide) hs hL6 hN hgo (by
            rintro (y | ⟨y, -⟩ | ⟨-, y⟩)
            · exact i400 y
            · cases y
            · exact qL y) (fun y => by rw [q6] at y; cases y)
          rw [q6] at p2
          have p2 : PS D C n K V X a1 (i0 + (m + 1)) 1 sd (F.length - 1 + 1) N := p2
          have p4 : ∀ j, a1.1 (D + 1) j = a.1 (D + 1) j := fun j => by rw [p4 j, if_neg (fun y => by cases y.1)]
          have hi1 := hnx (i0 + m) hi (by rw [q6]; decide) (by omega)
          generalize hb2 : am_wI (am_wI b 58 12 (nI F.length)) 58 11 (nI (i0 + m + 1)) = b2 at nx
          have hM2 : MS K V P T l b2 (i0 + m + 1) F.length (c0 + k) := by rw [← hb2]; exact hM1.nx _
          have e36 : b2.1 58 36 = nI (wl F).length := by rw [← hb2]; simp [rl_wI]; exact h4
          have o2 : rw_on [58] b2 b := by rw [← hb2]; exact ((rw_on.refl _ _).w (by simp) _ _).w (by simp) _ _
          generalize hb3 : am_wI (am_wI b2 80 (wl F).length 6) 58 36 (nI ((wl F).length + 1)) = b3
          have o3 : rw_on [58, 80] b3 b2 := by rw [← hb3]; exact ((rw_on.refl _ _).w (by simp) _ _).w (by simp) _ _
          have f3 : ∀ i, i ≠ 36 → b3.1 58 i = b2.1 58 i := by intro i y; rw [← hb3]; simp [rl_wI, y]
          have ewl : wl (((0, false, fun _ => 0, fun _ => 0) : FRm) :: F) = 6 :: wl F := by
            rw [wl_c]
            show wr F = _
            unfold wr
            rw [if_neg (by omega)]
          have hX : XI D C n K V P X T l i0 c0 sd N a1 b3 (m + 1) k ((0, false, fun _ => 0, fun _ => 0) :: F) := by
            refine ⟨?_, ?_, ?_, ?_, ?_, ?_, hi1, by omega, by simp, by simp; omega⟩
            · rw [eL] at p2
              exact p2
            · obtain ⟨y1, y2, y3, y4, y5, y6⟩ := hM2
              exact ⟨by rw [f3 11 (by decide)]; exact y1, by rw [f3 12 (by decide)]; exact y2, by rw [f3 13 (by decide)]; exact y3, by rw [f3 32 (by decide)]; exact y4, by rw [f3 19 (by decide)]; exact y5, y6.on o3 (by simp) (by simp) (by simp)⟩
            · rw [(o3 78 (by simp)).1, (o3 79 (by simp)).1, (o2 78 (by simp)).1, (o2 79 (by simp)).1]
              exact h3.op (by unfold tkI; rw [q6]; rfl) (by omega)
            · rw [ewl, ← hb3]; simp [rl_wI]
            · rw [ewl, ← hb3]
              show pl ((am_wI b2 80 (wl F).length 6).1 80) _
              rw [rl_ws]
              exact ⟨by simp, pl_up (wl F) (Nat.le_refl _) (by rw [(o2 80 (by simp)).1]; exact h5)⟩
            · have : wn (((0, false, fun _ => 0, fun _ => 0) : FRm) :: F) = 0 + wn F := rfl
              omega
          obtain ⟨b', k1, k2, k3⟩ := ih a1 b3 (m + 1) k _ hX (by omega)
          refine ⟨b', ?_, k2.trans (?_ : cG c0 l b3 b) (Nat.le_refl _), ?_⟩
          · rw [op2, bd_some nx, e36, rl_gu d2, d3, d4, hb3]; exact k1
          · rw [← hb3]
            refine ((cG.f (c := c0) (l := l) (i := 36) (by simp) _).trans (cG.r (c := c0) (l := l) (b := b2) _ _) (Nat.le_refl _)).trans ?_ (Nat.le_refl _)
            rw [← hb2]
            exact (cG.f (c := c0) (l := l) (i := 11) (by simp) _).trans G1 (Nat.le_refl _)
          · rcases k3 with k3 | ⟨a', m', k', f'', z', k4, k5, k6, k7, k8⟩
            · exact Or.inl (k3.tr p1 p3)
            · exact Or.inr ⟨a', m', k', f'', z', p1.trans k4, k5.trans p3, fun j => (k6 j).trans (p4 j), by omega, k8⟩
    · by_cases qU : K (i0 + m) = 2 ∨ 26 ≤ K (i0 + m)
      · -- a unit
        obtain ⟨v1, v2, v3, v4, v5⟩ := cm_u _ hK qU
        have hgo : goes 1 sd (F.length - 1) (cm (K (i0 + m))) = true := by rw [goes1]; exact v1
        have lu := L12_unit (nF := nF) hT h2 hi hi4 qU
        obtain ⟨b1, e1, e2, e3, e4, e5, e6⟩ := em_M (b := b) (c := c0 + k) (by omega) h2.2.2.2.1 (if K (i0 + m) = 2 then 0 else 1) (if K (i0 + m) = 2 then V (i0 + m) else nI (K (i0 + m) - 26))
        match F, hF1 with
        | f :: r, _ =>
        have eL : (f :: r).length - 1 = r.length := by simp
        rw [eL] at h1 h2 hL6 hgo
        have hz : ∃ z : (Nat → Int32) → Int32, (∀ v, c_fac (tkI K (i0 + m)) (V (i0 + m)) v = z v) ∧ (∀ v st, okM (if K (i0 + m) = 2 then 0 else 1) (if K (i0 + m) = 2 then V (i0 + m) else nI (K (i0 + m) - 26)) st ∧ m_step v (if K (i0 + m) = 2 then 0 else 1) (if K (i0 + m) = 2 then V (i0 + m) else nI (K (i0 + m) - 26)) st = z v :: st) ∧ isU (tkI K (i0 + m)) := by
          rcases cu_U _ hK qU with ⟨w1, w2⟩ | ⟨w1, w2⟩
          · refine ⟨fun _ => V (i0 + m), fun v => ?_, fun v st => ?_, ?_⟩
            · unfold tkI c_fac; rw [w1, if_pos (show nI 2 = 2 from rfl)]
            · rw [if_pos w2, if_pos w2]; exact ⟨Or.inl rfl, m_step0 _ _ _⟩
            · unfold tkI; rw [w1]; exact Or.inl rfl
          · have n2 : ¬ K (i0 + m) = 2 := by omega
            refine ⟨fun v => v (K (i0 + m) - 26), fun v => ?_, fun v st => ?_, ?_⟩
            · have y2 : ¬ nI (19 + (K (i0 + m) - 26)) = 2 := nI_ne (m := 2) (by omega) (by decide) (by omega)
              unfold tkI c_fac
              rw [w1, if_neg y2, i_m19' _ (by omega)]
            · rw [if_neg n2, if_neg n2]
              refine ⟨Or.inr (Or.inl ⟨rfl, _, by omega, rfl⟩), ?_⟩
              rw [m_step1, nI_clamp (by omega)]
            · unfold tkI; rw [w1]; exact Or.inr ⟨_, by omega, rfl⟩
        obtain ⟨z, z1, z2, z3⟩ := hz
        have ex := emit_x (cd' := b1.1 78) (ci' := b1.1 79) h3.2.2.1 (fun j hj => by rw [e4, e5, if_neg hj, if_neg hj]; exact ⟨rfl, rfl⟩) (by rw [e4, if_pos rfl]) (by rw [e5, if_pos rfl]) (fun v => (z2 v _).1)
        have hE1 : EB (tkI K) V (b1.1 78) (b1.1 79) i0 (m + 1) c0 (k + 1) f r z (fun v => z v :: stk (f :: r) v) := h3.unit z3 ex.1 z1 (fun v => by rw [ex.2 v]; exact (z2 v _).2)
        have hM1 : MS K V P T l b1 (i0 + m) r.length (c0 + (k + 1)) := by
          obtain ⟨y1, y2, y3, y4, y5, y6⟩ := h2
          exact ⟨by rw [e3 11 (by decide)]; exact y1, by rw [e3 12 (by decide)]; exact y2, by rw [e3 13 (by decide)]; exact y3, e2, by rw [e3 19 (by decide)]; exact y5, y6.on e6 (by simp) (by simp) (by simp)⟩
        have G1 : cG c0 l b1 b := ⟨e6.mono (by simp), fun i a1 a2 a3 a4 a5 a6 => e3 i a5, fun j hj => by rw [e4, e5, if_neg (by omega), if_neg (by omega)]; exact ⟨rfl, rfl⟩⟩
        by_cases i400 : i0 + m = 400
        · have nx := next_E (by rw [i400] at hM1; exact hM1) (by omega)
          generalize hb2 : am_wI (am_wI b1 58 13 2) 58 14 (nI (P 400)) = b2 at nx
          have o2 : rw_on [58] b2 b1 := by rw [← hb2]; exact ((rw_on.refl _ _).w (by simp) _ _).w (by simp) _ _
          have f2 : ∀ i, i ≠ 13 → i ≠ 14 → b2.1 58 i = b1.1 58 i := by intro i y1 y2; rw [← hb2]; simp [rl_wI, y1, y2]
          have fo : FO D P (i0 + m) a b2 := fo_room hD hT h1 hi hi4 (by decide) hs hL6 hN hgo (Or.inl i400) (by rw [← hb2]; simp [rl_wI]) (by rw [← hb2, i400]; simp [rl_wI])
          have hCD : CD K V i0 c0 l b2 := ⟨m + 1, k + 1, f, r, z, hE1.cd (o2 78 (by simp)).1 (o2 79 (by simp)).1, by rw [f2 36 (by decide) (by decide), e3 36 (by decide)]; exact h4, by rw [f2 32 (by decide) (by decide)]; exact e2, by rw [(o2 80 (by simp)).1, (e6 80 (by simp)).1]; exact h5, by omega, by simp at hF7; omega⟩
          obtain ⟨b3, -, g2, g3, g4, g5⟩ := exT_F (n := nF) hl fo.ne hCD
          refine ⟨b3, Or.inl (by rw [lu, bd_some e1, bd_some nx]; exact g2), g3.trans ?_ (Nat.le_refl _), Or.inl (fo.on g4 g5)⟩
          rw [← hb2]
          exact ((cG.f (c := c0) (l := l) (i := 14) (by simp) _).trans (cG.f (c := c0) (l := l) (b := b1) (i := 13) (by simp) 2) (Nat.le_refl _)).trans G1 (Nat.le_refl _)
        · have nx := next_M hM1 (by omega)
          obtain ⟨a1, p1, p2, p3, p4⟩ := pl_go hD hT h1 hi hi4 (by decide) hs hL6 hN hgo (by
            rintro (y | ⟨y, -⟩ | ⟨y, -⟩)
            · exact i400 y
            · cases y
            · exact v2 y) (fun y => absurd y v3)
          rw [v4 1 (by decide), v5 sd hs, ml_n v2 v3, if_neg (by decide)] at p2
          have p4 : ∀ j, a1.1 (D + 1) j = a.1 (D + 1) j := fun j => by rw [p4 j, if_neg (fun y => by cases y.1)]
          have hi1 := hnx (i0 + m) hi (by omega) (by omega)
          have hX : XB D C n K V P X T l i0 c0 sd N a1 (am_wI b1 58 11 (nI (i0 + m + 1))) (m + 1) (k + 1) f r z := by
            refine ⟨p2, hM1.nx (i0 + m + 1), hE1, ?_, ?_, by omega, hi1, by omega, by simp at hF7; omega⟩
            · rw [show (am_wI b1 58 11 (nI (i0 + m + 1))).1 58 36 = b1.1 58 36 by simp [rl_wI], e3 36 (by decide)]; exact h4
            · show pl (b1.1 80) _
              rw [(e6 80 (by simp)).1]; exact h5
          have G2 : cG c0 l (am_wI b1 58 11 (nI (i0 + m + 1))) b := (cG.f (c := c0) (l := l) (b := b1) (i := 11) (by simp) _).trans G1 (Nat.le_refl _)
          obtain ⟨b2, k1, k2, k3⟩ := cl_loop hD hT hnx hl hs hN hc r am_FU f z a1 _ (m + 1) (k + 1) hX (by simp at hF7; unfold am_FU; omega)
          have run : f_X12_expression_L12 (nF + 1) 0 1 b = exM nF 0 b2 := by
            rw [lu, bd_some e1, bd_some nx]
            unfold exT
            rw [lp_r k1]
          rcases k3 with ⟨k4, k5⟩ | ⟨a2, m2, k2', f2, r2, z2', k4, k5, k6, k7, k8, k9⟩
          · obtain ⟨b3, g1, -, g3, g4, g5⟩ := exT_F (n := nF) hl k4.ne k5
            exact ⟨b3, Or.inl (by rw [run]; exact g1), (g3.trans k2 (Nat.le_refl _)).trans G2 (Nat.le_refl _), Or.inl ((k4.on g4 g5).tr p1 p3)⟩
          · obtain ⟨b3, g1, g2, g3⟩ := ex_mid hD hT hnx hl hs hN hc ih k8 (by omega) k9 (by omega) (by omega)
            refine ⟨b3, by rw [run]; exact g1, (g2.trans k2 (Nat.le_refl _)).trans G2 (Nat.le_refl _), ?_⟩
            rcases g3 with g3 | ⟨a', m', k', f'', z', j4, j5, j6, j7, j8⟩
            · exact Or.inl ((g3.tr k4 k5).tr p1 p3)
            · exact Or.inr ⟨a', m', k', f'', z', (p1.trans k4).trans j4, (j5.trans k5).trans p3, fun j => ((j6 j).trans (k6 j)).trans (p4 j), by omega, j8⟩
      · -- neither
        have u2 : K (i0 + m) ≠ 2 := fun q => qU (Or.inl q)
        have u26 : K (i0 + m) < 26 := by omega
        have hgo : goes 1 sd (F.length - 1) (cm (K (i0 + m))) = false := by rw [goes1]; exact cm_bad1 _ u26 u2 q6
        have fo : FO D P (i0 + m) a (am_wI (am_wI b 58 13 1) 58 14 (nI (P (i0 + m)))) := fo_bad hD hT h1 hi hi4 (by decide) hs hL6 (fun q => by cases q.1) hgo (by simp [rl_wI]) (by simp [rl_wI])
        exact ⟨_, Or.inl (L12_bad hT h2 hi hi4 u2 q6 u26), (cG.f (c := c0) (l := l) (i := 14) (by simp) _).trans (cG.f (c := c0) (l := l) (b := b) (i := 13) (by simp) 1) (Nat.le_refl _), Or.inl fo⟩
theorem ex_all (hD : D = 5 ∨ D = 11) (hT : TT C n T K V P X) (hnx : ∀ s, s < T → K s ≠ 0 → s < 400 → s + 1 < T) (hl : l < 2) (hs : sd < 3) (hN : N ≤ 20) (hc : 500 * l ≤ c0) {a b : am_S} (h1 : PS D C n K V X a i0 1 sd 0 N) (h2 : MS K V P T l b i0 0 c0) (hb : c0 ≤ 500 * l + i0) (hi : i0 < T) (hi4 : i0 ≤ 400) : ∃ b', f_X12_expression b = some ((), b') ∧ cG c0 l b' b ∧ (FO D P i0 a b' ∨ XO D C n K V P X T l i0 c0 sd N a b' 0) := by
  have hX : XI D C n K V P X T l i0 c0 sd N a (am_wI b 58 36 0) 0 0 [(0, false, fun _ => 0, fun _ => 0)] := by
    refine ⟨h1, ?_, EI.start, by simp [rl_wI]; rfl, trivial, by show c0 + 0 + 0 ≤ _; omega, hi, hi4, by simp, by simp⟩
    obtain ⟨y1, y2, y3, y4, y5, y6⟩ := h2
    exact ⟨by simp [rl_wI]; exact y1, by simp [rl_wI]; exact y2, by simp [rl_wI]; exact y3, by simp [rl_wI]; exact y4, by simp [rl_wI]; exact y5, y6⟩
  obtain ⟨b', g1, g2, g3⟩ := ex_loop hD hT hnx hl hs hN hc am_FU a _ 0 0 _ hX (by unfold am_FU; omega)
  refine ⟨b', ?_, g2.trans (cG.f (c := c0) (l := l) (b := b) (i := 36) (by simp) 0) (Nat.le_refl _), g3⟩
  have e12 : b.1 58 12 = 0 := h2.2.1
  rcases g1 with g1 | g1
  · rw [f_X12_expression, e12, lp_l g1]
  · rw [f_X12_expression, e12, lp_r g1]
theorem ex_F {b : am_S} (h : ¬ b.1 58 13 = 0) : f_X12_expression b = some ((), am_wI b 58 36 0) := by
  have h' : ¬ (am_wI b 58 36 0).1 58 13 = 0 := by simp [rl_wI]; exact h
  rw [f_X12_expression]
  have : f_X12_expression_L12 am_FU (b.1 58 12) 1 (am_wI b 58 36 0) = some (.inr ((), am_wI b 58 36 0)) := by
    rw [show am_FU = 4999 + 1 from rfl, f_X12_expression_L12, if_neg (by decide), if_neg h']
  rw [lp_r this]
end EXD
