/-! ===== an expression is read on both sides: brackets that close ===== -/
def XB (D : Nat) (C : Nat → Nat) (n : Nat) (K : Nat → Nat) (V : Nat → Int32) (P X : Nat → Nat) (T l i0 c0 sd N : Nat) (a b : am_S) (m k : Nat) (f : FRm) (r : List FRm) (z : (Nat → Int32) → Int32) : Prop := PS D C n K V X a (i0 + m) 2 sd r.length N ∧ MS K V P T l b (i0 + m) r.length (c0 + k) ∧ EB (tkI K) V (b.1 78) (b.1 79) i0 m c0 k f r z (fun v => z v :: stk (f :: r) v) ∧ b.1 58 36 = nI (wl (f :: r)).length ∧ pl (b.1 80) (wl (f :: r)) ∧ c0 + k + wn (f :: r) ≤ 500 * l + (i0 + m) ∧ i0 + m < T ∧ i0 + m ≤ 400 ∧ r.length ≤ 6
def XI (D : Nat) (C : Nat → Nat) (n : Nat) (K : Nat → Nat) (V : Nat → Int32) (P X : Nat → Nat) (T l i0 c0 sd N : Nat) (a b : am_S) (m k : Nat) (F : List FRm) : Prop := PS D C n K V X a (i0 + m) 1 sd (F.length - 1) N ∧ MS K V P T l b (i0 + m) (F.length - 1) (c0 + k) ∧ EI (tkI K) V (b.1 78) (b.1 79) i0 m c0 k F ∧ b.1 58 36 = nI (wl F).length ∧ pl (b.1 80) (wl F) ∧ c0 + k + wn F ≤ 500 * l + (i0 + m) ∧ i0 + m < T ∧ i0 + m ≤ 400 ∧ 1 ≤ F.length ∧ F.length ≤ 7
/-- an expression that has been read -/
def XO (D : Nat) (C : Nat → Nat) (n : Nat) (K : Nat → Nat) (V : Nat → Int32) (P X : Nat → Nat) (T l i0 c0 sd N : Nat) (a0 b' : am_S) (m0 : Nat) : Prop := ∃ (a' : am_S) (m k : Nat) (f : FRm) (z : (Nat → Int32) → Int32), PLc D (i0 + m0) a0 = PLc D (i0 + m) a' ∧ cA D a' a0 ∧ (∀ j, a'.1 (D + 1) j = a0.1 (D + 1) j) ∧ m0 ≤ m ∧ 1 ≤ m ∧ PS D C n K V X a' (i0 + m) 2 sd 0 N ∧ MS K V P T l b' (i0 + m) 0 (c0 + k) ∧ EB (tkI K) V (b'.1 78) (b'.1 79) i0 m c0 k f [] z (fun v => fw f z v :: stk [] v) ∧ c0 + k ≤ 500 * l + (i0 + m) ∧ i0 + m < T ∧ i0 + m ≤ 400 ∧ K (i0 + m) ≠ 8 ∧ K (i0 + m) ≠ 9 ∧ K (i0 + m) ≠ 10
section EXB
variable {C : Nat → Nat} {n : Nat} {K : Nat → Nat} {V : Nat → Int32} {P X : Nat → Nat} {D T l i0 c0 sd N : Nat}
theorem XB.cd (hc : 500 * l ≤ c0) {a b : am_S} {m k : Nat} {f : FRm} {r : List FRm} {z : (Nat → Int32) → Int32} (h : XB D C n K V P X T l i0 c0 sd N a b m k f r z) : CD K V i0 c0 l b := by
  obtain ⟨h1, h2, h3, h4, h5, h6, h7, h8, h9⟩ := h
  exact ⟨m, k, f, r, z, h3, h4, h2.2.2.2.1, h5, by omega, h9⟩
theorem cl_loop (hD : D = 5 ∨ D = 11) (hT : TT C n T K V P X) (hnx : ∀ s, s < T → K s ≠ 0 → s < 400 → s + 1 < T) (hl : l < 2) (hs : sd < 3) (hN : N ≤ 20) (hc : 500 * l ≤ c0) : ∀ (r : List FRm) (F : Nat) (f : FRm) (z : (Nat → Int32) → Int32) (a b : am_S) (m k : Nat), XB D C n K V P X T l i0 c0 sd N a b m k f r z → r.length < F → ∃ b', f_X12_expression_L200 F 0 b = some (.inr ((), b')) ∧ cG c0 l b' b ∧ ((FO D P (i0 + m) a b' ∧ CD K V i0 c0 l b') ∨ (∃ (a' : am_S) (m' k' : Nat) (f' : FRm) (r' : List FRm) (z' : (Nat → Int32) → Int32), PLc D (i0 + m) a = PLc D (i0 + m') a' ∧ cA D a' a ∧ (∀ j, a'.1 (D + 1) j = a.1 (D + 1) j) ∧ m ≤ m' ∧ XB D C n K V P X T l i0 c0 sd N a' b' m' k' f' r' z' ∧ ¬ (K (i0 + m') = 7 ∧ 0 < r'.length))) := by
  intro r
  induction r with
  | nil =>
    intro F f z a b m k h hF
    obtain ⟨F', rfl⟩ : ∃ F', F = F' + 1 := ⟨F - 1, by omega⟩
    obtain ⟨h1, h2, h3, h4, h5, h6, h7, h8, h9⟩ := id h
    have i7 := is_M (k := 7) hT h2 h7 h8 (by decide)
    have out : f_X12_expression_L200 (F' + 1) 0 b = some (.inr ((), b)) := by
      rw [f_X12_expression_L200, show (7 : Int32) = nI 7 from rfl, bd_some i7]
      cases decide (K (i0 + m) = 7)
      · rw [show mc_i false = 0 from rfl, if_pos rfl]
      · rw [show mc_i true = 1 from rfl, if_neg (by decide), h2.2.1, if_neg (by decide)]
    exact ⟨b, out, cG.refl _ _ _, Or.inr ⟨a, m, k, f, [], z, rfl, rw_on.refl _ _, fun _ => rfl, Nat.le_refl _, h, fun q => absurd q.2 (by decide)⟩⟩
  | cons g r ih =>
    intro F f z a b m k h hF
    obtain ⟨F', rfl⟩ : ∃ F', F = F' + 1 := ⟨F - 1, by omega⟩
    obtain ⟨h1, h2, h3, h4, h5, h6, h7, h8, h9⟩ := id h
    have i7 := is_M (k := 7) hT h2 h7 h8 (by decide)
    by_cases q7 : K (i0 + m) = 7
    · rw [decide_eq_true q7] at i7
      have op1 : (0 : Int32) < nI (g :: r).length := nI_lt (a := 0) (by simp) (by omega)
      obtain ⟨b1, g1, g2, g3, g4, g5, g6, g7, g8⟩ := co_all (rest := wr (g :: r)) (wr_len (g :: r) h9) (wr_or (g :: r)) (by omega) h3 h4 h2.2.2.2.1 h5
      have ew : wr (g :: r) = 6 :: wl (g :: r) := rfl
      rw [ew] at g3 g5
      have e36 : b1.1 58 36 - 1 = nI (wl (g :: r)).length := by rw [g3]; exact nI_pred _
      have e12 : b1.1 58 12 - 1 = nI r.length := by rw [g7 12 (by decide) (by decide), h2.2.1]; exact nI_pred _
      generalize hb2 : am_wI (am_wI b1 58 36 (nI (wl (g :: r)).length)) 58 12 (nI r.length) = b2
      have o2 : rw_on [58] b2 b1 := by rw [← hb2]; exact ((rw_on.refl _ _).w (by simp) _ _).w (by simp) _ _
      have f2 : ∀ i, i ≠ 36 → i ≠ 12 → b2.1 58 i = b1.1 58 i := by intro i y1 y2; rw [← hb2]; simp [rl_wI, y1, y2]
      have G1 : cG c0 l b1 b := ⟨g6.mono (by simp), fun i a1 a2 a3 a4 a5 a6 => g7 i a5 a6, fun j hj => g8 j (by omega)⟩
      have G2 : cG c0 l b2 b := by
        rw [← hb2]
        exact ((cG.f (c := c0) (l := l) (i := 12) (by simp) (nI r.length)).trans (cG.f (c := c0) (l := l) (b := b1) (i := 36) (by simp) (nI (wl (g :: r)).length)) (Nat.le_refl _)).trans G1 (Nat.le_refl _)
      have hM2 : MS K V P T l b2 (i0 + m) r.length (c0 + (k + opn f)) := by
        obtain ⟨y1, y2, y3, y4, y5, y6⟩ := h2
        refine ⟨?_, by rw [← hb2]; simp [rl_wI], ?_, ?_, ?_, (y6.on g6 (by simp) (by simp) (by simp)).on o2 (by simp) (by simp) (by simp)⟩
        · rw [f2 11 (by decide) (by decide), g7 11 (by decide) (by decide)]; exact y1
        · rw [f2 13 (by decide) (by decide), g7 13 (by decide) (by decide)]; exact y3
        · rw [f2 32 (by decide) (by decide)]; exact g4
        · rw [f2 19 (by decide) (by decide), g7 19 (by decide) (by decide)]; exact y5
      have t18 : tkI K (i0 + m) = 18 := by unfold tkI; rw [q7]; rfl
      have hE2 : EB (tkI K) V (b2.1 78) (b2.1 79) i0 (m + 1) c0 (k + opn f) g r (fw f z) (fun v => fw f z v :: stk (g :: r) v) := (g2.cd (o2 78 (by simp)).1 (o2 79 (by simp)).1).close t18
      have p36 : b2.1 58 36 = nI (wl (g :: r)).length := by rw [← hb2]; simp [rl_wI]
      have p80 : pl (b2.1 80) (wl (g :: r)) := by rw [(o2 80 (by simp)).1]; exact g5.2
      have bud : c0 + (k + opn f) + wn (g :: r) ≤ 500 * l + (i0 + m) := by
        have : wn (f :: g :: r) = opn f + wn (g :: r) := rfl
        omega
      have hgo : goes 2 sd (g :: r).length (cm (K (i0 + m))) = true := by rw [q7]; simp [goes, cm]
      have pre : f_X12_expression_L200 (F' + 1) 0 b = am_bd (f_X12_next b2) (fun (_ : Unit) s243 => f_X12_expression_L200 F' 0 s243) := by
        rw [f_X12_expression_L200, show (7 : Int32) = nI 7 from rfl, bd_some i7, show mc_i true = 1 from rfl, if_neg (by decide), h2.2.1, if_pos op1, bd_some g1, e36]
        have e12' : (am_wI b1 58 36 (nI (wl (g :: r)).length)).1 58 12 = b1.1 58 12 := by simp [rl_wI]
        rw [e12, hb2]
      by_cases i400 : i0 + m = 400
      · have nx := next_E (by rw [i400] at hM2; exact hM2) (by omega)
        generalize hb3 : am_wI (am_wI b2 58 13 2) 58 14 (nI (P 400)) = b3 at nx
        have o3 : rw_on [58] b3 b2 := by rw [← hb3]; exact ((rw_on.refl _ _).w (by simp) _ _).w (by simp) _ _
        have f3 : ∀ i, i ≠ 13 → i ≠ 14 → b3.1 58 i = b2.1 58 i := by intro i y1 y2; rw [← hb3]; simp [rl_wI, y1, y2]
        have fo : FO D P (i0 + m) a b3 := fo_room hD hT h1 h7 h8 (by decide) hs h9 hN hgo (Or.inl i400) (by rw [← hb3]; simp [rl_wI]) (by rw [← hb3, i400]; simp [rl_wI])
        have G3 : cG c0 l b3 b := by
          rw [← hb3]
          exact ((cG.f (c := c0) (l := l) (i := 14) (by simp) (nI (P 400))).trans (cG.f (c := c0) (l := l) (b := b2) (i := 13) (by simp) 2) (Nat.le_refl _)).trans G2 (Nat.le_refl _)
        obtain ⟨F'', rfl⟩ : ∃ F'', F' = F'' + 1 := ⟨F' - 1, by simp at hF; omega⟩
        refine ⟨b3, ?_, G3, Or.inl ⟨fo, ⟨m + 1, k + opn f, g, r, fw f z, hE2.cd (o3 78 (by simp)).1 (o3 79 (by simp)).1, by rw [f3 36 (by decide) (by decide)]; exact p36, by rw [f3 32 (by decide) (by decide)]; exact hM2.2.2.2.1, by rw [(o3 80 (by simp)).1]; exact p80, by omega, by simp at h9; omega⟩⟩⟩
        rw [pre, bd_some nx, f_X12_expression_L200, bd_some (is_F fo.ne.1 7), if_pos rfl]
      · have nx := next_M hM2 (by omega)
        obtain ⟨a1, p1, p2, p3, p4⟩ := pl_go hD hT h1 h7 h8 (by decide) hs h9 hN hgo (by
          rintro (y | ⟨y, -⟩ | ⟨y, -⟩)
          · exact i400 y
          · cases y
          · rw [q7] at y; cases y) (fun _ => by simp)
        rw [q7] at p2
        have p2 : PS D C n K V X a1 (i0 + (m + 1)) 2 sd r.length N := p2
        have p4 : ∀ j, a1.1 (D + 1) j = a.1 (D + 1) j := fun j => by rw [p4 j, if_neg (fun y => by cases y.1)]
        have hi1 := hnx (i0 + m) h7 (by rw [q7]; decide) (by omega)
        have hX : XB D C n K V P X T l i0 c0 sd N a1 (am_wI b2 58 11 (nI (i0 + m + 1))) (m + 1) (k + opn f) g r (fw f z) :=
          ⟨p2, hM2.nx (i0 + m + 1), hE2, by rw [show (am_wI b2 58 11 (nI (i0 + m + 1))).1 58 36 = b2.1 58 36 by simp [rl_wI]]; exact p36, p80, by omega, hi1, by omega, by simp at h9; omega⟩
        obtain ⟨b', k1, k2, k3⟩ := ih F' g (fw f z) a1 _ (m + 1) (k + opn f) hX (by simp at hF; omega)
        refine ⟨b', by rw [pre, bd_some nx]; exact k1, (k2.trans (cG.f (c := c0) (l := l) (b := b2) (i := 11) (by simp) _) (Nat.le_refl _)).trans G2 (Nat.le_refl _), ?_⟩
        rcases k3 with ⟨k4, k5⟩ | ⟨a', m', k', f', r', z', k4, k5, k6, k7, k8⟩
        · exact Or.inl ⟨k4.tr p1 p3, k5⟩
        · exact Or.inr ⟨a', m', k', f', r', z', p1.trans k4, k5.trans p3, fun j => (k6 j).trans (p4 j), by omega, k8⟩
    · rw [decide_eq_false q7] at i7
      refine ⟨b, ?_, cG.refl _ _ _, Or.inr ⟨a, m, k, f, g :: r, z, rfl, rw_on.refl _ _, fun _ => rfl, Nat.le_refl _, h, fun q => q7 q.1⟩⟩
      rw [f_X12_expression_L200, show (7 : Int32) = nI 7 from rfl, bd_some i7, show mc_i false = 0 from rfl, if_pos rfl]
end EXB
