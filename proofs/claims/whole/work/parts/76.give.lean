/-! ===== give on both sides ===== -/
def GI (R : Nat) (a b : am_S) (F e : Nat) : Prop := rl_x [] a b ∧ RR R a b ∧ (∀ j, 8 ≤ j → a.1 57 j = 0) ∧ (∀ j, 8 ≤ j → b.1 102 j = 0) ∧ ri_lent (mg a b) ∧ a.1 21 0 = nI F ∧ F ≤ 8 ∧ a.1 0 5 = nI e ∧ e < 40
theorem lent_on {a b a' b' : am_S} {La Lb : List Nat} (h : ri_lent (mg a b)) (ha : rw_on La a' a) (hb : rw_on Lb b' b) (h21 : 21 ∉ La) (h26 : 26 ∉ La) (h88 : 88 ∉ Lb) (h89 : 89 ∉ Lb) (h90 : 90 ∉ Lb) (h91 : 91 ∉ Lb) : ri_lent (mg a' b') :=
  ri_lent.fr (s := mg a b) (t := mg a' b') h (show a'.1 21 6 = a.1 21 6 from congrFun (ha 21 h21).1 6) (show b'.1 88 = b.1 88 from (hb 88 h88).1) (show b'.1 89 = b.1 89 from (hb 89 h89).1) (show b'.1 90 = b.1 90 from (hb 90 h90).1) (show b'.1 91 = b.1 91 from (hb 91 h91).1) (show a'.2 26 = a.2 26 from (ha 26 h26).2)
theorem rl_x.sc {X : List Nat} {R : Nat} {a b a' b' : am_S} (hR : R = 5 ∨ R = 11) (h : rl_x X a b) (ha : sc R a' a) (hb : rw_on [102, 103] b' b) : rl_x X a' b' := by
  have d5 : ∀ p ∈ rl_rows, ¬ (p.1 ∈ [57, 5, 5 + 4, 5 + 5] ∨ p.2 ∈ [102, 103]) := by decide
  have d11 : ∀ p ∈ rl_rows, ¬ (p.1 ∈ [57, 11, 11 + 4, 11 + 5] ∨ p.2 ∈ [102, 103]) := by decide
  rcases hR with e | e
  · subst e
    exact h.on ha.1 hb (fun p hp q => absurd q (d5 p hp)) (by decide) (by decide)
  · subst e
    exact h.on ha.1 hb (fun p hp q => absurd q (d11 p hp)) (by decide) (by decide)
theorem GI.sc {R F e : Nat} {a b a' b' : am_S} (hR : R = 5 ∨ R = 11) (h : GI R a b F e) (ha : sc R a' a) (hb : rw_on [102, 103] b' b) (za : ∀ j, 8 ≤ j → a'.1 57 j = 0) (zb : ∀ j, 8 ≤ j → b'.1 102 j = 0) : GI R a' b' F e := by
  obtain ⟨h1, h2, -, -, h3, h4, h5, h6, h7⟩ := h
  have hR' : R ≤ 11 := by omega
  refine ⟨h1.sc hR ha hb, h2.sc hR' ha hb, za, zb, lent_on h3 ha.1 hb (by simp; omega) (by simp; omega) (by decide) (by decide) (by decide) (by decide), ?_, h5, ?_, h7⟩
  · rw [(ha.1 21 (by simp; omega)).1]; exact h4
  · rw [(ha.1 0 (by simp; omega)).1]; exact h6
theorem fcs_sc {R f k e : Nat} {a a' : am_S} (hR : R ≤ 11) (ha : sc R a' a) : fcs a' f k e = fcs a f k e := by
  unfold fcs
  rw [(ha.1 19 (by simp; omega)).1, (ha.1 20 (by simp; omega)).1, (ha.1 24 (by simp; omega)).1, (ha.1 27 (by simp; omega)).1, (ha.1 23 (by simp; omega)).1, (ha.1 22 (by simp; omega)).1]
theorem ru_or (sw : Bool) : am_ru sw = 5 ∨ am_ru sw = 11 := by cases sw <;> decide
theorem tf_loop {sw : Bool} {F e k : Nat} {z1 z2 : Int32} (hk : k < 8) : ∀ (n f : Nat) (x c : Int32) (a b : am_S), GI (am_ru sw) a b F e → f ≤ F → F < f + n → (x = -1 ∨ ∃ g : Nat, g < F ∧ x = nI g) → ∃ (y : Int32) (a' b' : am_S), f_X11_takerOf_L7 sw n (nI k) x c (nI f) a = some (.inr (y, a')) ∧ f_X12_give_L58 n z1 z2 (nI k) x c (nI f) b = some (.inr (y, b')) ∧ sc (am_ru sw) a' a ∧ rw_on [102, 103] b' b ∧ GI (am_ru sw) a' b' F e ∧ (y = -1 ∨ ∃ g : Nat, g < F ∧ y = nI g) := by
  have hR := ru_or sw
  have hR' : am_ru sw ≤ 11 := by omega
  intro n
  induction n with
  | zero => intro f x c a b h h1 h2; omega
  | succ n ih =>
    intro f x c a b h h1 h2 hx
    obtain ⟨hr, hRR, za, zb, hl, eF, hF, e5, he⟩ := id h
    have em : b.1 58 41 = nI F := (hr.f (c := 21) (k := 0) (by decide)).trans eF
    have e51 : b.1 58 51 = nI e := (hr.f (c := 0) (k := 5) (by decide)).trans e5
    by_cases hf : f < F
    · have d1 : nI f < nI F := nI_lt hf (by omega)
      have d4 : nI f + 1 = nI (f + 1) := nI_1 f
      have mX := mc_X a f k e (by omega) hk he
      have mM := mc_M2 (X := []) f k e (by omega) hk he hr (by simp) hl
      cases hb : mc_b a f k e with
      | false =>
        rw [hb] at mX mM
        have mX : f_X2_mayCarve a (nI f) (nI k) (nI e) = some (0, a) := mX
        have mM : f_X12_mayCarve b (nI f) (nI k) (nI e) = some (0, b) := mM
        obtain ⟨y, a', b', g1, g2, g3⟩ := ih (f + 1) x c a b h (by omega) (by omega) hx
        exact ⟨y, a', b', by simp [f_X11_takerOf_L7, eF, d1, e5, am_bd, am_jn, mX, d4, g1], by simp [f_X12_give_L58, em, d1, e51, am_bd, am_jn, mM, d4, g2], g3⟩
      | true =>
        rw [hb] at mX mM
        have mX : f_X2_mayCarve a (nI f) (nI k) (nI e) = some (1, a) := mX
        have mM : f_X12_mayCarve b (nI f) (nI k) (nI e) = some (1, b) := mM
        obtain ⟨g, p, z, hA⟩ := AN.of hRR f k e
        obtain ⟨a1, s1, s2, s3⟩ := fa_C (f := f) (k := k) (by omega) hk he e5 za
        have o1 := sc.f hR' s3
        obtain ⟨⟨a2, t1, t2⟩, -, -⟩ := hA.C hR' o1 s2
        have o2 := (sc.rs t2).trans o1
        have v2 : a2.1 57 = fcs a f k e := by rw [(t2.1 57 (by simp; omega)).1]; exact s2
        obtain ⟨-, -, ⟨a3, t3, t4⟩⟩ := hA.C hR' o2 v2
        have o3 := (sc.rs t4).trans o2
        have v3 : a3.1 57 = fcs a f k e := by rw [(t4.1 57 (by simp; omega)).1]; exact v2
        obtain ⟨-, -, ⟨b1, m1, m2, m3⟩⟩ := hA.M (a0 := a) (by omega) hk he e5 rfl (Or.inl hr) zb rfl (fun _ _ _ => rfl)
        have hr1 : rl_x [] a b1 := hr.sc hR (sc.refl _ _) m2
        obtain ⟨⟨b2, m4, m5, m6⟩, -, -⟩ := hA.M (a0 := a) (by omega) hk he e5 rfl (Or.inl hr1) m3 (m2 58 (by simp)).1 (fun c q1 q2 => (m2 c (by simp; omega)).1)
        have z2' : ∀ j, 8 ≤ j → a2.1 57 j = 0 := fun j hj => by rw [v2]; exact fcs_8 hj
        have z3' : ∀ j, 8 ≤ j → a3.1 57 j = 0 := fun j hj => by rw [v3]; exact fcs_8 hj
        have ob2 := m5.trans m2
        cases z with
        | true =>
          have t3 : f_X8_bars (am_ru sw) a2 = some (1, a3) := t3
          have m1 : f_X12_isBarred b (nI f) (nI k) = some (1, b1) := m1
          by_cases hx1 : x = -1
          · obtain ⟨y, a', b', g1, g2, g3, g4, g5, g6⟩ := ih (f + 1) x c a3 b1 (h.sc hR o3 m2 z3' m3) (by omega) (by omega) hx
            exact ⟨y, a', b', by rw [hx1] at g1 ⊢; simp [f_X11_takerOf_L7, eF, d1, e5, am_bd, am_jn, mX, s1, t1, t3, d4, g1], by simp [f_X12_give_L58, em, d1, e51, am_bd, am_jn, mM, m1, d4, g2], g3.trans o3, g4.trans m2, g5, g6⟩
          · by_cases hc : c < g
            · obtain ⟨y, a', b', g1, g2, g3, g4, g5, g6⟩ := ih (f + 1) x c a3 b1 (h.sc hR o3 m2 z3' m3) (by omega) (by omega) hx
              exact ⟨y, a', b', by simp [f_X11_takerOf_L7, eF, d1, e5, am_bd, am_jn, mX, s1, t1, hx1, hc, t3, d4, g1], by simp [f_X12_give_L58, em, d1, e51, am_bd, am_jn, mM, m1, d4, g2], g3.trans o3, g4.trans m2, g5, g6⟩
            · obtain ⟨y, a', b', g1, g2, g3, g4, g5, g6⟩ := ih (f + 1) x c a2 b1 (h.sc hR o2 m2 z2' m3) (by omega) (by omega) hx
              exact ⟨y, a', b', by simp [f_X11_takerOf_L7, eF, d1, e5, am_bd, am_jn, mX, s1, t1, hx1, hc, d4, g1], by simp [f_X12_give_L58, em, d1, e51, am_bd, am_jn, mM, m1, d4, g2], g3.trans o2, g4.trans m2, g5, g6⟩
        | false =>
          have t3 : f_X8_bars (am_ru sw) a2 = some (0, a3) := t3
          have m1 : f_X12_isBarred b (nI f) (nI k) = some (0, b1) := m1
          by_cases hx1 : x = -1
          · obtain ⟨y, a', b', g1, g2, g3, g4, g5, g6⟩ := ih (f + 1) (nI f) g a3 b2 (h.sc hR o3 ob2 z3' m6) (by omega) (by omega) (Or.inr ⟨f, hf, rfl⟩)
            exact ⟨y, a', b', by rw [hx1]; simp [f_X11_takerOf_L7, eF, d1, e5, am_bd, am_jn, mX, s1, t1, t3, d4, g1], by rw [hx1]; simp [f_X12_give_L58, em, d1, e51, am_bd, am_jn, mM, m1, m4, d4, g2], g3.trans o3, g4.trans ob2, g5, g6⟩
          · by_cases hc : c < g
            · obtain ⟨y, a', b', g1, g2, g3, g4, g5, g6⟩ := ih (f + 1) (nI f) g a3 b2 (h.sc hR o3 ob2 z3' m6) (by omega) (by omega) (Or.inr ⟨f, hf, rfl⟩)
              exact ⟨y, a', b', by simp [f_X11_takerOf_L7, eF, d1, e5, am_bd, am_jn, mX, s1, t1, hx1, hc, t3, d4, g1], by simp [f_X12_give_L58, em, d1, e51, am_bd, am_jn, mM, m1, m4, hx1, hc, d4, g2], g3.trans o3, g4.trans ob2, g5, g6⟩
            · obtain ⟨y, a', b', g1, g2, g3, g4, g5, g6⟩ := ih (f + 1) x c a2 b2 (h.sc hR o2 ob2 z2' m6) (by omega) (by omega) hx
              exact ⟨y, a', b', by simp [f_X11_takerOf_L7, eF, d1, e5, am_bd, am_jn, mX, s1, t1, hx1, hc, d4, g1], by simp [f_X12_give_L58, em, d1, e51, am_bd, am_jn, mM, m1, m4, hx1, hc, d4, g2], g3.trans o2, g4.trans ob2, g5, g6⟩
    · have d1 : ¬ nI f < nI F := nI_nlt (by omega) (by omega)
      exact ⟨x, a, b, by simp [f_X11_takerOf_L7, eF, d1], by simp [f_X12_give_L58, em, d1], sc.refl _ _, rw_on.refl _ _, h, hx⟩
theorem cv_loop {r k w e : Nat} {y z1 : Int32} (hr : r < 200) (hk : k < 8) (hw : w ≤ 12) : ∀ (n i N : Nat) (a b : am_S), rl_x [] a b → a.1 39 1 = nI N → a.1 0 5 = nI e → a.1 19 k = nI w → i ≤ w → N + (w - i) ≤ 400 → w < i + n → ∃ a' b', f_X11_carve_L47 n (nI r) y (nI w) (nI i) a = some (.inr ((), a')) ∧ f_X12_give_L164 n z1 (nI r) (nI k) y (nI i) b = some (.inr ((), b')) ∧ rl_x [] a' b' ∧ a'.1 39 1 = nI (N + (w - i)) ∧ a'.1 39 7 = a.1 39 7 ∧ (∀ j, j < N → a'.1 40 j = a.1 40 j ∧ a'.1 42 j = a.1 42 j ∧ a'.1 43 j = a.1 43 j) ∧ (∀ j, N ≤ j → j < N + (w - i) → a'.1 40 j = nI r ∧ a'.1 42 j = -1 ∧ a'.1 43 j = -1) ∧ rw_on [39, 40, 41, 42, 43, 44] a' a ∧ rw_on [58, 104, 105, 106, 107, 108] b' b ∧ ∀ i, i ≠ 66 → b'.1 58 i = b.1 58 i := by
  intro n
  induction n with
  | zero => intro i N a b h e1 e2 e3 h1 h2 h3; omega
  | succ n ih =>
    intro i N a b h e1 e2 e3 h1 h2 h3
    have k2 : am_in (nI k) 8 = true := rl_nin (by decide) hk
    have k3 : (nI k).toNatClampNeg = k := nI_clamp (by omega)
    have r19 : b.1 82 = a.1 19 := h.r (by decide) (by simp)
    by_cases hi : i < w
    · have d1 : nI i < nI w := nI_lt hi (by omega)
      have d4 : nI i + 1 = nI (i + 1) := nI_1 i
      have N1 : nI N < 400 := nI_lt (b := 400) (by omega) (by decide)
      have N2 : am_in (nI N) 400 = true := rl_nin (by decide) (by omega)
      have N3 : (nI N).toNatClampNeg = N := nI_clamp (by omega)
      have N4 : nI N + 1 = nI (N + 1) := nI_1 N
      have em : b.1 58 66 = nI N := (h.f (c := 39) (k := 1) (by decide)).trans e1
      have e51 : b.1 58 51 = nI e := (h.f (c := 0) (k := 5) (by decide)).trans e2
      generalize ha1 : am_wI (am_wI (am_wI (am_wI (am_wI (am_wI a 40 N (nI r)) 41 N (nI e)) 42 N (-1)) 43 N (-1)) 44 N 0) 39 1 (nI (N + 1)) = a1
      generalize hb1 : am_wI (am_wI (am_wI (am_wI (am_wI (am_wI b 104 N (nI r)) 105 N (-1)) 106 N (-1)) 107 N 0) 108 N (nI e)) 58 66 (nI (N + 1)) = b1
      have h' : rl_x [] a1 b1 := by
        rw [← ha1, ← hb1, wI_comm (c := 107) (c' := 108) _ _ _ (by omega), wI_comm (c := 106) (c' := 108) _ _ _ (by omega), wI_comm (c := 105) (c' := 108) _ _ _ (by omega)]
        exact (((((h.w2 (c := 40) (m := 104) (by decide) _ _).w2 (c := 41) (m := 108) (by decide) _ _).w2 (c := 42) (m := 105) (by decide) _ _).w2 (c := 43) (m := 106) (by decide) _ _).w2 (c := 44) (m := 107) (by decide) _ _).f2 (c := 39) (k := 1) (m := 66) (by decide) _
      have oa : rw_on [39, 40, 41, 42, 43, 44] a1 a := by
        rw [← ha1]
        exact (((((((rw_on.refl _ _).w (by decide) _ _).w (by decide) _ _).w (by decide) _ _).w (by decide) _ _).w (by decide) _ _).w (by decide) _ _)
      have ob : rw_on [58, 104, 105, 106, 107, 108] b1 b := by
        rw [← hb1]
        exact (((((((rw_on.refl _ _).w (by decide) _ _).w (by decide) _ _).w (by decide) _ _).w (by decide) _ _).w (by decide) _ _).w (by decide) _ _)
      have z1' : a1.1 39 1 = nI (N + 1) := by rw [← ha1]; rfl
      have z7 : a1.1 39 7 = a.1 39 7 := by rw [← ha1]; rfl
      have z40 : ∀ j, a1.1 40 j = if j = N then nI r else a.1 40 j := by intro j; rw [← ha1]; simp [rl_wI]
      have z42 : ∀ j, a1.1 42 j = if j = N then -1 else a.1 42 j := by intro j; rw [← ha1]; simp [rl_wI]
      have z43 : ∀ j, a1.1 43 j = if j = N then -1 else a.1 43 j := by intro j; rw [← ha1]; simp [rl_wI]
      have z58 : ∀ i, i ≠ 66 → b1.1 58 i = b.1 58 i := by intro i hi; rw [← hb1]; simp [rl_wI, hi]
      obtain ⟨a', b', y1, y2, y3, y4, y5, y6, y7, y8, y9, y10⟩ := ih (i + 1) (N + 1) a1 b1 h' z1' (by rw [(oa 0 (by decide)).1]; exact e2) (by rw [(oa 19 (by decide)).1]; exact e3) (by omega) (by omega) (by omega)
      have eN : N + 1 + (w - (i + 1)) = N + (w - i) := by omega
      rw [eN] at y4 y7
      refine ⟨a', b', ?_, ?_, y3, y4, y5.trans z7, fun j hj => ?_, fun j q1 q2 => ?_, y8.trans oa, y9.trans ob, fun i hi => (y10 i hi).trans (z58 i hi)⟩
      · have fa : f_X3_add a (nI r) (nI e) = some ((), a1) := by
          simp only [f_X3_add, e1, if_pos N1, rl_gu N2, N3, N4]
          rw [ha1]
        simp only [f_X11_carve_L47, if_pos d1, e2, fa, rl_bd, d4]
        exact y1
      · simp only [f_X12_give_L164, rl_gu k2, k3, r19, e3, if_pos d1, em, rl_gu N2, N3, N4, e51, d4]
        rw [hb1]
        exact y2
      · have := y6 j (by omega)
        rw [this.1, this.2.1, this.2.2, z40, z42, z43]
        simp [show j ≠ N by omega]
      · by_cases ej : j = N
        · have := y6 j (by omega)
          rw [this.1, this.2.1, this.2.2, z40, z42, z43]
          simp [ej]
        · exact y7 j (by omega) q2
    · have d1 : ¬ nI i < nI w := nI_nlt (by omega) (by omega)
      have ei : w - i = 0 := by omega
      rw [ei]
      exact ⟨a, b, by simp [f_X11_carve_L47, d1], by simp [f_X12_give_L164, am_gu, k2, k3, r19, e3, d1], h, e1, rfl, fun _ _ => ⟨rfl, rfl, rfl⟩, fun j q1 q2 => by omega, rw_on.refl _ _, rw_on.refl _ _, fun _ _ => rfl⟩
