/-! ===== the figures of a set go into boxes, on both sides ===== -/
theorem mk_C {O Z e : Nat} (hO : O ≤ 8) (hZ : Z < 256) : ∀ (n o : Nat) (a : am_S), a.1 46 0 = nI O → o ≤ O → O < o + n → ∃ a', f_X5_markBoxed_L2 n (nI Z) (nI e) (nI o) a = some (.inr ((), a')) ∧ rw_on [48, 49] a' a ∧ ∀ j, a'.1 48 j = (if o ≤ j ∧ j < O ∧ Z.testBit j = true then 1 else a.1 48 j) ∧ a'.1 49 j = (if o ≤ j ∧ j < O ∧ Z.testBit j = true then nI e else a.1 49 j) := by
  intro n
  induction n with
  | zero => intro o a h h1 h2; omega
  | succ n ih =>
    intro o a h h1 h2
    have d4 : nI o + 1 = nI (o + 1) := nI_1 o
    by_cases ho : o < O
    · have d1 : nI o < nI O := nI_lt ho (by omega)
      have d2 : am_in (nI o) 8 = true := rl_nin (by decide) (by omega)
      have d3 : (nI o).toNatClampNeg = o := nI_clamp (by omega)
      have i1 := bs_in a hZ (show o < 8 by omega)
      cases hb : Z.testBit o with
      | false =>
        rw [hb] at i1
        obtain ⟨a', g1, g2, g3⟩ := ih (o + 1) a h (by omega) (by omega)
        refine ⟨a', ?_, g2, fun j => ?_⟩
        · rw [f_X5_markBoxed_L2, h, if_pos d1, bd_some i1, d4]
          exact g1
        · obtain ⟨q1, q2⟩ := g3 j
          rw [q1, q2]
          by_cases e : j = o
          · subst e
            simp [hb]
          · have : (o + 1 ≤ j ∧ j < O ∧ Z.testBit j = true) ↔ (o ≤ j ∧ j < O ∧ Z.testBit j = true) := by
              constructor
              · rintro ⟨y1, y2⟩; exact ⟨by omega, y2⟩
              · rintro ⟨y1, y2⟩; exact ⟨by omega, y2⟩
            simp only [this]
            exact ⟨trivial, trivial⟩
      | true =>
        rw [hb] at i1
        obtain ⟨a', g1, g2, g3⟩ := ih (o + 1) (am_wI (am_wI a 48 o 1) 49 o (nI e)) h (by omega) (by omega)
        refine ⟨a', ?_, g2.trans (((rw_on.refl _ _).w (by simp) _ _).w (by simp) _ _), fun j => ?_⟩
        · rw [f_X5_markBoxed_L2, h, if_pos d1, bd_some i1]
          simp only [am_jn]
          rw [show mc_i true = 1 from rfl, if_neg (by decide), rl_gu d2, rl_gu d2, d3, d4]
          exact g1
        · obtain ⟨q1, q2⟩ := g3 j
          rw [q1, q2]
          have w1 : (am_wI (am_wI a 48 o 1) 49 o (nI e)).1 48 j = if j = o then 1 else a.1 48 j := by simp [rl_wI]
          have w2 : (am_wI (am_wI a 48 o 1) 49 o (nI e)).1 49 j = if j = o then nI e else a.1 49 j := by simp [rl_wI]
          rw [w1, w2]
          by_cases e : j = o
          · subst e
            have n1 : ¬ (j + 1 ≤ j ∧ j < O ∧ Z.testBit j = true) := fun q => absurd q.1 (by omega)
            have p1 : j ≤ j ∧ j < O ∧ Z.testBit j = true := ⟨Nat.le_refl _, ho, hb⟩
            rw [if_neg n1, if_neg n1, if_pos p1, if_pos p1, if_pos rfl, if_pos rfl]
            exact ⟨rfl, rfl⟩
          · rw [if_neg e, if_neg e]
            have : (o + 1 ≤ j ∧ j < O ∧ Z.testBit j = true) ↔ (o ≤ j ∧ j < O ∧ Z.testBit j = true) := by
              constructor
              · rintro ⟨y1, y2⟩; exact ⟨by omega, y2⟩
              · rintro ⟨y1, y2⟩; exact ⟨by omega, y2⟩
            simp only [this]
            exact ⟨trivial, trivial⟩
    · have d1 : ¬ nI o < nI O := nI_nlt (by omega) (by omega)
      refine ⟨a, by rw [f_X5_markBoxed_L2, h, if_neg d1], rw_on.refl _ _, fun j => ?_⟩
      rw [if_neg (by omega), if_neg (by omega)]
      exact ⟨rfl, rfl⟩
theorem mk_M {O Z e : Nat} (hO : O ≤ 8) (hZ : Z < 256) : ∀ (n o : Nat) (b : am_S), b.1 58 74 = nI O → b.1 58 51 = nI e → o ≤ O → O < o + n → ∃ b', f_X12_box_L170 n (nI Z) (nI o) b = some (.inr ((), b')) ∧ rw_on [111, 112] b' b ∧ ∀ j, b'.1 111 j = (if o ≤ j ∧ j < O ∧ Z.testBit j = true then 1 else b.1 111 j) ∧ b'.1 112 j = (if o ≤ j ∧ j < O ∧ Z.testBit j = true then nI e else b.1 112 j) := by
  intro n
  induction n with
  | zero => intro o b h h51 h1 h2; omega
  | succ n ih =>
    intro o b h h51 h1 h2
    have d4 : nI o + 1 = nI (o + 1) := nI_1 o
    by_cases ho : o < O
    · have d1 : nI o < nI O := nI_lt ho (by omega)
      have d2 : am_in (nI o) 8 = true := rl_nin (by decide) (by omega)
      have d3 : (nI o).toNatClampNeg = o := nI_clamp (by omega)
      have i1 := bs_bit Z hZ o (by omega)
      cases hb : Z.testBit o with
      | false =>
        rw [hb] at i1
        have i1 : ((nI Z >>> (nI o &&& 31)) &&& 1) = 0 := i1
        obtain ⟨b', g1, g2, g3⟩ := ih (o + 1) b h h51 (by omega) (by omega)
        refine ⟨b', ?_, g2, fun j => ?_⟩
        · rw [f_X12_box_L170, h, if_pos d1]
          simp only [am_jn]
          rw [if_pos i1, d4]
          exact g1
        · obtain ⟨q1, q2⟩ := g3 j
          rw [q1, q2]
          by_cases e : j = o
          · subst e
            simp [hb]
          · have : (o + 1 ≤ j ∧ j < O ∧ Z.testBit j = true) ↔ (o ≤ j ∧ j < O ∧ Z.testBit j = true) := by
              constructor
              · rintro ⟨y1, y2⟩; exact ⟨by omega, y2⟩
              · rintro ⟨y1, y2⟩; exact ⟨by omega, y2⟩
            simp only [this]
            exact ⟨trivial, trivial⟩
      | true =>
        rw [hb] at i1
        have i2 : ¬ ((nI Z >>> (nI o &&& 31)) &&& 1) = 0 := by rw [i1]; decide
        obtain ⟨b', g1, g2, g3⟩ := ih (o + 1) (am_wI (am_wI b 111 o 1) 112 o (nI e)) h h51 (by omega) (by omega)
        refine ⟨b', ?_, g2.trans (((rw_on.refl _ _).w (by simp) _ _).w (by simp) _ _), fun j => ?_⟩
        · rw [f_X12_box_L170, h, if_pos d1]
          simp only [am_jn]
          rw [if_neg i2, rl_gu d2, rl_gu d2, d3, d4, h51]
          exact g1
        · obtain ⟨q1, q2⟩ := g3 j
          rw [q1, q2]
          have w1 : (am_wI (am_wI b 111 o 1) 112 o (nI e)).1 111 j = if j = o then 1 else b.1 111 j := by simp [rl_wI]
          have w2 : (am_wI (am_wI b 111 o 1) 112 o (nI e)).1 112 j = if j = o then nI e else b.1 112 j := by simp [rl_wI]
          rw [w1, w2]
          by_cases e : j = o
          · subst e
            have n1 : ¬ (j + 1 ≤ j ∧ j < O ∧ Z.testBit j = true) := fun q => absurd q.1 (by omega)
            have p1 : j ≤ j ∧ j < O ∧ Z.testBit j = true := ⟨Nat.le_refl _, ho, hb⟩
            rw [if_neg n1, if_neg n1, if_pos p1, if_pos p1, if_pos rfl, if_pos rfl]
            exact ⟨rfl, rfl⟩
          · rw [if_neg e, if_neg e]
            have : (o + 1 ≤ j ∧ j < O ∧ Z.testBit j = true) ↔ (o ≤ j ∧ j < O ∧ Z.testBit j = true) := by
              constructor
              · rintro ⟨y1, y2⟩; exact ⟨by omega, y2⟩
              · rintro ⟨y1, y2⟩; exact ⟨by omega, y2⟩
            simp only [this]
            exact ⟨trivial, trivial⟩
    · have d1 : ¬ nI o < nI O := nI_nlt (by omega) (by omega)
      refine ⟨b, by rw [f_X12_box_L170, h, if_neg d1], rw_on.refl _ _, fun j => ?_⟩
      rw [if_neg (by omega), if_neg (by omega)]
      exact ⟨rfl, rfl⟩
theorem fg_cg {a a' : am_S} {N : Nat} (h36 : a'.1 36 = a.1 36) (h40 : a'.1 40 = a.1 40) (h42 : a'.1 42 = a.1 42) (h45 : a'.1 45 = a.1 45) (h : fg_t a N) : fg_t a' N := by
  have q1 : ∀ j, fk a' j = fk a j := fun j => by simp only [fk, h36, h40]
  have q2 : ∀ j, fc a' j = fc a j := fun j => by unfold fc; rw [h42, h45]
  intro j hj
  rw [q1, q2, h40, h36, h42, h45]
  exact h j hj
/-- new figures are those in the boxes of the set -/
def FI (Q : Nat → Prop) (Z O N : Nat) (a b : am_S) : Prop := rl_x [48, 49] a b ∧ ∀ f, f < N → (b.1 119 f = 1 ∧ ∃ o : Nat, o < O ∧ Z.testBit o = true ∧ a.1 43 f = nI o) ∨ (b.1 119 f = 0 ∧ (a.1 43 f = -1 ∨ ∃ o : Nat, o < O ∧ Z.testBit o = false ∧ a.1 43 f = nI o ∧ Q o))
section FLL
variable {Q : Nat → Prop} {Z O N : Nat}
theorem fn_loop {o j K d : Nat} (hO : O ≤ 8) (hN : N ≤ 400) (ho : o < O) (hb : Z.testBit o = true) (hj : j < 32) (hK : K < 8) (hd : d < 6) : ∀ (n f w : Nat) (a b : am_S), FI Q Z O N a b → fg_t a N → a.1 39 1 = nI N → a.1 52 j = nI K → a.1 53 j = cI d → f ≤ N → N < f + n → w ≤ 20 → ∃ a' b', f_X0_fillNeed_L24 n (nI o) (nI j) (cI d) (nI w) (nI f) a = some (.inr ((), a')) ∧ f_X12_packs_L10 n (nI o) (nI j) (nI w) (nI f) b = some (.inr ((), b')) ∧ FI Q Z O N a' b' ∧ rw_on [43] a' a ∧ rw_on [106, 119] b' b := by
  intro n
  induction n with
  | zero => intro f w a b hI ht eN e52 e53 h1 h2; omega
  | succ n ih =>
    intro f w a b hI ht eN e52 e53 h1 h2 hw
    have h := hI.1
    have em : b.1 58 66 = nI N := (h.f (c := 39) (k := 1) (by decide)).trans eN
    have r43 : b.1 106 = a.1 43 := h.r (by decide) (by decide)
    have r52 : b.1 115 j = nI K := by rw [h.r (c := 52) (m := 115) (by decide) (by decide)]; exact e52
    have r53 : b.1 116 j = cI d := by rw [h.r (c := 53) (m := 116) (by decide) (by decide)]; exact e53
    have d4 : nI f + 1 = nI (f + 1) := nI_1 f
    have z10 : ¬ (1 : Int32) = 0 := by decide
    by_cases hf : f < N
    · have d1 : nI f < nI N := nI_lt hf (by omega)
      have d2 : am_in (nI f) 400 = true := rl_nin (by decide) (by omega)
      have d3 : (nI f).toNatClampNeg = f := nI_clamp (by omega)
      have j2 : am_in (nI j) 32 = true := rl_nin (by decide) hj
      have j3 : (nI j).toNatClampNeg = j := nI_clamp (by omega)
      by_cases hw0 : 0 < w
      · have w0 : (0 : Int32) < nI w := nI_lt (a := 0) hw0 (by omega)
        have xk := fx_kind ht hf hN
        have xc := fx_col ht hf hN
        have yk := fy_kind h (by decide) (by decide) ht hf hN
        have yc := fy_col h (by decide) (by decide) ht hf hN
        obtain ⟨t1, t2, -, -⟩ := ht f hf
        have skip : f_X0_fillNeed_L24 (n + 1) (nI o) (nI j) (cI d) (nI w) (nI f) a = f_X0_fillNeed_L24 n (nI o) (nI j) (cI d) (nI w) (nI (f + 1)) a → f_X12_packs_L10 (n + 1) (nI o) (nI j) (nI w) (nI f) b = f_X12_packs_L10 n (nI o) (nI j) (nI w) (nI (f + 1)) b → ∃ a' b', f_X0_fillNeed_L24 (n + 1) (nI o) (nI j) (cI d) (nI w) (nI f) a = some (.inr ((), a')) ∧ f_X12_packs_L10 (n + 1) (nI o) (nI j) (nI w) (nI f) b = some (.inr ((), b')) ∧ FI Q Z O N a' b' ∧ rw_on [43] a' a ∧ rw_on [106, 119] b' b := by
          intro p1 p2
          rw [p1, p2]
          exact ih (f + 1) w a b hI ht eN e52 e53 (by omega) (by omega) hw
        have take : a.1 43 f = -1 → f_X0_fillNeed_L24 (n + 1) (nI o) (nI j) (cI d) (nI w) (nI f) a = f_X0_fillNeed_L24 n (nI o) (nI j) (cI d) (nI w + -1) (nI (f + 1)) (am_wI a 43 f (nI o)) → f_X12_packs_L10 (n + 1) (nI o) (nI j) (nI w) (nI f) b = f_X12_packs_L10 n (nI o) (nI j) (nI w + -1) (nI (f + 1)) (am_wI (am_wI b 106 f (nI o)) 119 f (am_nar 3 1)) → ∃ a' b', f_X0_fillNeed_L24 (n + 1) (nI o) (nI j) (cI d) (nI w) (nI f) a = some (.inr ((), a')) ∧ f_X12_packs_L10 (n + 1) (nI o) (nI j) (nI w) (nI f) b = some (.inr ((), b')) ∧ FI Q Z O N a' b' ∧ rw_on [43] a' a ∧ rw_on [106, 119] b' b := by
          intro c1 p1 p2
          have e1 : nI w + -1 = nI (w - 1) := by
            obtain ⟨w', rfl⟩ : ∃ w', w = w' + 1 := ⟨w - 1, by omega⟩
            exact pk_m1 w'
          have e2 : am_nar 3 1 = 1 := by decide
          rw [e1, e2] at p2
          rw [e1] at p1
          have hI' : FI Q Z O N (am_wI a 43 f (nI o)) (am_wI (am_wI b 106 f (nI o)) 119 f 1) := by
            refine ⟨(h.w2 (c := 43) (m := 106) (by decide) _ _).wb (by decide) (by decide) _ _, fun g hg => ?_⟩
            have w1 : (am_wI (am_wI b 106 f (nI o)) 119 f 1).1 119 g = if g = f then 1 else b.1 119 g := by simp [rl_wI]
            have w2 : (am_wI a 43 f (nI o)).1 43 g = if g = f then nI o else a.1 43 g := by simp [rl_wI]
            rw [w1, w2]
            by_cases e : g = f
            · rw [if_pos e, if_pos e]
              exact Or.inl ⟨rfl, o, ho, hb, rfl⟩
            · rw [if_neg e, if_neg e]
              exact hI.2 g hg
          obtain ⟨a', b', g1, g2, g3, g4, g5⟩ := ih (f + 1) (w - 1) _ _ hI' (fg_cg rfl rfl rfl rfl ht) eN e52 e53 (by omega) (by omega) (by omega)
          exact ⟨a', b', p1.trans g1, p2.trans g2, g3, g4.trans ((rw_on.refl _ _).w (by simp) _ _), g5.trans (((rw_on.refl _ _).w (by simp) _ _).w (by simp) _ _)⟩
        by_cases c1 : a.1 43 f = -1
        · have c1b : b.1 106 f = -1 := by rw [r43]; exact c1
          by_cases c2 : fk a f = K
          · rw [c2] at xk yk
            have fr1 : f_X3_isFree a (nI f) (nI K) = some (1, a) := by
              rw [f_X3_isFree, rl_gu d2, d3, if_pos c1, bd_some xk, if_pos rfl]
            by_cases c3 : d = 0
            · subst c3
              have c4 : cI 0 = -1 := rfl
              refine take c1 ?_ ?_
              · rw [f_X0_fillNeed_L24, eN, if_pos d1, if_pos w0]
                simp only [am_jn]
                rw [if_pos c4, if_neg z10, rl_gu j2, j3, e52, bd_some fr1, if_neg z10, rl_gu d2, d3, d4]
              · rw [f_X12_packs_L10, em, if_pos d1, if_pos w0, rl_gu d2, d3]
                simp only [am_jn]
                rw [if_pos c1b, bd_some yk, rl_gu j2, j3, r52, if_pos rfl, rl_gu j2, r53, if_pos c4, rl_gu d2, rl_gu d2, d4]
            · have c4 : ¬ cI d = -1 := fun q => c3 ((cI_n1 (by omega)).mp q)
              by_cases c5 : fc a f = d
              · rw [c5] at xc yc
                refine take c1 ?_ ?_
                · rw [f_X0_fillNeed_L24, eN, if_pos d1, if_pos w0]
                  simp only [am_jn]
                  rw [if_neg c4, bd_some xc, if_pos rfl, if_neg z10, rl_gu j2, j3, e52, bd_some fr1, if_neg z10, rl_gu d2, d3, d4]
                · rw [f_X12_packs_L10, em, if_pos d1, if_pos w0, rl_gu d2, d3]
                  simp only [am_jn]
                  rw [if_pos c1b, bd_some yk, rl_gu j2, j3, r52, if_pos rfl, rl_gu j2, r53, if_neg c4, bd_some yc, rl_gu j2, r53, if_pos rfl, rl_gu d2, rl_gu d2, d4]
              · have c6 : ¬ cI (fc a f) = cI d := fun q => c5 ((cI_inj (by omega) (by omega)).mp q)
                refine skip ?_ ?_
                · rw [f_X0_fillNeed_L24, eN, if_pos d1, if_pos w0]
                  simp only [am_jn]
                  rw [if_neg c4, bd_some xc, if_neg c6, if_pos trivial, d4]
                · rw [f_X12_packs_L10, em, if_pos d1, if_pos w0, rl_gu d2, d3]
                  simp only [am_jn]
                  rw [if_pos c1b, bd_some yk, rl_gu j2, j3, r52, if_pos rfl, rl_gu j2, r53, if_neg c4, bd_some yc, rl_gu j2, r53, if_neg c6, d4]
          · have c7 : ¬ nI (fk a f) = nI K := nI_ne (by omega) (by omega) c2
            have fr1 : f_X3_isFree a (nI f) (nI K) = some (0, a) := by
              rw [f_X3_isFree, rl_gu d2, d3, if_pos c1, bd_some xk, if_neg c7]
            refine skip ?_ ?_
            · rw [f_X0_fillNeed_L24, eN, if_pos d1, if_pos w0]
              simp only [am_jn]
              by_cases c4 : cI d = -1
              · rw [if_pos c4, if_neg z10, rl_gu j2, j3, e52, bd_some fr1, if_pos rfl, d4]
              · by_cases c6 : cI (fc a f) = cI d
                · rw [if_neg c4, bd_some xc, if_pos c6, if_neg z10, rl_gu j2, j3, e52, bd_some fr1, if_pos rfl, d4]
                · rw [if_neg c4, bd_some xc, if_neg c6, if_pos trivial, d4]
            · rw [f_X12_packs_L10, em, if_pos d1, if_pos w0, rl_gu d2, d3]
              simp only [am_jn]
              rw [if_pos c1b, bd_some yk, rl_gu j2, j3, r52, if_neg c7, d4]
        · have c1b : ¬ b.1 106 f = -1 := by rw [r43]; exact c1
          have fr1 : f_X3_isFree a (nI f) (nI K) = some (0, a) := by
            rw [f_X3_isFree, rl_gu d2, d3, if_neg c1]
          refine skip ?_ ?_
          · rw [f_X0_fillNeed_L24, eN, if_pos d1, if_pos w0]
            simp only [am_jn]
            by_cases c4 : cI d = -1
            · rw [if_pos c4, if_neg z10, rl_gu j2, j3, e52, bd_some fr1, if_pos rfl, d4]
            · by_cases c6 : cI (fc a f) = cI d
              · rw [if_neg c4, bd_some xc, if_pos c6, if_neg z10, rl_gu j2, j3, e52, bd_some fr1, if_pos rfl, d4]
              · rw [if_neg c4, bd_some xc, if_neg c6, if_pos trivial, d4]
          · rw [f_X12_packs_L10, em, if_pos d1, if_pos w0, rl_gu d2, d3]
            simp only [am_jn]
            rw [if_neg c1b, d4]
      · have w0 : ¬ (0 : Int32) < nI w := nI_nlt (a := 0) (by omega) (by omega)
        exact ⟨a, b, by rw [f_X0_fillNeed_L24, eN, if_pos d1, if_neg w0], by rw [f_X12_packs_L10, em, if_pos d1, if_neg w0], hI, rw_on.refl _ _, rw_on.refl _ _⟩
    · have d1 : ¬ nI f < nI N := nI_nlt (by omega) (by omega)
      exact ⟨a, b, by rw [f_X0_fillNeed_L24, eN, if_neg d1], by rw [f_X12_packs_L10, em, if_neg d1], hI, rw_on.refl _ _, rw_on.refl _ _⟩
/-- what stays while boxes are filled -/
def FJ (Q : Nat → Prop) (Z O N : Nat) (a b : am_S) : Prop := FI Q Z O N a b ∧ fg_t a N ∧ a.1 39 1 = nI N ∧ a.1 46 0 = nI O ∧ nd_t a O
theorem FJ.mk {a b a' b' : am_S} (h : FJ Q Z O N a b) (hI : FI Q Z O N a' b') (ha : rw_on [43] a' a) : FJ Q Z O N a' b' := by
  obtain ⟨-, h1, h2, h3, h4⟩ := h
  exact ⟨hI, fg_cg (ha 36 (by simp)).1 (ha 40 (by simp)).1 (ha 42 (by simp)).1 (ha 45 (by simp)).1 h1, by rw [(ha 39 (by simp)).1]; exact h2, by rw [(ha 46 (by simp)).1]; exact h3, nd_cg (ha 50 (by simp)).1 (ha 51 (by simp)).1 (ha 52 (by simp)).1 (ha 53 (by simp)).1 h4⟩
theorem fns_loop {o : Nat} {t : Bool} (hO : O ≤ 8) (hN : N ≤ 400) (hZ : Z < 256) (ho : o < O) (hb : Z.testBit o = true) : ∀ (n i : Nat) (a b : am_S), FJ Q Z O N a b → i ≤ ndn a o → ndn a o < i + n → ∃ a' b', f_X0_fillNeeds_L24 n (nI Z) (mc_i t) (nI o) (nI i) a = some (.inr ((), a')) ∧ f_X12_box_L99 n (nI Z) (mc_i t) (nI o) (nI (o * 4 + i)) b = some (.inr ((), b')) ∧ FJ Q Z O N a' b' ∧ rw_on [43] a' a ∧ rw_on [106, 119] b' b := by
  intro n
  induction n with
  | zero => intro i a b hJ h1 h2; omega
  | succ n ih =>
    intro i a b hJ h1 h2
    obtain ⟨hI, hf, eN, eO, ht⟩ := id hJ
    obtain ⟨t1, t2, t3⟩ := ht o ho
    have h := hI.1
    have o2 : am_in (nI o) 8 = true := rl_nin (by decide) (by omega)
    have o3 : (nI o).toNatClampNeg = o := nI_clamp (by omega)
    have e50 : b.1 113 o = nI (ndn a o) := by rw [h.r (c := 50) (m := 113) (by decide) (by decide)]; exact t2
    have j4 : 4 * nI o + nI (ndn a o) = nI (o * 4 + ndn a o) := rl_ix3 (w := 4)
    have d4 : nI (o * 4 + i) + 1 = nI (o * 4 + (i + 1)) := nI_1 _
    have d4' : nI i + 1 = nI (i + 1) := nI_1 _
    by_cases hi : i < ndn a o
    · have d1 : nI (o * 4 + i) < nI (o * 4 + ndn a o) := nI_lt (by omega) (by omega)
      have d1' : nI i < nI (ndn a o) := nI_lt hi (by omega)
      have j1 : nI o * 4 + nI i = nI (o * 4 + i) := rl_ix2 (w := 4)
      have j2 : am_in (nI (o * 4 + i)) 32 = true := rl_nin (by decide) (by omega)
      have j3 : (nI (o * 4 + i)).toNatClampNeg = o * 4 + i := nI_clamp (by omega)
      obtain ⟨u1, u2, u3, u4, u5, u6, u7⟩ := t3 i hi
      have e51 : b.1 114 (o * 4 + i) = nI (ndm a (o * 4 + i)) := by rw [h.r (c := 51) (m := 114) (by decide) (by decide)]; exact u1
      have e53 : b.1 116 (o * 4 + i) = cI (ndd a (o * 4 + i)) := by rw [h.r (c := 53) (m := 116) (by decide) (by decide)]; exact u6
      have en' : ∀ a', rw_on [43] a' a → ndn a' o = ndn a o := fun a' q => by unfold ndn; rw [(q 50 (by simp)).1]
      obtain ⟨a1, b1, g1, g2, g3, g4, g5⟩ := fn_loop hO hN ho hb (show o * 4 + i < 32 by omega) u5 u7 am_FU 0 (ndm a (o * 4 + i)) a b hI hf eN u4 u6 (by omega) (by unfold am_FU; omega) u3
      have g1 : f_X0_fillNeed_L24 am_FU (nI o) (nI (o * 4 + i)) (cI (ndd a (o * 4 + i))) (nI (ndm a (o * 4 + i))) 0 a = _ := g1
      have g2 : f_X12_packs_L10 am_FU (nI o) (nI (o * 4 + i)) (nI (ndm a (o * 4 + i))) 0 b = _ := g2
      have k1 : f_X0_fillNeed a (nI o) (nI (o * 4 + i)) = some ((), a1) := by rw [f_X0_fillNeed, rl_gu j2, rl_gu j2, j3, u6, u1, lp_r g1]
      have k2 : f_X12_packs b (nI o) (nI (o * 4 + i)) = some ((), b1) := by rw [f_X12_packs, rl_gu j2, j3, e51, lp_r g2]
      have hJ1 : FJ Q Z O N a1 b1 := hJ.mk g3 g4
      have z01 : ¬ (0 : Int32) = 1 := by decide
      have z10 : ¬ (1 : Int32) = 0 := by decide
      have skip : f_X0_fillNeeds_L24 (n + 1) (nI Z) (mc_i t) (nI o) (nI i) a = f_X0_fillNeeds_L24 n (nI Z) (mc_i t) (nI o) (nI (i + 1)) a → f_X12_box_L99 (n + 1) (nI Z) (mc_i t) (nI o) (nI (o * 4 + i)) b = f_X12_box_L99 n (nI Z) (mc_i t) (nI o) (nI (o * 4 + (i + 1))) b → ∃ a' b', f_X0_fillNeeds_L24 (n + 1) (nI Z) (mc_i t) (nI o) (nI i) a = some (.inr ((), a')) ∧ f_X12_box_L99 (n + 1) (nI Z) (mc_i t) (nI o) (nI (o * 4 + i)) b = some (.inr ((), b')) ∧ FJ Q Z O N a' b' ∧ rw_on [43] a' a ∧ rw_on [106, 119] b' b := by
        intro p1 p2
        rw [p1, p2]
        exact ih (i + 1) a b hJ (by omega) (by omega)
      have take : f_X0_fillNeeds_L24 (n + 1) (nI Z) (mc_i t) (nI o) (nI i) a = f_X0_fillNeeds_L24 n (nI Z) (mc_i t) (nI o) (nI (i + 1)) a1 → f_X12_box_L99 (n + 1) (nI Z) (mc_i t) (nI o) (nI (o * 4 + i)) b = f_X12_box_L99 n (nI Z) (mc_i t) (nI o) (nI (o * 4 + (i + 1))) b1 → ∃ a' b', f_X0_fillNeeds_L24 (n + 1) (nI Z) (mc_i t) (nI o) (nI i) a = some (.inr ((), a')) ∧ f_X12_box_L99 (n + 1) (nI Z) (mc_i t) (nI o) (nI (o * 4 + i)) b = some (.inr ((), b')) ∧ FJ Q Z O N a' b' ∧ rw_on [43] a' a ∧ rw_on [106, 119] b' b := by
        intro p1 p2
        rw [p1, p2]
        obtain ⟨a', b', q1, q2, q3, q4, q5⟩ := ih (i + 1) a1 b1 hJ1 (by rw [en' a1 g4]; omega) (by rw [en' a1 g4]; omega)
        exact ⟨a', b', q1, q2, q3, q4.trans g4, q5.trans g5⟩
      by_cases c1 : cI (ndd a (o * 4 + i)) = -1
      · cases t with
        | true =>
          have m1 : mc_i true = 1 := rfl
          refine take ?_ ?_
          · rw [f_X0_fillNeeds_L24, rl_gu o2, o3, t2, if_pos d1', j1, rl_gu j2, j3, u6]
            simp only [am_jn]
            rw [if_pos c1, m1, if_pos rfl, bd_some k1, d4']
          · rw [f_X12_box_L99, rl_gu o2, o3, e50, j4, if_pos d1, rl_gu j2, j3, e53]
            simp only [am_jn]
            rw [if_pos c1, m1, if_pos rfl, if_pos trivial, bd_some k2, d4]
        | false =>
          have m1 : mc_i false = 0 := rfl
          refine skip ?_ ?_
          · rw [f_X0_fillNeeds_L24, rl_gu o2, o3, t2, if_pos d1', j1, rl_gu j2, j3, u6]
            simp only [am_jn]
            rw [if_pos c1, m1, if_neg z10, d4']
          · rw [f_X12_box_L99, rl_gu o2, o3, e50, j4, if_pos d1, rl_gu j2, j3, e53]
            simp only [am_jn]
            rw [if_pos c1, m1, if_neg z01, if_neg z10, d4]
      · cases t with
        | true =>
          have m1 : mc_i true = 1 := rfl
          refine skip ?_ ?_
          · rw [f_X0_fillNeeds_L24, rl_gu o2, o3, t2, if_pos d1', j1, rl_gu j2, j3, u6]
            simp only [am_jn]
            rw [if_neg c1, m1, if_neg z01, d4']
          · rw [f_X12_box_L99, rl_gu o2, o3, e50, j4, if_pos d1, rl_gu j2, j3, e53]
            simp only [am_jn]
            rw [if_neg c1, m1, if_pos rfl, if_neg z01, d4]
        | false =>
          have m1 : mc_i false = 0 := rfl
          refine take ?_ ?_
          · rw [f_X0_fillNeeds_L24, rl_gu o2, o3, t2, if_pos d1', j1, rl_gu j2, j3, u6]
            simp only [am_jn]
            rw [if_neg c1, m1, if_pos rfl, bd_some k1, d4']
          · rw [f_X12_box_L99, rl_gu o2, o3, e50, j4, if_pos d1, rl_gu j2, j3, e53]
            simp only [am_jn]
            rw [if_neg c1, m1, if_neg z01, if_pos trivial, bd_some k2, d4]
    · have d1 : ¬ nI (o * 4 + i) < nI (o * 4 + ndn a o) := nI_nlt (by omega) (by omega)
      have d1' : ¬ nI i < nI (ndn a o) := nI_nlt (by omega) (by omega)
      exact ⟨a, b, by rw [f_X0_fillNeeds_L24, rl_gu o2, o3, t2, if_neg d1'], by rw [f_X12_box_L99, rl_gu o2, o3, e50, j4, if_neg d1], hJ, rw_on.refl _ _, rw_on.refl _ _⟩
theorem fno_loop {t : Bool} (hO : O ≤ 8) (hN : N ≤ 400) (hZ : Z < 256) : ∀ (n o : Nat) (a b : am_S), FJ Q Z O N a b → o ≤ O → O < o + n → ∃ a' b', f_X0_fillNeeds_L2 n (nI Z) (mc_i t) (nI o) a = some (.inr ((), a')) ∧ f_X12_box_L75 n (nI Z) (mc_i t) (nI o) b = some (.inr ((), b')) ∧ FJ Q Z O N a' b' ∧ rw_on [43] a' a ∧ rw_on [106, 119] b' b := by
  intro n
  induction n with
  | zero => intro o a b hJ h1 h2; omega
  | succ n ih =>
    intro o a b hJ h1 h2
    obtain ⟨hI, hf, eN, eO, ht⟩ := id hJ
    have em : b.1 58 74 = nI O := (hI.1.f (c := 46) (k := 0) (by decide)).trans eO
    have d4 : nI o + 1 = nI (o + 1) := nI_1 o
    by_cases ho : o < O
    · have d1 : nI o < nI O := nI_lt ho (by omega)
      have i1 := bs_in a hZ (show o < 8 by omega)
      have i2 := bs_bit Z hZ o (by omega)
      cases hb : Z.testBit o with
      | false =>
        rw [hb] at i1 i2
        have i2 : ((nI Z >>> (nI o &&& 31)) &&& 1) = 0 := i2
        obtain ⟨a', b', g1, g2, g3⟩ := ih (o + 1) a b hJ (by omega) (by omega)
        refine ⟨a', b', ?_, ?_, g3⟩
        · rw [f_X0_fillNeeds_L2, eO, if_pos d1, bd_some i1, d4]
          exact g1
        · rw [f_X12_box_L75, em, if_pos d1]
          simp only [am_jn]
          rw [if_pos i2, d4]
          exact g2
      | true =>
        rw [hb] at i1 i2
        have i3 : ¬ ((nI Z >>> (nI o &&& 31)) &&& 1) = 0 := by rw [i2]; decide
        have j0 : 4 * nI o = nI (o * 4 + 0) := by rw [show (4 : Int32) = nI 4 from rfl, pk_mul, Nat.mul_comm]; rfl
        obtain ⟨a1, b1, k1, k2, k3, k4, k5⟩ := fns_loop (t := t) hO hN hZ ho hb am_FU 0 a b hJ (by omega) (by have := (ht o ho).1; unfold am_FU; omega)
        have k1 : f_X0_fillNeeds_L24 am_FU (nI Z) (mc_i t) (nI o) 0 a = _ := k1
        obtain ⟨a', b', g1, g2, g3, g4, g5⟩ := ih (o + 1) a1 b1 k3 (by omega) (by omega)
        refine ⟨a', b', ?_, ?_, g3, g4.trans k4, g5.trans k5⟩
        · rw [f_X0_fillNeeds_L2, eO, if_pos d1, bd_some i1]
          simp only [am_jn]
          rw [show mc_i true = 1 from rfl, if_neg (by decide), lp_r k1, d4]
          exact g1
        · rw [f_X12_box_L75, em, if_pos d1]
          simp only [am_jn]
          rw [if_neg i3, j0, lp_r k2, d4]
          exact g2
    · have d1 : ¬ nI o < nI O := nI_nlt (by omega) (by omega)
      exact ⟨a, b, by rw [f_X0_fillNeeds_L2, eO, if_neg d1], by rw [f_X12_box_L75, em, if_neg d1], hJ, rw_on.refl _ _, rw_on.refl _ _⟩
theorem b68 {m : Nat} {x1 : Int32} {b1 b2 b3 : am_S} (h : f_X12_box_L75 am_FU x1 0 0 b1 = some (.inr ((), b2))) (h2 : f_X12_box_L75 am_FU x1 1 0 b2 = some (.inr ((), b3))) : f_X12_box_L68 (m + 1 + 1 + 1) x1 0 b1 = some (.inr ((), b3)) := by
  rw [f_X12_box_L68, if_pos (by decide), lp_r h, show (0 : Int32) + 1 = 1 from rfl, f_X12_box_L68, if_pos (by decide), lp_r h2, show (1 : Int32) + 1 = 2 from rfl, f_X12_box_L68, if_neg (by decide)]
theorem ff_all (hO : O ≤ 8) (hN : N ≤ 400) (hZ : Z < 256) {a b : am_S} (hJ : FJ Q Z O N a b) : ∃ a' b', f_X0_fill a (nI Z) = some ((), a') ∧ f_X12_box_L68 am_FU (nI Z) 0 b = some (.inr ((), b')) ∧ FJ Q Z O N a' b' ∧ rw_on [43] a' a ∧ rw_on [106, 119] b' b := by
  obtain ⟨a1, b1, k1, k2, k3, k4, k5⟩ := fno_loop (t := false) hO hN hZ am_FU 0 a b hJ (by omega) (by unfold am_FU; omega)
  obtain ⟨a2, b2, g1, g2, g3, g4, g5⟩ := fno_loop (t := true) hO hN hZ am_FU 0 a1 b1 k3 (by omega) (by unfold am_FU; omega)
  have k1 : f_X0_fillNeeds_L2 am_FU (nI Z) 0 0 a = _ := k1
  have g1 : f_X0_fillNeeds_L2 am_FU (nI Z) 1 0 a1 = _ := g1
  have k2 : f_X12_box_L75 am_FU (nI Z) 0 0 b = _ := k2
  have g2 : f_X12_box_L75 am_FU (nI Z) 1 0 b1 = _ := g2
  have e1 : f_X0_fillNeeds a (nI Z) 0 = some ((), a1) := by rw [f_X0_fillNeeds, lp_r k1]
  have e2 : f_X0_fillNeeds a1 (nI Z) 1 = some ((), a2) := by rw [f_X0_fillNeeds, lp_r g1]
  exact ⟨a2, b2, by rw [f_X0_fill, bd_some e1, bd_some e2], b68 (m := 4997) k2 g2, g3, g4.trans k4, g5.trans k5⟩
end FLL
