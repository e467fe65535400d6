/-! ===== the text is cut into tokens: signs, and all of it ===== -/
section CUT
variable {C : Nat → Nat} {n : Nat}
theorem tok_M {b : am_S} {t : Nat} (ht : t ≤ 402) (e : b.1 58 10 = nI t) (k p v : Int32) (w : Int64) : ∃ b', f_X12_token b k p v w = some ((), b') ∧ b'.1 58 10 = nI (t + 1) ∧ (∀ i, i ≠ 10 → b'.1 58 i = b.1 58 i) ∧ (∀ s, b'.1 61 s = if s = t then k else b.1 61 s) ∧ (∀ s, b'.1 62 s = if s = t then p else b.1 62 s) ∧ (∀ s, b'.1 63 s = if s = t then v else b.1 63 s) ∧ rw_on [58, 61, 62, 63, 64] b' b := by
  have d2 : am_in (nI t) 403 = true := rl_nin (by decide) (by omega)
  have d3 : (nI t).toNatClampNeg = t := nI_clamp (by omega)
  have d4 : nI t + 1 = nI (t + 1) := nI_1 t
  refine ⟨am_wI (am_wL (am_wI (am_wI (am_wI b 61 t k) 62 t p) 63 t v) 64 t w) 58 10 (nI (t + 1)), ?_, ?_, ?_, ?_, ?_, ?_, ?_⟩
  · rw [f_X12_token, e, rl_gu d2, rl_gu d2, rl_gu d2, rl_gu d2, d3, d4]
  · simp [rl_wI]
  · intro i hi
    show (am_wI (am_wI (am_wI (am_wI b 61 t k) 62 t p) 63 t v) 58 10 (nI (t + 1))).1 58 i = _
    simp [rl_wI, hi]
  · intro s
    show (am_wI (am_wI (am_wI (am_wI b 61 t k) 62 t p) 63 t v) 58 10 (nI (t + 1))).1 61 s = _
    simp [rl_wI]
  · intro s
    show (am_wI (am_wI (am_wI (am_wI b 61 t k) 62 t p) 63 t v) 58 10 (nI (t + 1))).1 62 s = _
    simp [rl_wI]
  · intro s
    show (am_wI (am_wI (am_wI (am_wI b 61 t k) 62 t p) 63 t v) 58 10 (nI (t + 1))).1 63 s = _
    simp [rl_wI]
  · exact (((((rw_on.refl _ _).w (by simp) _ _).w (by simp) _ _).w (by simp) _ _).wl (by simp) _ _).w (by simp) _ _
theorem sg_M (b : am_S) (x1 : Int32) {c d : Nat} (hc : c < 256) (hd : d < 256) : f_X12_sign b x1 (nI c) (nI d) = am_bd (f_X12_token b (nI (sgk c d)) x1 0 (lN 0)) (fun _ s => some (nI (sgl c d), s)) := by
  have z0 : ¬ (0 : Int32) < 0 := by decide
  have fin0 : ∀ k : Int32, am_bd (f_X12_token b k x1 0 (lN 0)) (fun (_ : Unit) s154 => if (0 : Int32) < 0 then (some ((2 : Int32), s154)) else (some ((1), s154))) = am_bd (f_X12_token b k x1 0 (lN 0)) (fun _ s => some (nI 1, s)) := by
    intro k
    simp only [z0, if_false]
    rfl
  rw [f_X12_sign]
  simp only [am_jn]
  by_cases hD : d = 61
  · have D : nI d = 61 := by rw [hD]; rfl
    rw [if_pos D]
    by_cases c61 : c = 61
    · have k1 : sgk c d = 11 := by rw [hD, c61]; rfl
      have k2 : sgl c d = 2 := by rw [hD, c61]; rfl
      have x : nI c = 61 := by rw [c61]; rfl
      have z1 : (0 : Int32) < 11 := by decide
      rw [k1, k2, if_pos x, if_pos z1]
      simp only [z1, if_true]
      rfl
    have x61 : ¬ nI c = 61 := nI_ne (m := 61) (by omega) (by decide) c61
    by_cases c33 : c = 33
    · have k1 : sgk c d = 12 := by rw [hD, c33]; rfl
      have k2 : sgl c d = 2 := by rw [hD, c33]; rfl
      have x : nI c = 33 := by rw [c33]; rfl
      have z1 : (0 : Int32) < 12 := by decide
      rw [k1, k2, if_neg x61, if_pos x, if_pos z1]
      simp only [z1, if_true]
      rfl
    have x33 : ¬ nI c = 33 := nI_ne (m := 33) (by omega) (by decide) c33
    by_cases c60 : c = 60
    · have k1 : sgk c d = 14 := by rw [hD, c60]; rfl
      have k2 : sgl c d = 2 := by rw [hD, c60]; rfl
      have x : nI c = 60 := by rw [c60]; rfl
      have z1 : (0 : Int32) < 14 := by decide
      rw [k1, k2, if_neg x61, if_neg x33, if_pos x, if_pos z1]
      simp only [z1, if_true]
      rfl
    have x60 : ¬ nI c = 60 := nI_ne (m := 60) (by omega) (by decide) c60
    have k2 : sgl c d = 1 := by simp [sgl, c61, c33, c60]
    rw [if_neg x61, if_neg x33, if_neg x60, if_neg z0, k2]
    by_cases c59' : c = 59
    · have k1 : sgk c d = 4 := by simp [sgk, c61, c33, c60, c59']
      have x : nI c = 59 := by rw [c59']; rfl
      rw [k1, if_pos x]
      exact fin0 _
    have x59' : ¬ nI c = 59 := nI_ne (m := 59) (by omega) (by decide) c59'
    by_cases c40' : c = 40
    · have k1 : sgk c d = 6 := by simp [sgk, c61, c33, c60, c40']
      have x : nI c = 40 := by rw [c40']; rfl
      rw [k1, if_neg x59', if_pos x]
      exact fin0 _
    have x40' : ¬ nI c = 40 := nI_ne (m := 40) (by omega) (by decide) c40'
    by_cases c41' : c = 41
    · have k1 : sgk c d = 7 := by simp [sgk, c61, c33, c60, c41']
      have x : nI c = 41 := by rw [c41']; rfl
      rw [k1, if_neg x59', if_neg x40', if_pos x]
      exact fin0 _
    have x41' : ¬ nI c = 41 := nI_ne (m := 41) (by omega) (by decide) c41'
    by_cases c43' : c = 43
    · have k1 : sgk c d = 8 := by simp [sgk, c61, c33, c60, c43']
      have x : nI c = 43 := by rw [c43']; rfl
      rw [k1, if_neg x59', if_neg x40', if_neg x41', if_pos x]
      exact fin0 _
    have x43' : ¬ nI c = 43 := nI_ne (m := 43) (by omega) (by decide) c43'
    by_cases c45' : c = 45
    · have k1 : sgk c d = 9 := by simp [sgk, c61, c33, c60, c45']
      have x : nI c = 45 := by rw [c45']; rfl
      rw [k1, if_neg x59', if_neg x40', if_neg x41', if_neg x43', if_pos x]
      exact fin0 _
    have x45' : ¬ nI c = 45 := nI_ne (m := 45) (by omega) (by decide) c45'
    by_cases c42' : c = 42
    · have k1 : sgk c d = 10 := by simp [sgk, c61, c33, c60, c42']
      have x : nI c = 42 := by rw [c42']; rfl
      rw [k1, if_neg x59', if_neg x40', if_neg x41', if_neg x43', if_neg x45', if_pos x]
      exact fin0 _
    have x42' : ¬ nI c = 42 := nI_ne (m := 42) (by omega) (by decide) c42'
    have k1 : sgk c d = 3 := by simp [sgk, c61, c33, c60, c59', c40', c41', c43', c45', c42']
    rw [k1, if_neg x59', if_neg x40', if_neg x41', if_neg x43', if_neg x45', if_neg x42', if_neg x60]
    exact fin0 _
  · have D : ¬ nI d = 61 := nI_ne (m := 61) (by omega) (by decide) hD
    have k2 : sgl c d = 1 := by simp [sgl, hD]
    rw [if_neg D, if_neg z0, k2]
    by_cases c59' : c = 59
    · have k1 : sgk c d = 4 := by simp [sgk, hD, c59']
      have x : nI c = 59 := by rw [c59']; rfl
      rw [k1, if_pos x]
      exact fin0 _
    have x59' : ¬ nI c = 59 := nI_ne (m := 59) (by omega) (by decide) c59'
    by_cases c40' : c = 40
    · have k1 : sgk c d = 6 := by simp [sgk, hD, c40']
      have x : nI c = 40 := by rw [c40']; rfl
      rw [k1, if_neg x59', if_pos x]
      exact fin0 _
    have x40' : ¬ nI c = 40 := nI_ne (m := 40) (by omega) (by decide) c40'
    by_cases c41' : c = 41
    · have k1 : sgk c d = 7 := by simp [sgk, hD, c41']
      have x : nI c = 41 := by rw [c41']; rfl
      rw [k1, if_neg x59', if_neg x40', if_pos x]
      exact fin0 _
    have x41' : ¬ nI c = 41 := nI_ne (m := 41) (by omega) (by decide) c41'
    by_cases c43' : c = 43
    · have k1 : sgk c d = 8 := by simp [sgk, hD, c43']
      have x : nI c = 43 := by rw [c43']; rfl
      rw [k1, if_neg x59', if_neg x40', if_neg x41', if_pos x]
      exact fin0 _
    have x43' : ¬ nI c = 43 := nI_ne (m := 43) (by omega) (by decide) c43'
    by_cases c45' : c = 45
    · have k1 : sgk c d = 9 := by simp [sgk, hD, c45']
      have x : nI c = 45 := by rw [c45']; rfl
      rw [k1, if_neg x59', if_neg x40', if_neg x41', if_neg x43', if_pos x]
      exact fin0 _
    have x45' : ¬ nI c = 45 := nI_ne (m := 45) (by omega) (by decide) c45'
    by_cases c42' : c = 42
    · have k1 : sgk c d = 10 := by simp [sgk, hD, c42']
      have x : nI c = 42 := by rw [c42']; rfl
      rw [k1, if_neg x59', if_neg x40', if_neg x41', if_neg x43', if_neg x45', if_pos x]
      exact fin0 _
    have x42' : ¬ nI c = 42 := nI_ne (m := 42) (by omega) (by decide) c42'
    by_cases c60' : c = 60
    · have k1 : sgk c d = 13 := by simp [sgk, hD, c60']
      have x : nI c = 60 := by rw [c60']; rfl
      rw [k1, if_neg x59', if_neg x40', if_neg x41', if_neg x43', if_neg x45', if_neg x42', if_pos x]
      exact fin0 _
    have x60' : ¬ nI c = 60 := nI_ne (m := 60) (by omega) (by decide) c60'
    have k1 : sgk c d = 3 := by simp [sgk, hD, c59', c40', c41', c43', c45', c42', c60']
    rw [k1, if_neg x59', if_neg x40', if_neg x41', if_neg x43', if_neg x45', if_neg x42', if_neg x60']
    exact fin0 _
theorem run_ex (p : Nat → Bool) (n : Nat) : ∀ d i, d + i = n → ∃ e, i ≤ e ∧ e ≤ n ∧ (∀ j, i ≤ j → j < e → p j = true) ∧ (e < n → p e = false) := by
  intro d
  induction d with
  | zero => intro i h; exact ⟨i, Nat.le_refl _, by omega, fun j q1 q2 => by omega, fun q => by omega⟩
  | succ d ih =>
    intro i h
    cases hp : p i with
    | false => exact ⟨i, Nat.le_refl _, by omega, fun j q1 q2 => by omega, fun _ => hp⟩
    | true =>
      obtain ⟨e, e1, e2, e3, e4⟩ := ih (i + 1) (by omega)
      refine ⟨e, by omega, e2, fun j q1 q2 => ?_, e4⟩
      by_cases q : j = i
      · rw [q]; exact hp
      · exact e3 j (by omega) q2
/-- the tokens so far -/
def SQ (C : Nat → Nat) (n : Nat) (b : am_S) (t : Nat) (K : Nat → Nat) (V : Nat → Int32) (P X : Nat → Nat) : Prop := X 0 = 0 ∧ ∀ s, s < t → TA C n (X s) (K s) (V s) (P s) (X (s + 1)) ∧ b.1 61 s = nI (K s) ∧ b.1 62 s = nI (P s) ∧ (K s = 2 → b.1 63 s = V s) ∧ K s < 34
theorem SQ.ext {b b' : am_S} {t k st p' : Nat} {v : Int32} {K : Nat → Nat} {V : Nat → Int32} {P X : Nat → Nat} (h : SQ C n b t K V P X) (hT : TA C n (X t) k v st p') (hk : k < 34) (h61 : ∀ s, b'.1 61 s = if s = t then nI k else b.1 61 s) (h62 : ∀ s, b'.1 62 s = if s = t then nI st else b.1 62 s) (h63 : ∀ s, s ≠ t → b'.1 63 s = b.1 63 s) (h63' : k = 2 → b'.1 63 t = v) : SQ C n b' (t + 1) (fun s => if s = t then k else K s) (fun s => if s = t then v else V s) (fun s => if s = t then st else P s) (fun s => if s = t + 1 then p' else X s) := by
  refine ⟨by simp [h.1], fun s hs => ?_⟩
  by_cases e : s = t
  · subst e
    simp only [if_true]
    rw [if_neg (show ¬ s = s + 1 by omega)]
    exact ⟨hT, by rw [h61, if_pos rfl], by rw [h62, if_pos rfl], h63', hk⟩
  · obtain ⟨q1, q2, q3, q4, q5⟩ := h.2 s (by omega)
    simp only [if_neg e]
    rw [if_neg (show ¬ s = t + 1 by omega), if_neg (show ¬ s + 1 = t + 1 by omega)]
    exact ⟨q1, by rw [h61, if_neg e]; exact q2, by rw [h62, if_neg e]; exact q3, fun z => by rw [h63 s e]; exact q4 z, q5⟩
/-- all tokens -/
def RT (C : Nat → Nat) (n : Nat) (b : am_S) (T : Nat) (K : Nat → Nat) (V : Nat → Int32) (P X : Nat → Nat) : Prop := 0 < T ∧ T ≤ 401 ∧ SQ C n b T K V P X ∧ (∀ s, s + 1 < T → K s ≠ 0) ∧ (T = 401 ∨ K (T - 1) = 0)
theorem cut_loop : ∀ (F i t : Nat) (b : am_S) (K : Nat → Nat) (V : Nat → Int32) (P X : Nat → Nat), tx b C n → b.1 58 10 = nI t → t ≤ 401 → SQ C n b t K V P X → (∀ s, s < t → K s ≠ 0) → X t ≤ i → i ≤ n → (∀ j, X t ≤ j → j < i → isB (C j) = true) → n < i + F → ∃ (b' : am_S) (T : Nat) (K' : Nat → Nat) (V' : Nat → Int32) (P' X' : Nat → Nat), (f_X12_cut_L7 F (nI i) b = some (.inl ((), b')) ∨ f_X12_cut_L7 F (nI i) b = some (.inr ((), b'))) ∧ RT C n b' T K' V' P' X' ∧ rw_on [58, 61, 62, 63, 64] b' b ∧ ∀ i, i ≠ 10 → b'.1 58 i = b.1 58 i := by
  intro F
  induction F with
  | zero => intro i t b K V P X h e ht hS hK h1 h2 h3 h4; omega
  | succ F ih =>
    intro i t b K V P X h e ht hS hK h1 h2 h3 h4
    have hn := h.2.1
    by_cases ht4 : 400 < t
    · have d0 : (400 : Int32) < nI t := nI_lt (a := 400) ht4 (by omega)
      have et : t = 401 := by omega
      exact ⟨b, t, K, V, P, X, Or.inr (by rw [f_X12_cut_L7, e, if_pos d0]), ⟨by omega, ht, hS, fun s hs => hK s (by omega), Or.inl et⟩, rw_on.refl _ _, fun _ _ => rfl⟩
    · have d0 : ¬ (400 : Int32) < nI t := nI_nlt (a := 400) (by omega) (by decide)
      have a1 := at_M h (show i ≤ 4000 by omega)
      by_cases hi : i < n
      · have d1 : nI i < nI n := nI_lt hi (by omega)
        have ec : cM C n i = C i := by unfold cM; rw [if_pos hi]
        rw [ec] at a1
        have hc := (h.2.2.1 i hi).2
        -- what a token brings
        have step : ∀ (k p' : Nat) (v w : Int32) (b1 : am_S), i < p' → p' ≤ n → k < 34 → k ≠ 0 → TA C n (X t) k v i p' → b1.1 58 10 = nI (t + 1) → (∀ i, i ≠ 10 → b1.1 58 i = b.1 58 i) → (∀ s, b1.1 61 s = if s = t then nI k else b.1 61 s) → (∀ s, b1.1 62 s = if s = t then nI i else b.1 62 s) → (∀ s, b1.1 63 s = if s = t then w else b.1 63 s) → (k = 2 → w = v) → rw_on [58, 61, 62, 63, 64] b1 b → f_X12_cut_L7 (F + 1) (nI i) b = f_X12_cut_L7 F (nI p') b1 → ∃ (b' : am_S) (T : Nat) (K' : Nat → Nat) (V' : Nat → Int32) (P' X' : Nat → Nat), (f_X12_cut_L7 (F + 1) (nI i) b = some (.inl ((), b')) ∨ f_X12_cut_L7 (F + 1) (nI i) b = some (.inr ((), b'))) ∧ RT C n b' T K' V' P' X' ∧ rw_on [58, 61, 62, 63, 64] b' b ∧ ∀ i, i ≠ 10 → b'.1 58 i = b.1 58 i := by
          intro k p' v w b1 y1 y2 y3 y4 y5 y6 y7 y8 y9 y10 y11 y12 y13
          have hS' := hS.ext y5 y3 y8 y9 (fun s hs => by rw [y10, if_neg hs]) (fun z => by rw [y10, if_pos rfl]; exact y11 z)
          obtain ⟨b', T, K', V', P', X', g1, g2, g3, g4⟩ := ih p' (t + 1) b1 _ _ _ _ (h.on y12 (by simp) (by simp) (y7 4 (by decide))) y6 (by omega) hS' (fun s hs => by
            by_cases q : s = t
            · simp only [if_pos q]; exact y4
            · simp only [if_neg q]; exact hK s (by omega)) (by simp) y2 (fun j q1 q2 => by simp at q1; omega) (by omega)
          rw [y13]
          exact ⟨b', T, K', V', P', X', g1, g2, g3.trans y12, fun i hi => (g4 i hi).trans (y7 i hi)⟩
        by_cases hb : isB (C i) = true
        · obtain ⟨b', T, K', V', P', X', g1, g2⟩ := ih (i + 1) t b K V P X h e ht hS hK (by omega) (by omega) (fun j q1 q2 => by
            by_cases q : j = i
            · rw [q]; exact hb
            · exact h3 j q1 (by omega)) (by omega)
          have key : ∀ c, c < 256 → isB c = true → nI c = 9 ∨ nI c = 10 ∨ nI c = 13 ∨ nI c = 32 := by decide +kernel
          have d4 : nI i + 1 = nI (i + 1) := nI_1 i
          have st1 : f_X12_cut_L7 (F + 1) (nI i) b = f_X12_cut_L7 F (nI (i + 1)) b := by
            rw [f_X12_cut_L7, e, if_neg d0, bd_some a1, h.1, if_pos d1]
            simp only [am_jn]
            rw [d4]
            by_cases q1 : nI (C i) = 9
            · rw [if_pos q1]
            · rw [if_neg q1]
              by_cases q2 : nI (C i) = 10
              · rw [if_pos q2]
              · rw [if_neg q2]
                by_cases q3 : nI (C i) = 13
                · rw [if_pos q3]
                · rw [if_neg q3, if_pos]
                  rcases key (C i) hc hb with z | z | z | z
                  · exact absurd z q1
                  · exact absurd z q2
                  · exact absurd z q3
                  · exact z
          rw [st1]
          exact ⟨b', T, K', V', P', X', g1, g2⟩
        · have hb : isB (C i) = false := by simpa using hb
          have key : ∀ c, c < 256 → isB c = false → ¬ nI c = 9 ∧ ¬ nI c = 10 ∧ ¬ nI c = 13 ∧ ¬ nI c = 32 := by decide +kernel
          obtain ⟨n9, n10, n13, n32⟩ := key (C i) hc hb
          have l1 := lt_m b (C i) hc
          have dd := dg_m b (C i) hc
          cases hl : isL (C i) with
          | true =>
            obtain ⟨p', p1, p2, p3, p4⟩ := run_ex (fun j => isL (C j)) n (n - i) i (by omega)
            have p5 : i < p' := by
              apply Decidable.byContradiction
              intro q
              have : p' = i := by omega
              rw [this] at p4
              have := p4 hi
              simp only [hl] at this
              cases this
            have cl := cl_letters h p2 p4 am_FU 0 (by omega) p3 (by unfold am_FU; omega)
            have cl : f_X12_cut_L85 am_FU (nI i) 0 (lN 0) b = _ := cl
            have hLm : ∀ j, j < p' - i → 97 ≤ C (i + j) ∧ C (i + j) ≤ 122 := fun j hj => isL_r (p3 (i + j) (by omega) (by omega))
            have ep : nI i + nI (p' - i) = nI p' := by rw [nI_add]; congr 1; omega
            have pre : ∀ (k : Nat) (b1 : am_S), k < 34 → k ≠ 0 → k ≠ 2 → WK C i (p' - i) k → f_X12_token b (nI k) (nI i) 0 (lN (nb C i (min (p' - i) 8))) = some ((), b1) → f_X12_cut_L7 (F + 1) (nI i) b = f_X12_cut_L7 F (nI p') b1 → ∃ (b' : am_S) (T : Nat) (K' : Nat → Nat) (V' : Nat → Int32) (P' X' : Nat → Nat), (f_X12_cut_L7 (F + 1) (nI i) b = some (.inl ((), b')) ∨ f_X12_cut_L7 (F + 1) (nI i) b = some (.inr ((), b'))) ∧ RT C n b' T K' V' P' X' ∧ rw_on [58, 61, 62, 63, 64] b' b ∧ ∀ i, i ≠ 10 → b'.1 58 i = b.1 58 i := by
              intro k b1 y1 y2 y3 y4 y5 y6
              obtain ⟨b2, z1, z2, z3, z4, z5, z6, z7⟩ := tok_M (b := b) (t := t) (by omega) e (nI k) (nI i) 0 (lN (nb C i (min (p' - i) 8)))
              rw [y5] at z1
              have z1 : b1 = b2 := congrArg Prod.snd (Option.some.inj z1)
              subst z1
              exact step k p' 0 0 b1 p5 p2 y1 y2 ⟨h1, by omega, h3, Or.inr ⟨hi, hb, p5, p2, Or.inl ⟨hl, p3, p4, y4⟩⟩⟩ z2 z3 z4 z5 z6 (fun q => absurd q y3) z7 y6
            rw [hl] at l1
            by_cases q8 : 8 < p' - i
            · have d8 : (8 : Int32) < nI (p' - i) := nI_lt (a := 8) q8 (by omega)
              have d7 : (7 : Int32) < nI (p' - i) := nI_lt (a := 7) (by omega) (by omega)
              obtain ⟨b1, z1, -⟩ := tok_M (b := b) (t := t) (by omega) e 3 (nI i) 0 (lN (nb C i (min (p' - i) 8)))
              refine pre 3 b1 (by decide) (by decide) (by decide) (Or.inl ⟨q8, rfl⟩) z1 ?_
              rw [f_X12_cut_L7, e, if_neg d0, bd_some a1, h.1, if_pos d1]
              simp only [am_jn]
              rw [if_neg n9, if_neg n10, if_neg n13, if_neg n32, bd_some l1, show mc_i true = 1 from rfl, if_neg (by decide), lp_r cl]
              simp only
              rw [if_pos d8, if_pos d7, bd_some z1, ep]
            · have d8 : ¬ (8 : Int32) < nI (p' - i) := nI_nlt (a := 8) (by omega) (by decide)
              by_cases q7 : 7 < p' - i
              · have d7 : (7 : Int32) < nI (p' - i) := nI_lt (a := 7) q7 (by omega)
                obtain ⟨b1, z1, -⟩ := tok_M (b := b) (t := t) (by omega) e 1 (nI i) 0 (lN (nb C i (min (p' - i) 8)))
                refine pre 1 b1 (by decide) (by decide) (by decide) (Or.inr ⟨by omega, Or.inr ⟨fun bb hbb hw => ?_, rfl⟩⟩) z1 ?_
                · have := (wd_txt bb hbb).2.2.1
                  have := hw.1
                  omega
                · rw [f_X12_cut_L7, e, if_neg d0, bd_some a1, h.1, if_pos d1]
                  simp only [am_jn]
                  rw [if_neg n9, if_neg n10, if_neg n13, if_neg n32, bd_some l1, show mc_i true = 1 from rfl, if_neg (by decide), lp_r cl]
                  simp only
                  rw [if_neg d8, if_pos d7, bd_some z1, ep]
              · have d7 : ¬ (7 : Int32) < nI (p' - i) := nI_nlt (a := 7) (by omega) (by decide)
                have e8 : min (p' - i) 8 = p' - i := Nat.min_eq_left (by omega)
                obtain ⟨ks1, ks2⟩ := ks_loop h (st := i) (m := p' - i) (by omega) hLm (nI i) (nI (p' - i)) am_FU 0 1 (by omega) (by unfold am_FU; omega)
                by_cases hw : ∃ j, j < 14 ∧ wm C i (p' - i) (pm j)
                · obtain ⟨j, j1, j2⟩ := hw
                  have ks := ks2 j (by omega) j1 j2
                  have ks : f_X12_cut_L146 am_FU (nI i) (nI (p' - i)) (lN (nb C i (p' - i))) 1 0 b = _ := ks
                  rw [← e8] at ks
                  rw [e8] at ks
                  obtain ⟨f1, f2, -⟩ := pm_f j j1
                  obtain ⟨b1, z1, -⟩ := tok_M (b := b) (t := t) (by omega) e (nI (20 + j)) (nI i) 0 (lN (nb C i (min (p' - i) 8)))
                  refine pre (20 + j) b1 (by omega) (by omega) (by omega) (Or.inr ⟨by omega, Or.inl ⟨pm j, f1, j2, f2.symm⟩⟩) z1 ?_
                  rw [e8] at z1 cl
                  rw [f_X12_cut_L7, e, if_neg d0, bd_some a1, h.1, if_pos d1]
                  simp only [am_jn]
                  rw [if_neg n9, if_neg n10, if_neg n13, if_neg n32, bd_some l1, show mc_i true = 1 from rfl, if_neg (by decide), lp_r cl]
                  simp only
                  rw [if_neg d8, if_neg d7, lp_r ks, bd_some z1, ep]
                · have ks := ks1 (fun j _ q2 q3 => hw ⟨j, q2, q3⟩)
                  have ks : f_X12_cut_L146 am_FU (nI i) (nI (p' - i)) (lN (nb C i (p' - i))) 1 0 b = _ := ks
                  obtain ⟨b1, z1, -⟩ := tok_M (b := b) (t := t) (by omega) e 1 (nI i) 0 (lN (nb C i (min (p' - i) 8)))
                  refine pre 1 b1 (by decide) (by decide) (by decide) (Or.inr ⟨by omega, Or.inr ⟨fun bb hbb hwb => ?_, rfl⟩⟩) z1 ?_
                  · obtain ⟨j, j1, j2⟩ := pm_s bb hbb
                    exact hw ⟨j, j1, by rw [j2]; exact hwb⟩
                  · rw [e8] at z1 cl
                    rw [f_X12_cut_L7, e, if_neg d0, bd_some a1, h.1, if_pos d1]
                    simp only [am_jn]
                    rw [if_neg n9, if_neg n10, if_neg n13, if_neg n32, bd_some l1, show mc_i true = 1 from rfl, if_neg (by decide), lp_r cl]
                    simp only
                    rw [if_neg d8, if_neg d7, lp_r ks, bd_some z1, ep]
          | false =>
            rw [hl] at l1
            cases hdg : isD (C i) with
            | true =>
              rw [hdg] at dd
              obtain ⟨p', p1, p2, p3, p4⟩ := run_ex (fun j => isD (C j)) n (n - i) i (by omega)
              have p5 : i < p' := by
                apply Decidable.byContradiction
                intro q
                have : p' = i := by omega
                rw [this] at p4
                have := p4 hi
                simp only [hdg] at this
                cases this
              have cl := cl_digits h p2 p4 am_FU 0 (by omega) p3 (by unfold am_FU; omega)
              have cl : f_X12_cut_L208 am_FU (nI i) 0 0 b = _ := cl
              have ep : nI i + nI (p' - i) = nI p' := by rw [nI_add]; congr 1; omega
              by_cases q4 : 4 < p' - i
              · have d6 : (4 : Int32) < nI (p' - i) := nI_lt (a := 4) q4 (by omega)
                obtain ⟨b1, z1, z2, z3, z4, z5, z6, z7⟩ := tok_M (b := b) (t := t) (by omega) e 3 (nI i) (nvI C i (min (p' - i) 4)) (lN 0)
                refine step 3 p' 0 _ b1 p5 p2 (by decide) (by decide) ⟨h1, by omega, h3, Or.inr ⟨hi, hb, p5, p2, Or.inr (Or.inl ⟨hl, hdg, p3, p4, by rw [if_pos q4], fun q => by omega⟩)⟩⟩ z2 z3 z4 z5 z6 (fun q => by cases q) z7 ?_
                rw [f_X12_cut_L7, e, if_neg d0, bd_some a1, h.1, if_pos d1]
                simp only [am_jn]
                rw [if_neg n9, if_neg n10, if_neg n13, if_neg n32, bd_some l1, show mc_i false = 0 from rfl, if_pos rfl, bd_some dd, show mc_i true = 1 from rfl, if_neg (by decide), lp_r cl]
                simp only
                rw [if_pos d6, bd_some z1, ep]
              · have d6 : ¬ (4 : Int32) < nI (p' - i) := nI_nlt (a := 4) (by omega) (by decide)
                obtain ⟨b1, z1, z2, z3, z4, z5, z6, z7⟩ := tok_M (b := b) (t := t) (by omega) e 2 (nI i) (nvI C i (min (p' - i) 4)) (lN 0)
                have e4 : min (p' - i) 4 = p' - i := Nat.min_eq_left (by omega)
                refine step 2 p' (nvI C i (p' - i)) _ b1 p5 p2 (by decide) (by decide) ⟨h1, by omega, h3, Or.inr ⟨hi, hb, p5, p2, Or.inr (Or.inl ⟨hl, hdg, p3, p4, by rw [if_neg q4], fun q => rfl⟩)⟩⟩ z2 z3 z4 z5 z6 (fun q => by rw [e4]) z7 ?_
                rw [f_X12_cut_L7, e, if_neg d0, bd_some a1, h.1, if_pos d1]
                simp only [am_jn]
                rw [if_neg n9, if_neg n10, if_neg n13, if_neg n32, bd_some l1, show mc_i false = 0 from rfl, if_pos rfl, bd_some dd, show mc_i true = 1 from rfl, if_neg (by decide), lp_r cl]
                simp only
                rw [if_neg d6, bd_some z1, ep]
            | false =>
              rw [hdg] at dd
              have d4 : nI i + 1 = nI (i + 1) := nI_1 i
              have a2 := at_M h (show i + 1 ≤ 4000 by omega)
              have hd2 := cM_lt h (i + 1)
              have sg := sg_M b (nI i) hc hd2
              have es : cM C n (i + 1) = if i + 1 < n then C (i + 1) else 0 := rfl
              generalize hdd : (if i + 1 < n then C (i + 1) else 0) = d at es
              rw [es] at a2 sg hd2
              obtain ⟨b1, z1, z2, z3, z4, z5, z6, z7⟩ := tok_M (b := b) (t := t) (by omega) e (nI (sgk (C i) d)) (nI i) 0 (lN 0)
              have kr : sgk (C i) d < 34 ∧ sgk (C i) d ≠ 0 ∧ sgk (C i) d ≠ 2 := by
                unfold sgk
                repeat' split
                all_goals decide
              have sr : sgl (C i) d = 1 ∨ sgl (C i) d = 2 ∧ d = 61 := by
                unfold sgl
                split
                · rename_i q; exact Or.inr ⟨rfl, q.1⟩
                · exact Or.inl rfl
              have pl : i + sgl (C i) d ≤ n := by
                rcases sr with q | ⟨q1, q2⟩
                · omega
                · have : i + 1 < n := by
                    apply Decidable.byContradiction
                    intro z
                    rw [if_neg z] at hdd
                    omega
                  omega
              have ep : nI i + nI (sgl (C i) d) = nI (i + sgl (C i) d) := nI_add _ _
              refine step (sgk (C i) d) (i + sgl (C i) d) 0 0 b1 (by rcases sr with q | ⟨q, -⟩ <;> omega) pl kr.1 kr.2.1 ⟨h1, by omega, h3, Or.inr ⟨hi, hb, by rcases sr with q | ⟨q, -⟩ <;> omega, pl, Or.inr (Or.inr ⟨hl, hdg, by rw [hdd], by rw [hdd]⟩)⟩⟩ z2 z3 z4 z5 z6 (fun q => absurd q kr.2.2) z7 ?_
              have sg2 : f_X12_sign b (nI i) (nI (C i)) (nI d) = some (nI (sgl (C i) d), b1) := by rw [sg, bd_some z1]
              rw [f_X12_cut_L7, e, if_neg d0, bd_some a1, h.1, if_pos d1]
              simp only [am_jn]
              rw [if_neg n9, if_neg n10, if_neg n13, if_neg n32, bd_some l1, show mc_i false = 0 from rfl, if_pos rfl, bd_some dd, show mc_i false = 0 from rfl, if_pos rfl, d4, bd_some a2, bd_some sg2, ep]
      · have d1 : ¬ nI i < nI n := nI_nlt (by omega) (by omega)
        have ei : i = n := by omega
        subst ei
        obtain ⟨b1, z1, z2, z3, z4, z5, z6, z7⟩ := tok_M (b := b) (t := t) (by omega) e 0 (nI i) 0 (lN 0)
        have hT : TA C i (X t) 0 0 i i := ⟨h1, Nat.le_refl _, h3, Or.inl ⟨rfl, rfl, rfl⟩⟩
        have hS' := hS.ext hT (by decide) z4 z5 (fun s hs => by rw [z6, if_neg hs]) (fun q => by cases q)
        refine ⟨b1, t + 1, _, _, _, _, Or.inl ?_, ⟨by omega, by omega, hS', fun s hs => ?_, Or.inr ?_⟩, z7, z3⟩
        · rw [f_X12_cut_L7, e, if_neg d0, bd_some a1, h.1, if_neg d1, bd_some z1]
        · simp only [if_neg (show ¬ s = t by omega)]
          exact hK s (by omega)
        · simp
theorem cut_all {b : am_S} (h : tx b C n) : ∃ (b' : am_S) (T : Nat) (K : Nat → Nat) (V : Nat → Int32) (P X : Nat → Nat), f_X12_cut b = some ((), b') ∧ RT C n b' T K V P X ∧ rw_on [58, 61, 62, 63, 64] b' b ∧ ∀ i, i ≠ 10 → b'.1 58 i = b.1 58 i := by
  have o : rw_on [58, 61, 62, 63, 64] (am_wI b 58 10 0) b := (rw_on.refl _ _).w (by simp) _ _
  have h' : tx (am_wI b 58 10 0) C n := h.on o (by simp) (by simp) (by simp [rl_wI])
  obtain ⟨b', T, K, V, P, X, g1, g2, g3, g4⟩ := cut_loop am_FU 0 0 (am_wI b 58 10 0) (fun _ => 0) (fun _ => 0) (fun _ => 0) (fun _ => 0) h' (by simp [rl_wI]; rfl) (by omega) ⟨rfl, fun s hs => by omega⟩ (fun s hs => by omega) (Nat.le_refl _) (by omega) (fun j _ q => by omega) (by have := h.2.1; unfold am_FU; omega)
  refine ⟨b', T, K, V, P, X, ?_, g2, g3.trans o, fun i hi => (g4 i hi).trans (by simp [rl_wI, hi])⟩
  rcases g1 with g1 | g1
  · have g1 : f_X12_cut_L7 am_FU 0 (am_wI b 58 10 0) = _ := g1
    rw [f_X12_cut, lp_l g1]
  · have g1 : f_X12_cut_L7 am_FU 0 (am_wI b 58 10 0) = _ := g1
    rw [f_X12_cut, lp_r g1]
end CUT
