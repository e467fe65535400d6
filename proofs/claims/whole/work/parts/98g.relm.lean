/-! ===== what holds between the two sides, all of it ===== -/
def RelM (sw : Bool) (a b : am_S) : Prop := rl_x [] a b ∧ ri_tape a ∧ ri_now a ∧ ri_kinds a ∧ ri_fams a ∧ ri_lent (mg a b) ∧ ri_rings a ∧ ri_figs a ∧ ri_ords a ∧ RR (am_ru sw) a b ∧ (∀ j, 8 ≤ j → a.1 57 j = 0) ∧ (∀ j, 8 ≤ j → b.1 102 j = 0) ∧ sd3 a ∧ kys b
def Rel (sw : Bool) (s : am_S) : Prop := RelM sw s s
theorem tape_on {a a' : am_S} {L : List Nat} (h : ri_tape a) (o : rw_on L a' a) (n1 : 1 ∉ L) : ri_tape a' := h.fr (congrFun (o 1 n1).1 1)
theorem now_on {a a' : am_S} {L : List Nat} (h : ri_now a) (o : rw_on L a' a) (n1 : 0 ∉ L) : ri_now a' := h.fr (congrFun (o 0 n1).1 5)
theorem kinds_on {a a' : am_S} {L : List Nat} (h : ri_kinds a) (o : rw_on L a' a) (n1 : 17 ∉ L) (n2 : 18 ∉ L) (n3 : 19 ∉ L) (n4 : 20 ∉ L) : ri_kinds a' := h.fr (congrFun (o 17 n1).1 0) (o 18 n2).1 (o 19 n3).1 (o 20 n4).1
theorem fams_on {a a' : am_S} {L : List Nat} (h : ri_fams a) (o : rw_on L a' a) (n1 : 21 ∉ L) (n2 : 25 ∉ L) (n3 : 23 ∉ L) : ri_fams a' := h.fr (congrFun (o 21 n1).1 0) (o 25 n2).1 (o 23 n3).1
theorem rings_on {a a' : am_S} {L : List Nat} (h : ri_rings a) (o : rw_on L a' a) (n1 : 32 ∉ L) (n2 : 33 ∉ L) (n3 : 17 ∉ L) (n4 : 36 ∉ L) (n5 : 37 ∉ L) (n6 : 21 ∉ L) : ri_rings a' := h.fr (congrFun (o 32 n1).1 0) (o 33 n2).1 (congrFun (o 32 n1).1 2) (congrFun (o 17 n3).1 0) (o 36 n4).1 (o 37 n5).1 (congrFun (o 21 n6).1 0)
theorem figs_on {a a' : am_S} {L : List Nat} (h : ri_figs a) (o : rw_on L a' a) (n1 : 39 ∉ L) (n2 : 45 ∉ L) (n3 : 32 ∉ L) (n4 : 21 ∉ L) (n5 : 40 ∉ L) (n6 : 37 ∉ L) (n7 : 42 ∉ L) (n8 : 46 ∉ L) (n9 : 43 ∉ L) (n10 : 48 ∉ L) : ri_figs a' := h.fr (congrFun (o 39 n1).1 1) (congrFun (o 39 n1).1 7) (o 45 n2).1 (congrFun (o 32 n3).1 2) (congrFun (o 21 n4).1 0) (o 40 n5).1 (o 37 n6).1 (o 42 n7).1 (congrFun (o 46 n8).1 0) (o 43 n9).1 (o 48 n10).1
theorem ords_on {a a' : am_S} {L : List Nat} (h : ri_ords a) (o : rw_on L a' a) (n1 : 46 ∉ L) (n2 : 47 ∉ L) (n3 : 48 ∉ L) (n4 : 50 ∉ L) (n5 : 51 ∉ L) (n6 : 17 ∉ L) (n7 : 52 ∉ L) (n8 : 53 ∉ L) : ri_ords a' := h.fr (congrFun (o 46 n1).1 0) (o 47 n2).1 (o 48 n3).1 (o 50 n4).1 (o 51 n5).1 (congrFun (o 17 n6).1 0) (o 52 n7).1 (o 53 n8).1
theorem RR_on {sw : Bool} {a a' b b' : am_S} {L L' : List Nat} (h : RR (am_ru sw) a b) (o : rw_on L a' a) (o' : rw_on L' b' b) (n : ∀ c, 5 ≤ c → c ≤ 14 → c ∉ L) (n' : ∀ c, 66 ≤ c → c ≤ 79 → c ∉ L') (h18 : b'.1 58 18 = b.1 58 18) : RR (am_ru sw) a' b' := by
  have hR := ru_or sw
  exact h.fr (fun i q1 q2 => (o _ (n _ (by omega) (by omega))).1) (congrFun (o _ (n _ (by omega) (by omega))).1 2) (congrFun (o _ (n _ (by omega) (by omega))).1 0) h18 (fun c q1 q2 => (o' c (n' c q1 q2)).1)
theorem za_on {a a' : am_S} {L : List Nat} (h : ∀ j, 8 ≤ j → a.1 57 j = 0) (o : rw_on L a' a) (n : 57 ∉ L) : ∀ j, 8 ≤ j → a'.1 57 j = 0 := by rw [(o 57 n).1]; exact h
theorem zb_on {b b' : am_S} {L : List Nat} (h : ∀ j, 8 ≤ j → b.1 102 j = 0) (o : rw_on L b' b) (n : 102 ∉ L) : ∀ j, 8 ≤ j → b'.1 102 j = 0 := by rw [(o 102 n).1]; exact h
theorem sd_on {a a' : am_S} {L : List Nat} (h : sd3 a) (o : rw_on L a' a) (n : 3 ∉ L) : sd3 a' := by unfold sd3; rw [(o 3 n).1]; exact h
theorem ky_on {b b' : am_S} {L : List Nat} (h : kys b) (o : rw_on L b' b) (n : 65 ∉ L) : kys b' := by unfold kys; rw [(o 65 n).2]; exact h
/-- the relation looks at the first 58 cells of the one, and at the others of the other -/
theorem RelM.cg {sw : Bool} {a b a' b' : am_S} (h : RelM sw a b) (ha : ∀ c, c < 58 → a'.1 c = a.1 c ∧ a'.2 c = a.2 c) (hb : ∀ c, 58 ≤ c → b'.1 c = b.1 c ∧ b'.2 c = b.2 c) : RelM sw a' b' := by
  obtain ⟨h1, h2, h3, h4, h5, h6, h7, h8, h9, h10, h11, h12, h13, h14⟩ := h
  have hR := ru_or sw
  have d1 : ∀ p ∈ rl_rows, p.1 < 58 ∧ 58 ≤ p.2 := by decide
  have d2 : ∀ p ∈ rl_flds, p.1 < 58 := by decide
  have A : ∀ c, c < 58 → a'.1 c = a.1 c := fun c q => (ha c q).1
  refine ⟨⟨fun p hp q => ?_, fun p hp => ?_⟩, h2.fr (by rw [A 1 (by decide)]), h3.fr (by rw [A 0 (by decide)]), h4.fr (by rw [A 17 (by decide)]) (A 18 (by decide)) (A 19 (by decide)) (A 20 (by decide)), h5.fr (by rw [A 21 (by decide)]) (A 25 (by decide)) (A 23 (by decide)), ?_, h7.fr (by rw [A 32 (by decide)]) (A 33 (by decide)) (by rw [A 32 (by decide)]) (by rw [A 17 (by decide)]) (A 36 (by decide)) (A 37 (by decide)) (by rw [A 21 (by decide)]), h8.fr (by rw [A 39 (by decide)]) (by rw [A 39 (by decide)]) (A 45 (by decide)) (by rw [A 32 (by decide)]) (by rw [A 21 (by decide)]) (A 40 (by decide)) (A 37 (by decide)) (A 42 (by decide)) (by rw [A 46 (by decide)]) (A 43 (by decide)) (A 48 (by decide)), h9.fr (by rw [A 46 (by decide)]) (A 47 (by decide)) (A 48 (by decide)) (A 50 (by decide)) (A 51 (by decide)) (by rw [A 17 (by decide)]) (A 52 (by decide)) (A 53 (by decide)), h10.fr (fun i q1 q2 => A _ (by omega)) (by rw [A _ (by omega)]) (by rw [A _ (by omega)]) (by rw [(hb 58 (by decide)).1]) (fun c q1 q2 => (hb c (by omega)).1), ?_, ?_, ?_, ?_⟩
  · rw [A p.1 (d1 p hp).1, (hb p.2 (d1 p hp).2).1]; exact h1.1 p hp q
  · rw [A p.1 (d2 p hp), (hb 58 (by decide)).1]; exact h1.2 p hp
  · exact ri_lent.fr (s := mg a b) (t := mg a' b') h6 (show a'.1 21 6 = a.1 21 6 by rw [A 21 (by decide)]) (show b'.1 88 = b.1 88 from (hb 88 (by decide)).1) (show b'.1 89 = b.1 89 from (hb 89 (by decide)).1) (show b'.1 90 = b.1 90 from (hb 90 (by decide)).1) (show b'.1 91 = b.1 91 from (hb 91 (by decide)).1) (show a'.2 26 = a.2 26 from (ha 26 (by decide)).2)
  · rw [A 57 (by decide)]; exact h11
  · rw [(hb 102 (by decide)).1]; exact h12
  · unfold sd3; rw [A 3 (by decide)]; exact h13
  · unfold kys; rw [(hb 65 (by decide)).2]; exact h14
theorem tw2 {α : Type} {M' : α → am_S → am_S → Prop} {sw : Bool} {F G : am_S → Option (α × am_S)} {La Lb : List Nat} (hLa : ∀ c ∈ La, c < 58) (hLb : ∀ c ∈ Lb, 58 ≤ c) (hc : ∀ v a b a' b', M' v a b → (∀ c, c < 58 → a'.1 c = a.1 c ∧ a'.2 c = a.2 c) → (∀ c, 58 ≤ c → b'.1 c = b.1 c ∧ b'.2 c = b.2 c) → M' v a' b') (h : ∀ a b, RelM sw a b → ∃ v a' b', F a = some (v, a') ∧ G b = some (v, b') ∧ M' v a' b' ∧ rw_on La a' a ∧ rw_on Lb b' b) (s : am_S) (hs : RelM sw s s) : ∃ v s1 s2, F s = some (v, s1) ∧ G s1 = some (v, s2) ∧ M' v s2 s2 := by
  obtain ⟨v, a', b', h1, h2, h3, h4, h5⟩ := h s s hs
  have hs' : RelM sw s a' := hs.cg (fun _ _ => ⟨rfl, rfl⟩) (fun c hc' => h4 c (fun q => absurd (hLa c q) (by omega)))
  obtain ⟨v', a'', b'', k1, k2, k3, k4, k5⟩ := h s a' hs'
  rw [h1] at k1
  have k1 := Option.some.inj k1
  have e2 : v = v' := congrArg Prod.fst k1
  have e3 : a' = a'' := congrArg Prod.snd k1
  rw [← e2] at k2 k3
  rw [← e3] at k3
  exact ⟨v, a', b'', h1, k2, hc v a' b'' b'' b'' k3 (fun c hc' => k5 c (fun q => absurd (hLb c q) (by omega))) (fun _ _ => ⟨rfl, rfl⟩)⟩
theorem tw3 {α : Type} {sw : Bool} {F G : am_S → Option (α × am_S)} {La Lb : List Nat} (hLa : ∀ c ∈ La, c < 58) (hLb : ∀ c ∈ Lb, 58 ≤ c) (h : ∀ a b, RelM sw a b → ∃ v a' b', F a = some (v, a') ∧ G b = some (v, b') ∧ RelM sw a' b' ∧ rw_on La a' a ∧ rw_on Lb b' b) (s : am_S) (hs : Rel sw s) : ∃ v s1 s2, F s = some (v, s1) ∧ G s1 = some (v, s2) ∧ Rel sw s2 := tw2 (M' := fun _ a b => RelM sw a b) hLa hLb (fun _ _ _ _ _ q1 q2 q3 => q1.cg q2 q3) h s hs
/-- the same writes on states with the same cells from 58 on -/
def AG (x y : am_S) : Prop := ∀ c, 58 ≤ c → x.1 c = y.1 c ∧ x.2 c = y.2 c
theorem AG.w {x y : am_S} (h : AG x y) (c k : Nat) (z : Int32) : AG (am_wI x c k z) (am_wI y c k z) := by
  intro d hd
  by_cases e : d = c
  · subst e
    rw [rl_ws, rl_ws, (h d hd).1]
    exact ⟨rfl, (h d hd).2⟩
  · rw [rl_wr _ _ e, rl_wr _ _ e]; exact h d hd
theorem AG.on {x y : am_S} {L : List Nat} (h : rw_on L x y) (hL : ∀ c ∈ L, c < 58) : AG x y := fun c hc => h c (fun q => absurd (hL c q) (by omega))
theorem Rel.two {sw : Bool} {A B s2 : am_S} {L : List Nat} (h : RelM sw A B) (ho : rw_on L s2 A) (hL : ∀ c ∈ L, 58 ≤ c) (hg : AG s2 B) : Rel sw s2 := RelM.cg h (fun c hc => ho c (fun q => absurd (hL c q) (by omega))) hg
