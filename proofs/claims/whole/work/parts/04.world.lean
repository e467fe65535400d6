/-! ===== the abstract heap as a world of the kit ===== -/
def am_wd : List Cond := lw_tbl.filter goodWord
theorem am_wd_good : ∀ w ∈ am_wd, w ∈ lw_tbl ∧ goodWord w = true := fun w h => List.mem_filter.mp h
/-- a word by its place in the tables -/
theorem am_wat {w : Cond} (i : Nat) (h : lw_tbl[i]? = some w) (hg : goodWord w = true) : w ∈ am_wd := List.mem_filter.mpr ⟨List.mem_of_getElem? h, hg⟩
def am_ad (B scr : Nat) (adK : Nat → Nat) (n : Nat) : Nat := if n < 200 then B + n else if n = 500 then scr else adK (n - 1000)
def am_cv (ad : Nat → Nat) (v : Value) : Value := match v with
  | .ref n => .ref (ad n)
  | v => v
def am_rv (B : Nat) (n : Nat) : Value := match n with
  | 0 => .null
  | n + 1 => .ref (B + n)
def am_fv (B : Nat) (h : am_H) (c ci k : Nat) : Value := bif (am_fk ci).getD k true then .int (h.2.1 c k) else am_rv B (h.2.2.2 c k)
def am_ce (cA : Nat → ClassId) (B : Nat) (h : am_H) (c : Nat) : va_E := match am_sh[c]? with
  | some (.inl ci) => .inr (ci, (List.range (am_fk ci).length).map (am_fv B h c ci))
  | some (.inr (t, n)) => .inl (cA t, n, bif Nat.beq t 2 then .inr (.inl (h.2.2.1 c)) else .inl (h.2.1 c))
  | none => .inr (0, [])
def am_ws (cA : Nat → ClassId) (B : Nat) (h : am_H) : va_W := (List.range h.1).map fun c => (B + c, am_ce cA B h c)
def am_ty (cA : Nat → ClassId) : List (ClassId × FieldType) := [(cA 0, .int), (cA 1, .byte), (cA 2, .long), (cA 3, .boolean)]
def am_sz (c : Nat) : Nat := match am_sh[c]? with
  | some (.inl ci) => (am_fk ci).length
  | some (.inr (_, n)) => n
  | none => 0
def am_sl : Nat → Nat
  | 0 => 0
  | n + 1 => am_sl n + am_sz n
theorem am_sl_le {a b : Nat} (h : a ≤ b) : am_sl a ≤ am_sl b := by
  induction h with
  | refl => exact Nat.le_refl _
  | step _ ih => exact Nat.le_trans ih (Nat.le_add_right _ _)
theorem am_ws_at {cA : Nat → ClassId} {B : Nat} {h : am_H} {c : Nat} (hc : c < h.1) : (am_ws cA B h)[c]? = some (B + c, am_ce cA B h c) := by
  simp [am_ws, List.getElem?_map, List.getElem?_range hc]
theorem am_ws_in {cA : Nat → ClassId} {B : Nat} {h : am_H} {c : Nat} {q : Nat × va_E} (hq : (am_ws cA B h)[c]? = some q) : c < h.1 ∧ q = (B + c, am_ce cA B h c) := by
  have hl : c < h.1 := by
    have h1 := (List.getElem?_eq_some_iff.mp hq).1
    simpa [am_ws] using h1
  rw [am_ws_at hl] at hq
  exact ⟨hl, (Option.some.inj hq).symm⟩
theorem am_ws_D {cA : Nat → ClassId} {B : Nat} {h : am_H} : va_D (fun q => B ≤ q) (am_ws cA B h) := by
  refine ⟨fun i j x y hx hy e => ?_, fun k q hq => ?_⟩
  · obtain ⟨-, rfl⟩ := am_ws_in hx
    obtain ⟨-, rfl⟩ := am_ws_in hy
    dsimp only at e
    omega
  · obtain ⟨-, rfl⟩ := am_ws_in hq
    exact Nat.le_add_right _ _
theorem am_ws_set {cA : Nat → ClassId} {B : Nat} {h h' : am_H} {c : Nat} {e : va_E} (h1 : h'.1 = h.1) (h2 : am_ce cA B h' c = e) (h3 : ∀ c', c' ≠ c → am_ce cA B h' c' = am_ce cA B h c') : (am_ws cA B h).set c (B + c, e) = am_ws cA B h' := by
  apply List.ext_getElem?
  intro k
  rw [List.getElem?_set]
  by_cases hk : c = k
  · subst hk
    rw [if_pos rfl]
    by_cases hl : c < h.1
    · rw [if_pos (by simpa [am_ws] using hl), am_ws_at (by rw [h1]; exact hl), h2]
    · rw [if_neg (by simpa [am_ws] using hl), List.getElem?_eq_none (by simp [am_ws, h1]; omega)]
  · rw [if_neg hk]
    by_cases hl : k < h.1
    · rw [am_ws_at hl, am_ws_at (by rw [h1]; exact hl), h3 k (fun e => hk e.symm)]
    · rw [List.getElem?_eq_none (by simp [am_ws]; omega), List.getElem?_eq_none (by simp [am_ws, h1]; omega)]
theorem am_ws_push {cA : Nat → ClassId} {B : Nat} {h h' : am_H} {e : va_E} (h1 : h'.1 = h.1 + 1) (h2 : am_ce cA B h' h.1 = e) (h3 : ∀ c', c' ≠ h.1 → am_ce cA B h' c' = am_ce cA B h c') : am_ws cA B h ++ [(B + h.1, e)] = am_ws cA B h' := by
  unfold am_ws
  rw [h1, List.range_succ, List.map_append]
  congr 1
  · apply List.map_congr_left
    intro c hc
    rw [h3 c (Nat.ne_of_lt (List.mem_range.mp hc))]
  · simp [h2]
theorem am_up_row {α : Type} (f : Nat → Nat → α) (c k : Nat) (x : α) : am_up f c k x c = fun j => if j = k then x else f c j := by
  funext j
  simp [am_up]
theorem am_up_ne {α : Type} (f : Nat → Nat → α) {c c' : Nat} (k : Nat) (x : α) (h : c' ≠ c) : am_up f c k x c' = f c' := by
  funext j
  simp [am_up, h]
theorem am_zr_ne {α : Type} (f : Nat → Nat → α) {c c' : Nat} (x : α) (h : c' ≠ c) : am_zr f c x c' = f c' := by
  funext j
  simp [am_zr, h]
theorem am_zr_at {α : Type} (f : Nat → Nat → α) (c : Nat) (x : α) : am_zr f c x c = fun _ => x := by
  funext j
  simp [am_zr]
/-- a cell depends on its own row alone -/
theorem am_ce_eq {cA : Nat → ClassId} {B : Nat} {h h' : am_H} {c : Nat} (h1 : h'.2.1 c = h.2.1 c) (h2 : h'.2.2.1 c = h.2.2.1 c) (h3 : h'.2.2.2 c = h.2.2.2 c) : am_ce cA B h' c = am_ce cA B h c := by
  have e : am_fv B h' c = am_fv B h c := by
    funext ci k
    simp [am_fv, h1, h3]
  unfold am_ce
  rw [e, h1, h2]
/-- the locals -/
def am_L (ad : Nat → Nat) (nL : Nat) (al : List Value) (ls : Array Slot) : Prop := al.length = nL ∧ ls.size = nL ∧ lv_wf ls ∧ ∀ i : Nat, am_ld al i ≠ .null → ls[i]? = some (.val (am_cv ad (am_ld al i)))
def am_lv (ad : Nat → Nat) (al : List Value) : List (Nat × Value) := (List.range al.length).filterMap fun i => if am_ld al i = .null then none else some (i, am_cv ad (am_ld al i))
theorem am_lv_mem {ad : Nat → Nat} {al : List Value} {q : Nat × Value} : q ∈ am_lv ad al ↔ am_ld al q.1 ≠ .null ∧ q.2 = am_cv ad (am_ld al q.1) := by
  unfold am_lv
  rw [List.mem_filterMap]
  constructor
  · rintro ⟨i, -, h⟩
    split at h
    · cases h
    · rename_i hn
      cases h
      exact ⟨hn, rfl⟩
  · rintro ⟨h1, h2⟩
    refine ⟨q.1, List.mem_range.mpr ?_, ?_⟩
    · rcases Nat.lt_or_ge q.1 al.length with h | h
      · exact h
      · exfalso
        apply h1
        simp [am_ld, List.getElem?_eq_none h]
    · rw [if_neg h1, ← h2]
theorem am_L.has {ad : Nat → Nat} {nL : Nat} {al : List Value} {ls : Array Slot} (h : am_L ad nL al ls) : lv_has ls nL (am_lv ad al) := by
  refine ⟨h.2.1, h.2.2.1, fun q hq => ?_⟩
  obtain ⟨h1, h2⟩ := am_lv_mem.mp hq
  rw [h2]
  exact h.2.2.2 q.1 h1
theorem am_cv_cat (ad : Nat → Nat) (v : Value) : (am_cv ad v).category = v.category := by cases v <;> rfl
theorem am_cv_null {ad : Nat → Nat} {v : Value} : am_cv ad v = .null ↔ v = .null := by cases v <;> simp [am_cv]
theorem am_kill_len (al : List Value) (i : Nat) : (am_kill al i).length = al.length := by
  cases i with
  | zero => rfl
  | succ j => cases hn : am_ld al j <;> simp [am_kill, hn]
theorem am_ld_set {al : List Value} {i j : Nat} {v : Value} : am_ld (al.set i v) j = if i = j ∧ j < al.length then v else am_ld al j := by
  simp only [am_ld, List.getD_eq_getElem?_getD, List.getElem?_set]
  by_cases h : i = j
  · subst h
    by_cases h2 : i < al.length
    · simp [h2]
    · simp [h2]
  · simp [h]
theorem am_kill_ld {al : List Value} {i j : Nat} (h : am_ld (am_kill al i) j ≠ .null) : am_ld (am_kill al i) j = am_ld al j ∧ ¬ (j + 1 = i ∧ (am_ld al j).category = 2) := by
  cases i with
  | zero => exact ⟨rfl, fun q => by omega⟩
  | succ n =>
    have two : am_kill al (n + 1) = al.set n .null → am_ld (am_kill al (n + 1)) j = am_ld al j ∧ ¬ (j + 1 = n + 1 ∧ (am_ld al j).category = 2) := by
      intro e9
      rw [e9] at h ⊢
      by_cases e : j = n
      · subst e
        exfalso
        apply h
        rw [am_ld_set]
        by_cases hl : j < al.length
        · rw [if_pos ⟨rfl, hl⟩]
        · rw [if_neg (fun q => hl q.2)]
          simp [am_ld, List.getElem?_eq_none (Nat.not_lt.mp hl)]
      · refine ⟨?_, fun q => e (by omega)⟩
        rw [am_ld_set, if_neg (fun q => e q.1.symm)]
    have one : am_kill al (n + 1) = al → (am_ld al n).category ≠ 2 → am_ld (am_kill al (n + 1)) j = am_ld al j ∧ ¬ (j + 1 = n + 1 ∧ (am_ld al j).category = 2) := by
      intro e9 hc
      rw [e9]
      refine ⟨rfl, fun q => hc ?_⟩
      have e : j = n := by omega
      rw [← e]
      exact q.2
    cases hn : am_ld al n with
    | long x => exact two (by simp [am_kill, hn])
    | double x => exact two (by simp [am_kill, hn])
    | _ => exact one (by simp [am_kill, hn]) (by rw [hn]; simp [Value.category])
theorem am_L.store1 {ad : Nat → Nat} {nL i : Nat} {al : List Value} {ls ls' : Array Slot} {v : Value} (h : am_L ad nL al ls) (hl : lv_has ls' nL ((i, am_cv ad v) :: (am_lv ad al).filter (fun q => !(q.1 == i) && !(q.1 + 1 == i && q.2.category == 2)))) : am_L ad nL ((am_kill al i).set i v) ls' := by
  refine ⟨by simp [am_kill_len, h.1], hl.1, hl.2.1, fun j hj => ?_⟩
  rw [am_ld_set] at hj ⊢
  by_cases e : i = j ∧ j < (am_kill al i).length
  · obtain ⟨rfl, e2⟩ := e
    rw [if_pos ⟨rfl, e2⟩]
    exact hl.2.2 (i, am_cv ad v) List.mem_cons_self
  · rw [if_neg e] at hj ⊢
    obtain ⟨k1, k2⟩ := am_kill_ld hj
    rw [k1] at hj ⊢
    have hne : j ≠ i := by
      intro q
      subst q
      apply e
      refine ⟨rfl, ?_⟩
      rw [am_kill_len]
      rcases Nat.lt_or_ge j al.length with h | h
      · exact h
      · exact absurd (by simp [am_ld, List.getElem?_eq_none h]) hj
    refine hl.2.2 (j, am_cv ad (am_ld al j)) (List.mem_cons_of_mem _ (List.mem_filter.mpr ⟨am_lv_mem.mpr ⟨hj, rfl⟩, ?_⟩))
    simp only [am_cv_cat, Bool.and_eq_true, Bool.not_eq_true', beq_eq_false_iff_ne, ne_eq, hne, not_false_eq_true, true_and, Bool.and_eq_false_imp, beq_iff_eq]
    exact fun q h2 => k2 ⟨q, h2⟩
theorem am_L.store2 {ad : Nat → Nat} {nL i : Nat} {al : List Value} {ls ls' : Array Slot} {v : Value} (h : am_L ad nL al ls) (hl : lv_has ls' nL ((i, am_cv ad v) :: (am_lv ad al).filter (fun q => !(q.1 == i) && (!(q.1 == i + 1) && !(q.1 + 1 == i && q.2.category == 2))))) : am_L ad nL (((am_kill al i).set i v).set (i + 1) .null) ls' := by
  refine ⟨by simp [am_kill_len, h.1], hl.1, hl.2.1, fun j hj => ?_⟩
  rw [am_ld_set] at hj ⊢
  by_cases e0 : i + 1 = j ∧ j < ((am_kill al i).set i v).length
  · rw [if_pos e0] at hj
    exact absurd rfl hj
  rw [if_neg e0] at hj ⊢
  rw [am_ld_set] at hj ⊢
  by_cases e : i = j ∧ j < (am_kill al i).length
  · obtain ⟨rfl, e2⟩ := e
    rw [if_pos ⟨rfl, e2⟩]
    exact hl.2.2 (i, am_cv ad v) List.mem_cons_self
  · rw [if_neg e] at hj ⊢
    obtain ⟨k1, k2⟩ := am_kill_ld hj
    rw [k1] at hj ⊢
    have hlt : j < al.length := by
      rcases Nat.lt_or_ge j al.length with h | h
      · exact h
      · exact absurd (by simp [am_ld, List.getElem?_eq_none h]) hj
    have hne : j ≠ i := by
      intro q
      subst q
      exact e ⟨rfl, by rw [am_kill_len]; exact hlt⟩
    have hne1 : j ≠ i + 1 := by
      intro q
      subst q
      exact e0 ⟨rfl, by simp [am_kill_len]; exact hlt⟩
    refine hl.2.2 (j, am_cv ad (am_ld al j)) (List.mem_cons_of_mem _ (List.mem_filter.mpr ⟨am_lv_mem.mpr ⟨hj, rfl⟩, ?_⟩))
    simp only [am_cv_cat, Bool.and_eq_true, Bool.not_eq_true', beq_eq_false_iff_ne, ne_eq, hne, hne1, not_false_eq_true, true_and, Bool.and_eq_false_imp, beq_iff_eq]
    exact fun q h2 => k2 ⟨q, h2⟩
