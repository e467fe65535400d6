/-! ===== programs as functions: what a function answers, the machine does ===== -/
abbrev am_S : Type := (Nat → Nat → Int32) × (Nat → Nat → Int64)
/-- the references behind the constructors; sw: the two sets of rules have changed places -/
def am_RT (sw : Bool) (c k : Nat) : Nat := bif Nat.beq c 0 && Nat.beq k 2 then (bif sw then 12 else 6) else bif Nat.beq c 0 && Nat.beq k 3 then (bif sw then 6 else 12) else (am_rt0.getD c []).getD k 0
def am_hp (sw : Bool) (s : am_S) : am_H := (120, s.1, s.2, am_RT sw)
def am_wI (s : am_S) (c k : Nat) (x : Int32) : am_S := (am_up s.1 c k x, s.2)
def am_wL (s : am_S) (c k : Nat) (x : Int64) : am_S := (s.1, am_up s.2 c k x)
def am_gu {α : Type} (b : Bool) (x : Option α) : Option α := bif b then x else none
def am_bd {α β : Type} (x : Option (α × am_S)) (k : α → am_S → Option β) : Option β := match x with
  | none => none
  | some (v, s) => k v s
def am_lp {ρ σ β : Type} (inj : ρ × am_S → β) (x : Option ((ρ × am_S) ⊕ (σ × am_S))) (k : σ → am_S → Option β) : Option β := match x with
  | none => none
  | some (.inl y) => some (inj y)
  | some (.inr (v, s)) => k v s
def am_jn {α β : Type} (F : α → β) (body : (α → β) → β) : β := body F
def am_FU : Nat := 5000
def am_cI (v : Int32) : Option Value := some (.int v)
def am_cL (v : Int64) : Option Value := some (.long v)
def am_cU (_ : Unit) : Option Value := none
def am_nxs (tb : Nat → Option am_O) (lim own : Nat) (ini : Bool) (sc : Option (Nat × (Nat → Int32))) : Nat → am_Q → Option am_Q
  | 0, q => some q
  | k + 1, q => match tb q.1 with
    | none => none
    | some o => match am_nx lim own ini sc o q.1 q.2.1 q.2.2.1 q.2.2.2 with
      | none => none
      | some q' => am_nxs tb lim own ini sc k q'
/-- locals known to be less -/
def am_le : List Value → List Value → Prop
  | [], [] => True
  | x :: xs, y :: ys => (x = .null ∨ x = y) ∧ am_le xs ys
  | _, _ => False
theorem am_le_len : ∀ {a b : List Value}, am_le a b → a.length = b.length
  | [], [], _ => rfl
  | _ :: _, _ :: _, h => congrArg (· + 1) (am_le_len h.2)
theorem am_le_ld : ∀ {a b : List Value} (i : Nat), am_le a b → am_ld a i ≠ .null → am_ld b i = am_ld a i
  | [], [], _, _, h => absurd (by simp [am_ld]) h
  | _ :: _, _ :: _, 0, h, hn => by
    rcases h.1 with e | e
    · exact absurd e hn
    · exact e.symm
  | _ :: _, _ :: _, i + 1, h, hn => am_le_ld i h.2 hn
theorem am_le_of : ∀ {a b : List Value}, a.length = b.length → (∀ i, am_ld a i ≠ .null → am_ld b i = am_ld a i) → am_le a b
  | [], [], _, _ => trivial
  | [], _ :: _, h, _ => by cases h
  | _ :: _, [], h, _ => by cases h
  | x :: xs, y :: ys, h, hi => by
    refine ⟨?_, am_le_of (Nat.succ.inj h) (fun i hn => hi (i + 1) hn)⟩
    by_cases hx : x = .null
    · exact Or.inl hx
    · exact Or.inr (hi 0 hx).symm
theorem am_le_store {a b : List Value} {i : Nat} {v : Value} (h : am_le a b) : am_le ((am_kill a i).set i v) ((am_kill b i).set i v) := by
  have hl := am_le_len h
  refine am_le_of (by simp [am_kill_len, hl]) (fun j hj => ?_)
  rw [am_ld_set] at hj ⊢
  rw [am_ld_set]
  rw [am_kill_len] at hj ⊢
  rw [am_kill_len, ← hl]
  by_cases e : i = j ∧ j < a.length
  · rw [if_pos e, if_pos e]
  · rw [if_neg e] at hj
    rw [if_neg e, if_neg e]
    obtain ⟨k1, k2⟩ := am_kill_ld hj
    rw [k1] at hj ⊢
    have e2 := am_le_ld j h hj
    by_cases hk : am_ld (am_kill b i) j = .null
    · exfalso
      cases i with
      | zero => rw [am_kill, e2] at hk; exact hj hk
      | succ n =>
        by_cases en : j = n
        · subst en
          have hc : (am_ld a j).category ≠ 2 := fun q => k2 ⟨rfl, q⟩
          rw [← e2] at hc hj
          have : am_kill b (j + 1) = b := by
            cases hv : am_ld b j <;> first | (simp only [am_kill, hv]; done) | (rw [hv] at hc; exact absurd rfl hc)
          rw [this] at hk
          exact hj hk
        · have : am_ld (am_kill b (n + 1)) j = am_ld b j := by
            cases hv : am_ld b n <;> simp only [am_kill, hv] <;> (rw [am_ld_set, if_neg (fun q => en q.1.symm)])
          rw [this, e2] at hk
          exact hj hk
    · rw [(am_kill_ld hk).1, e2]
theorem am_le_store2 {a b : List Value} {i : Nat} {v : Value} (h : am_le a b) : am_le (((am_kill a i).set i v).set (i + 1) .null) (((am_kill b i).set i v).set (i + 1) .null) := by
  have h1 := am_le_store (i := i) (v := v) h
  have hl := am_le_len h1
  refine am_le_of (by simpa using hl) (fun j hj => ?_)
  rw [am_ld_set (al := (am_kill a i).set i v)] at hj ⊢
  rw [am_ld_set (al := (am_kill b i).set i v), ← hl]
  by_cases e : i + 1 = j ∧ j < ((am_kill a i).set i v).length
  · rw [if_pos e] at hj
    exact absurd rfl hj
  · rw [if_neg e] at hj
    rw [if_neg e, if_neg e]
    exact am_le_ld j h1 hj
theorem am_nx_le {lim own : Nat} {ini : Bool} {sc : Option (Nat × (Nat → Int32))} {o : am_O} {pc : Nat} {a b st : List Value} {h : am_H} {q : am_Q} (hle : am_le a b) (hn : am_nx lim own ini sc o pc a st h = some q) : ∃ b', am_nx lim own ini sc o pc b st h = some (q.1, b', q.2.2.1, q.2.2.2) ∧ am_le q.2.1 b' := by
  have hl := am_le_len hle
  have any : (∀ z : List Value, am_nx lim own ini sc o pc z st h = (am_nx lim own ini sc o pc [] st h).map (fun q => (q.1, z, q.2.2.1, q.2.2.2))) → ∃ b', am_nx lim own ini sc o pc b st h = some (q.1, b', q.2.2.1, q.2.2.2) ∧ am_le q.2.1 b' := by
    intro hz
    rw [hz a] at hn
    rw [hz b]
    cases hw : am_nx lim own ini sc o pc [] st h with
    | none => rw [hw] at hn; cases hn
    | some w =>
      rw [hw] at hn
      cases hn
      exact ⟨b, rfl, hle⟩
  obtain ⟨k, len, x, t⟩ := o
  cases k with
  | iload i =>
    simp only [am_nx] at hn ⊢
    split at hn
    · rename_i v hv
      cases hn
      rw [am_le_ld i hle (by rw [hv]; simp), hv]
      exact ⟨b, rfl, hle⟩
    · cases hn
  | lload i =>
    simp only [am_nx] at hn ⊢
    split at hn
    · rename_i v hv
      cases hn
      rw [am_le_ld i hle (by rw [hv]; simp), hv]
      exact ⟨b, rfl, hle⟩
    · cases hn
  | aload i =>
    simp only [am_nx] at hn ⊢
    split at hn
    · rename_i v hv
      cases hn
      rw [am_le_ld i hle (by rw [hv]; simp), hv]
      exact ⟨b, rfl, hle⟩
    · cases hn
  | istore i =>
    simp only [am_nx] at hn ⊢
    rw [← hl]
    split at hn
    · cases hb : Nat.blt i a.length with
      | false => rw [hb] at hn; cases hn
      | true =>
        rw [hb] at hn
        cases hn
        exact ⟨_, rfl, am_le_store hle⟩
    · cases hn
  | astore i =>
    simp only [am_nx] at hn ⊢
    rw [← hl]
    split at hn
    · cases hb : Nat.blt i a.length with
      | false => rw [hb] at hn; cases hn
      | true =>
        rw [hb] at hn
        cases hn
        exact ⟨_, rfl, am_le_store hle⟩
    · cases hn
  | lstore i =>
    simp only [am_nx] at hn ⊢
    rw [← hl]
    split at hn
    · cases hb : Nat.blt (i + 1) a.length with
      | false => rw [hb] at hn; cases hn
      | true =>
        rw [hb] at hn
        cases hn
        exact ⟨_, rfl, am_le_store2 hle⟩
    · cases hn
  | iinc i n =>
    simp only [am_nx] at hn ⊢
    rw [← hl]
    split at hn
    · rename_i v hv
      rw [am_le_ld i hle (by rw [hv]; simp), hv]
      dsimp only
      cases hb : Nat.blt i a.length with
      | false => rw [hb] at hn; cases hn
      | true =>
        rw [hb] at hn
        cases hn
        exact ⟨_, rfl, am_le_store hle⟩
    · cases hn
  | _ =>
    apply any
    intro z
    simp only [am_nx]
    repeat' split
    all_goals first | rfl | (simp only [Bool.cond_eq_ite]; split <;> rfl) | (simp only [Bool.cond_eq_ite]; split <;> (try split) <;> (try split) <;> rfl)
def am_Ex (tb : Nat → Option am_O) (own : Nat) (ini : Bool) (sc : Option (Nat × (Nat → Int32))) (rt : Option FieldType) (d : Nat) (r : Option Value) (h' : am_H) (pc : Nat) (al st : List Value) (h : am_H) : Prop := ∃ n, am_ex tb own ini sc rt (am_Run d) r h' n pc al st h
theorem am_Ex.le {tb : Nat → Option am_O} {own : Nat} {ini : Bool} {sc : Option (Nat × (Nat → Int32))} {rt : Option FieldType} {d : Nat} {r : Option Value} {h' : am_H} : ∀ {pc : Nat} {a b st : List Value} {h : am_H}, am_le a b → am_Ex tb own ini sc rt d r h' pc a st h → am_Ex tb own ini sc rt d r h' pc b st h := by
  intro pc a b st h hle ⟨n, hx⟩
  refine ⟨n, ?_⟩
  induction n generalizing pc a b st h with
  | zero => exact hx
  | succ n ih =>
    obtain ⟨o, ho, hx⟩ := hx
    refine ⟨o, ho, ?_⟩
    rcases hx with ⟨q, hq, hx⟩ | ⟨kd, idx, mno, w, nst, M, As, rest, v, h1, y1, y2, y3, y4, y5, y6, y7, y8, y9, y10, hx⟩ | hx
    · obtain ⟨b', e1, e2⟩ := am_nx_le hle hq
      exact Or.inl ⟨_, e1, ih e2 hx⟩
    · exact Or.inr (Or.inl ⟨kd, idx, mno, w, nst, M, As, rest, v, h1, y1, y2, y3, y4, y5, y6, y7, y8, y9, y10, ih hle hx⟩)
    · exact Or.inr (Or.inr hx)
