/-! the shape of the worlds: which cell is what, once both objects are made. A cell: 0 (an int array) or 1 (a boolean array) and its length; or 2 + the number of its class, and its fields: none an int, some none null, some (some r) the cell r. Written by wip/whole/gen/gen_state.py -/
abbrev ax_Sg : Type := Nat → Nat → Int32
abbrev ax_Sh : Type := Nat × Nat × List (Option (Option Nat))
def ax_sh : List ax_Sh := [
  (12, 0, [some (some 1), some (some 2), some (some 3), some (some 4), some (some 5), some (some 6), some (some 7), some (some 8), some (some 9), some (some 10), some (some 11)]),
  (8, 0, [some (some 14), some (some 15), some (some 16), some (some 17), none]),
  (10, 0, [some (some 18), some (some 19), none, some (some 20), some (some 21), some (some 22), none, none, some (some 23), some (some 24)]),
  (11, 0, [some (some 25), some (some 12), none, none]),
  (7, 0, [some (some 26), some (some 27), some (some 28), none]),
  (2, 0, [some (some 29)]),
  (9, 0, [some (some 30), none]),
  (3, 0, [some (some 1), some (some 2), some (some 4), some (some 5), some (some 6), some (some 31), some (some 32), some (some 33), some (some 34), some (some 35), some (some 36), some (some 37), some (some 38), none, none, none, none, none]),
  (3, 0, [some (some 1), some (some 2), some (some 4), some (some 5), some none, some (some 39), some (some 40), some (some 41), some (some 42), some (some 43), some (some 44), some (some 45), some (some 46), none, none, none, none, none]),
  (6, 0, [some (some 47), some (some 48), some (some 49), some (some 50), none]),
  (4, 0, [some (some 5), some (some 51), none, some (some 52), some (some 53), none]),
  (5, 0, [some (some 54), none]),
  (7, 0, [some (some 55), some (some 56), some (some 57), none]),
  (13, 0, [some (some 58), some (some 59), some (some 60), some (some 61), some (some 62), some (some 63), some (some 64), none, none, some (some 65), some (some 66), none, none, none, none, none, some (some 67), some (some 68), some (some 69), some (some 70), some (some 71), some (some 72), some (some 73), some (some 74), some (some 75), none, none, some (some 76), some (some 77), some (some 78), some (some 79), some (some 80), some (some 81), some (some 82), none, none, none, some (some 83), some (some 84), some (some 85), some (some 86), some (some 87), none, some (some 88), some (some 89), some (some 90), some (some 91), none, none, none, some (some 92), none]),
  (0, 12, []),
  (0, 12, []),
  (0, 12, []),
  (0, 12, []),
  (0, 16, []),
  (0, 24, []),
  (0, 10, []),
  (0, 10, []),
  (1, 10, []),
  (0, 2, []),
  (0, 3, []),
  (0, 120, []),
  (0, 6, []),
  (0, 6, []),
  (0, 6, []),
  (0, 120, []),
  (0, 1500, []),
  (0, 12, []),
  (0, 12, []),
  (0, 12, []),
  (0, 16, []),
  (0, 16, []),
  (0, 15, []),
  (0, 5, []),
  (1, 12, []),
  (0, 12, []),
  (0, 12, []),
  (0, 12, []),
  (0, 16, []),
  (0, 16, []),
  (0, 15, []),
  (0, 5, []),
  (1, 12, []),
  (0, 30, []),
  (0, 30, []),
  (0, 30, []),
  (0, 30, []),
  (0, 6, []),
  (0, 64, []),
  (0, 64, []),
  (0, 12, []),
  (0, 6, []),
  (0, 6, []),
  (0, 6, []),
  (0, 12, []),
  (0, 12, []),
  (0, 12, []),
  (0, 12, []),
  (0, 16, []),
  (0, 12, []),
  (0, 12, []),
  (0, 88, []),
  (0, 88, []),
  (0, 300, []),
  (0, 300, []),
  (0, 300, []),
  (0, 300, []),
  (0, 300, []),
  (0, 120, []),
  (0, 10, []),
  (0, 10, []),
  (0, 11264, []),
  (0, 120, []),
  (0, 6, []),
  (0, 6, []),
  (0, 6, []),
  (0, 6, []),
  (0, 6, []),
  (0, 6, []),
  (1, 12, []),
  (0, 30, []),
  (0, 30, []),
  (0, 30, []),
  (0, 30, []),
  (0, 6, []),
  (0, 6, []),
  (0, 6, []),
  (0, 8, []),
  (0, 12, [])]
/- cells: 0 x, 1 plates, 2 roster, 3 tape, 4 meter, 5 asks, 6 rides, 7 city, 8 trial, 9 loans, 10 fleets, 11 line, 12 draft, 13 m, 14 plates.kinds, 15 plates.owners, 16 plates.leases, 17 plates.costs, 18 roster.wishes, 19 roster.driverOf, 20 roster.freePlaces, 21 roster.freeDrivers, 22 roster.given, 23 roster.shiftsLeft, 24 roster.driversLeft, 25 tape.bytes, 26 meter.kinds, 27 meter.wards, 28 meter.amounts, 29 asks.row, 30 rides.row, 31 city.where, 32 city.hours, 33 city.took, 34 city.driverHours, 35 city.earned, 36 city.waiting, 37 city.turns, 38 city.roams, 39 trial.where, 40 trial.hours, 41 trial.took, 42 trial.driverHours, 43 trial.earned, 44 trial.waiting, 45 trial.turns, 46 trial.roams, 47 loans.plateOf, 48 loans.ranks, 49 loans.sums, 50 loans.parts, 51 fleets.sets, 52 fleets.ratings, 53 fleets.added, 54 line.row, 55 draft.kinds, 56 draft.wards, 57 draft.amounts, 58 m.kindOf, 59 m.owner, 60 m.lease, 61 m.cost, 62 m.wish, 63 m.byDay, 64 m.byNight, 65 m.city, 66 m.was, 67 m.rideHour, 68 m.ridePlate, 69 m.rideFrom, 70 m.rideTo, 71 m.rideFare, 72 m.asks, 73 m.shift, 74 m.free, 75 m.most, 76 m.tape, 77 m.word, 78 m.ward, 79 m.number, 80 m.newWord, 81 m.newWard, 82 m.newNumber, 83 m.isIdle, 84 m.loanPlate, 85 m.rank, 86 m.sumOf, 87 m.part, 88 m.hours, 89 m.takes, 90 m.bestTakes, 91 m.in, 92 m.line -/
/-- an abstract value at the addresses μ -/
def ax_vm (μ : Nat → Nat) : Value → Value
  | .ref k => .ref (μ k)
  | v => v
/-- a field -/
def ax_fv (μ : Nat → Nat) (σ : ax_Sg) (k j : Nat) : Option (Option Nat) → Value
  | none => .int (σ k j)
  | some none => .null
  | some (some r) => .ref (μ r)
def ax_fs (μ : Nat → Nat) (σ : ax_Sg) (k : Nat) (fs : List (Option (Option Nat))) : List Value := fs.mapIdx (fun j f => ax_fv μ σ k j f)
def ax_ce (μ : Nat → Nat) (cI cZ : ClassId) (σ : ax_Sg) (k : Nat) (q : ax_Sh) : va_E := match q.1 with
  | 0 => .inl (cI, q.2.1, .inl (σ k))
  | 1 => .inl (cZ, q.2.1, .inl (σ k))
  | t + 2 => .inr (t, ax_fs μ σ k q.2.2)
def ax_ws (μ : Nat → Nat) (cI cZ : ClassId) (σ : ax_Sg) : va_W := ax_sh.mapIdx (fun k q => (μ k, ax_ce μ cI cZ σ k q))
/-- one place of one cell is told anew -/
def ax_us (σ : ax_Sg) (k i : Nat) (v : Int32) : ax_Sg := fun k' => if k' = k then upd (σ k) i v else σ k'
/-- a whole cell is told anew -/
def ax_uc (σ : ax_Sg) (k : Nat) (f : Nat → Int32) : ax_Sg := fun k' => if k' = k then f else σ k'
theorem ax_us_uc (σ : ax_Sg) (k i : Nat) (v : Int32) : ax_us σ k i v = ax_uc σ k (upd (σ k) i v) := rfl
theorem ax_uc_s (σ : ax_Sg) (k : Nat) (f : Nat → Int32) : ax_uc σ k f k = f := if_pos rfl
theorem ax_uc_n (σ : ax_Sg) {k k' : Nat} (f : Nat → Int32) (h : k' ≠ k) : ax_uc σ k f k' = σ k' := if_neg h
theorem ax_ws_at (μ : Nat → Nat) (cI cZ : ClassId) (σ : ax_Sg) (k : Nat) : (ax_ws μ cI cZ σ)[k]? = (ax_sh[k]?).map (fun q => (μ k, ax_ce μ cI cZ σ k q)) := by
  unfold ax_ws
  rw [List.getElem?_mapIdx]
theorem ax_ce_uc_n (μ : Nat → Nat) (cI cZ : ClassId) (σ : ax_Sg) {k k' : Nat} (f : Nat → Int32) (q : ax_Sh) (h : k' ≠ k) : ax_ce μ cI cZ (ax_uc σ k f) k' q = ax_ce μ cI cZ σ k' q := by
  obtain ⟨t, n, fs⟩ := q
  match t with
  | 0 => simp only [ax_ce, ax_uc_n _ _ h]
  | 1 => simp only [ax_ce, ax_uc_n _ _ h]
  | t + 2 =>
    simp only [ax_ce, ax_fs]
    congr 3
    funext j f'
    match f' with
    | none => simp only [ax_fv, ax_uc_n _ _ h]
    | some none => rfl
    | some (some r) => rfl
theorem ax_ws_uc (μ : Nat → Nat) (cI cZ : ClassId) (σ : ax_Sg) (k : Nat) (f : Nat → Int32) (q : ax_Sh) (hq : ax_sh[k]? = some q) : (ax_ws μ cI cZ σ).set k (μ k, ax_ce μ cI cZ (ax_uc σ k f) k q) = ax_ws μ cI cZ (ax_uc σ k f) := by
  apply List.ext_getElem?
  intro i
  rw [ax_ws_at, List.getElem?_set]
  by_cases h : k = i
  · subst h
    have hl : k < (ax_ws μ cI cZ σ).length := by
      unfold ax_ws
      rw [List.length_mapIdx]
      exact (List.getElem?_eq_some_iff.mp hq).1
    rw [if_pos rfl, if_pos hl, hq]
    rfl
  · rw [if_neg h, ax_ws_at]
    cases ax_sh[i]? with
    | none => rfl
    | some q' => simp only [Option.map_some, ax_ce_uc_n μ cI cZ σ f q' (fun e => h e.symm)]
/-- the addresses are apart, and of a kind -/
def ax_ad (μ : Nat → Nat) (A : Nat → Prop) : Prop := (∀ i j, i < 93 → j < 93 → μ i = μ j → i = j) ∧ ∀ i, i < 93 → A (μ i)
def ax_A (μ : Nat → Nat) : Nat → Prop := fun q => ∃ i, i < 93 ∧ q = μ i
theorem ax_sh_len : ax_sh.length = 93 := by decide +kernel
theorem ax_ad.D {μ : Nat → Nat} {A : Nat → Prop} (h : ax_ad μ A) (cI cZ : ClassId) (σ : ax_Sg) : va_D A (ax_ws μ cI cZ σ) := by
  have key : ∀ (i : Nat) (p : Nat × va_E), (ax_ws μ cI cZ σ)[i]? = some p → i < 93 ∧ p.1 = μ i := by
    intro i p hp
    rw [ax_ws_at] at hp
    cases hi : ax_sh[i]? with
    | none => rw [hi] at hp; cases hp
    | some q =>
      rw [hi] at hp
      cases hp
      exact ⟨by have := (List.getElem?_eq_some_iff.mp hi).1; rw [ax_sh_len] at this; exact this, rfl⟩
  refine ⟨fun i j p q hi hj e => ?_, fun i p hi => ?_⟩
  · obtain ⟨h1, h2⟩ := key i p hi
    obtain ⟨h3, h4⟩ := key j q hj
    exact h.1 i j h1 h3 (by rw [← h2, ← h4]; exact e)
  · obtain ⟨h1, h2⟩ := key i p hi
    rw [h2]
    exact h.2 i h1
theorem ax_ad.self {μ : Nat → Nat} {A : Nat → Prop} (h : ax_ad μ A) : ax_ad μ (ax_A μ) := ⟨h.1, fun i hi => ⟨i, hi, rfl⟩⟩
