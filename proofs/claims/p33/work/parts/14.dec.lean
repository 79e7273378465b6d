def am_dok (c : ByteArray) (pc : Nat) (r : Instr × Nat) : Bool := decide (decode c pc = .ok r) && (Nat.beq (am_len r.1) 0 || Nat.beq r.2 (am_len r.1))
def am_codeok (c : ByteArray) (n : Nat) (f : Nat → Option (Instr × Nat)) : Bool := (List.range n).all (fun pc => match f pc with | none => true | some r => am_dok c pc r)
theorem am_codeok_of {c : ByteArray} {n : Nat} {f : Nat → Option (Instr × Nat)} (h : am_codeok c n (am_guard n f) = true) : ∀ pc r, am_guard n f pc = some r → am_dok c pc r = true := by
  intro pc r hr
  have hn : pc < n := by
    unfold am_guard at hr
    split at hr
    next e => exact Nat.ble_eq.mp e
    next => cases hr
  have h1 := List.all_eq_true.mp h pc (List.mem_range.mpr hn)
  simp only [hr] at h1
  exact h1
theorem am_ck {c : ByteArray} {f : Nat → Option (Instr × Nat)} {a k : Nat} (h : ∀ pc, pc < a → ∀ r, f pc = some r → am_dok c pc r = true) (h2 : (List.range' a k).all (fun pc => match f pc with | none => true | some r => am_dok c pc r) = true) : ∀ pc, pc < a + k → ∀ r, f pc = some r → am_dok c pc r = true := by
  intro pc hp r hr
  by_cases hl : pc < a
  · exact h pc hl r hr
  · have h1 := List.all_eq_true.mp h2 pc (List.mem_range'_1.mpr ⟨by omega, hp⟩)
    simp only [hr] at h1
    exact h1
theorem am_ck_of {c : ByteArray} {n : Nat} {f : Nat → Option (Instr × Nat)} (h : ∀ pc, pc < n → ∀ r, am_guard n f pc = some r → am_dok c pc r = true) : ∀ pc r, am_guard n f pc = some r → am_dok c pc r = true := by
  intro pc r hr
  refine h pc ?_ r hr
  unfold am_guard at hr
  split at hr
  next e => exact Nat.ble_eq.mp e
  next => cases hr
theorem tl_X5_mend : ∀ pc r, tk_X5_mend pc = some r → am_dok cX5_mend pc r = true := am_codeok_of (n := 53) (by decide +kernel)
theorem tl_X0_remember : ∀ pc r, tk_X0_remember pc = some r → am_dok cX0_remember pc r = true := am_codeok_of (n := 66) (by decide +kernel)
theorem tl_X0_rowAt : ∀ pc r, tk_X0_rowAt pc = some r → am_dok cX0_rowAt pc r = true := am_codeok_of (n := 31) (by decide +kernel)
theorem tl_J9_floorMod_7cf53 : ∀ pc r, tk_J9_floorMod_7cf53 pc = some r → am_dok cJ9_floorMod_7cf53 pc r = true := am_codeok_of (n := 20) (by decide +kernel)
theorem tl_X2_copyFrom : ∀ pc r, tk_X2_copyFrom pc = some r → am_dok cX2_copyFrom pc r = true := am_codeok_of (n := 137) (by decide +kernel)
theorem tl_X2_keptPoints : ∀ pc r, tk_X2_keptPoints pc = some r → am_dok cX2_keptPoints pc r = true := am_codeok_of (n := 29) (by decide +kernel)
theorem tl_X5_keepBroken : ∀ pc r, tk_X5_keepBroken pc = some r → am_dok cX5_keepBroken pc r = true := am_codeok_of (n := 87) (by decide +kernel)
theorem tl_X1_isBroken : ∀ pc r, tk_X1_isBroken pc = some r → am_dok cX1_isBroken pc r = true := am_codeok_of (n := 66) (by decide +kernel)
theorem tl_X2_isKept : ∀ pc r, tk_X2_isKept pc = some r → am_dok cX2_isKept pc r = true := am_codeok_of (n := 24) (by decide +kernel)
theorem tl_X2_hasPoint : ∀ pc r, tk_X2_hasPoint pc = some r → am_dok cX2_hasPoint pc r = true := am_codeok_of (n := 18) (by decide +kernel)
theorem tl_X2_earlierKept : ∀ pc r, tk_X2_earlierKept pc = some r → am_dok cX2_earlierKept pc r = true := am_codeok_of (n := 22) (by decide +kernel)
theorem tl_X2_keptBelow : ∀ pc r, tk_X2_keptBelow pc = some r → am_dok cX2_keptBelow pc r = true := am_codeok_of (n := 36) (by decide +kernel)
theorem tl_X2_sameStretch : ∀ pc r, tk_X2_sameStretch pc = some r → am_dok cX2_sameStretch pc r = true := am_codeok_of (n := 45) (by decide +kernel)
theorem tl_X2_laterKept : ∀ pc r, tk_X2_laterKept pc = some r → am_dok cX2_laterKept pc r = true := am_codeok_of (n := 24) (by decide +kernel)
theorem tl_X2_keptFrom : ∀ pc r, tk_X2_keptFrom pc = some r → am_dok cX2_keptFrom pc r = true := am_codeok_of (n := 35) (by decide +kernel)
theorem tl_X1_findMiss : ∀ pc r, tk_X1_findMiss pc = some r → am_dok cX1_findMiss pc r = true := am_codeok_of (n := 167) (by decide +kernel)
theorem tl_X2_isStep : ∀ pc r, tk_X2_isStep pc = some r → am_dok cX2_isStep pc r = true := am_codeok_of (n := 16) (by decide +kernel)
theorem tl_X5_thin : ∀ pc r, tk_X5_thin pc = some r → am_dok cX5_thin pc r = true := am_codeok_of (n := 76) (by decide +kernel)
theorem tl_X5_refuseNoWay : ∀ pc r, tk_X5_refuseNoWay pc = some r → am_dok cX5_refuseNoWay pc r = true := am_codeok_of (n := 6) (by decide +kernel)
theorem tl_X5_refuseOutside : ∀ pc r, tk_X5_refuseOutside pc = some r → am_dok cX5_refuseOutside pc r = true := am_codeok_of (n := 21) (by decide +kernel)
theorem tl_X4_choose : ∀ pc r, tk_X4_choose pc = some r → am_dok cX4_choose pc r = true := am_codeok_of (n := 139) (by decide +kernel)
theorem tl_X4_findNeeds : ∀ pc r, tk_X4_findNeeds pc = some r → am_dok cX4_findNeeds pc r = true := am_codeok_of (n := 103) (by decide +kernel)
theorem tl_X1_findWorst : ∀ pc r, tk_X1_findWorst pc = some r → am_dok cX1_findWorst pc r = true := am_codeok_of (n := 192) (by decide +kernel)
theorem tl_X4_cell : ∀ pc r, tk_X4_cell pc = some r → am_dok cX4_cell pc r = true := am_codeok_of (n := 41) (by decide +kernel)
theorem tl_X5_roundedUp : ∀ pc r, tk_X5_roundedUp pc = some r → am_dok cX5_roundedUp pc r = true := am_codeok_of (n := 16) (by decide +kernel)
theorem tl_X4_findFewest : ∀ pc r, tk_X4_findFewest pc = some r → am_dok cX4_findFewest pc r = true := am_codeok_of (n := 62) (by decide +kernel)
theorem tl_X4_fewestBehind : ∀ pc r, tk_X4_fewestBehind pc = some r → am_dok cX4_fewestBehind pc r = true := am_codeok_of (n := 112) (by decide +kernel)
theorem tl_X2_beginsStretch : ∀ pc r, tk_X2_beginsStretch pc = some r → am_dok cX2_beginsStretch pc r = true := am_codeok_of (n := 17) (by decide +kernel)
theorem tl_X2_endsStretch : ∀ pc r, tk_X2_endsStretch pc = some r → am_dok cX2_endsStretch pc r = true := am_codeok_of (n := 17) (by decide +kernel)
theorem tl_X4_halveBehind : ∀ pc r, tk_X4_halveBehind pc = some r → am_dok cX4_halveBehind pc r = true := am_codeok_of (n := 84) (by decide +kernel)
theorem tl_X4_chosenBehind : ∀ pc r, tk_X4_chosenBehind pc = some r → am_dok cX4_chosenBehind pc r = true := am_codeok_of (n := 40) (by decide +kernel)
theorem tl_X4_joinBehind : ∀ pc r, tk_X4_joinBehind pc = some r → am_dok cX4_joinBehind pc r = true := am_codeok_of (n := 102) (by decide +kernel)
theorem tl_X5_tear : ∀ pc r, tk_X5_tear pc = some r → am_dok cX5_tear pc r = true := am_codeok_of (n := 60) (by decide +kernel)
theorem tl_X5_refuseNoStretch : ∀ pc r, tk_X5_refuseNoStretch pc = some r → am_dok cX5_refuseNoStretch pc r = true := am_codeok_of (n := 27) (by decide +kernel)
theorem tl_X2_stretchCount : ∀ pc r, tk_X2_stretchCount pc = some r → am_dok cX2_stretchCount pc r = true := am_codeok_of (n := 31) (by decide +kernel)
theorem tl_X2_sizeOf : ∀ pc r, tk_X2_sizeOf pc = some r → am_dok cX2_sizeOf pc r = true := am_codeok_of (n := 33) (by decide +kernel)
theorem tl_X2_firstOf : ∀ pc r, tk_X2_firstOf pc = some r → am_dok cX2_firstOf pc r = true := am_codeok_of (n := 31) (by decide +kernel)
theorem tl_X2_removeRun : ∀ pc r, tk_X2_removeRun pc = some r → am_dok cX2_removeRun pc r = true := am_codeok_of (n := 56) (by decide +kernel)
theorem tl_X2_copyPoint : ∀ pc r, tk_X2_copyPoint pc = some r → am_dok cX2_copyPoint pc r = true := am_codeok_of (n := 57) (by decide +kernel)
theorem tl_X5_pointsChanged : ∀ pc r, tk_X5_pointsChanged pc = some r → am_dok cX5_pointsChanged pc r = true := am_codeok_of (n := 15) (by decide +kernel)
theorem tl_X2_numberStretches : ∀ pc r, tk_X2_numberStretches pc = some r → am_dok cX2_numberStretches pc r = true := am_codeok_of (n := 57) (by decide +kernel)
theorem tl_X4_forget : ∀ pc r, tk_X4_forget pc = some r → am_dok cX4_forget pc r = true := am_codeok_of (n := 6) (by decide +kernel)
theorem tl_X5_set : ∀ pc r, tk_X5_set pc = some r → am_dok cX5_set pc r = true := am_codeok_of (n := 59) (by decide +kernel)
theorem tl_X5_refuseNoSetting : ∀ pc r, tk_X5_refuseNoSetting pc = some r → am_dok cX5_refuseNoSetting pc r = true := am_codeok_of (n := 21) (by decide +kernel)
theorem tl_X5_isSettingValue : ∀ pc r, tk_X5_isSettingValue pc = some r → am_dok cX5_isSettingValue pc r = true := am_codeok_of (n := 59) (by decide +kernel)
theorem tl_X5_undo : ∀ pc r, tk_X5_undo pc = some r → am_dok cX5_undo pc r = true := am_codeok_of (n := 43) (by decide +kernel)
theorem tl_X0_restore : ∀ pc r, tk_X0_restore pc = some r → am_dok cX0_restore pc r = true := am_codeok_of (n := 42) (by decide +kernel)
theorem tl_X5_stretch : ∀ pc r, tk_X5_stretch pc = some r → am_dok cX5_stretch pc r = true := am_codeok_of (n := 97) (by decide +kernel)
theorem tl_X2_keptOf : ∀ pc r, tk_X2_keptOf pc = some r → am_dok cX2_keptOf pc r = true := am_codeok_of (n := 43) (by decide +kernel)
theorem tl_X5_brokenAmong : ∀ pc r, tk_X5_brokenAmong pc = some r → am_dok cX5_brokenAmong pc r = true := am_codeok_of (n := 36) (by decide +kernel)
theorem tl_X4_fewestOf : ∀ pc r, tk_X4_fewestOf pc = some r → am_dok cX4_fewestOf pc r = true := am_codeok_of (n := 49) (by decide +kernel)
theorem tl_X5_count : ∀ pc r, tk_X5_count pc = some r → am_dok cX5_count pc r = true := am_codeok_of (n := 144) (by decide +kernel)
theorem tl_X5_trueNotes : ∀ pc r, tk_X5_trueNotes pc = some r → am_dok cX5_trueNotes pc r = true := am_codeok_of (n := 37) (by decide +kernel)
theorem tl_X1_isTrue : ∀ pc r, tk_X1_isTrue pc = some r → am_dok cX1_isTrue pc r = true := am_codeok_of (n := 78) (by decide +kernel)
theorem tl_X1_findReading : ∀ pc r, tk_X1_findReading pc = some r → am_dok cX1_findReading pc r = true := am_codeok_of (n := 199) (by decide +kernel)
theorem tl_X2_placeOf : ∀ pc r, tk_X2_placeOf pc = some r → am_dok cX2_placeOf pc r = true := am_codeok_of (n := 33) (by decide +kernel)
theorem tl_X1_shorten : ∀ pc r, tk_X1_shorten pc = some r → am_dok cX1_shorten pc r = true := am_codeok_of (n := 40) (by decide +kernel)
theorem tl_X1_commonDivisor : ∀ pc r, tk_X1_commonDivisor pc = some r → am_dok cX1_commonDivisor pc r = true := am_codeok_of (n := 36) (by decide +kernel)
theorem tl_X5_greatestError : ∀ pc r, tk_X5_greatestError pc = some r → am_dok cX5_greatestError pc r = true := am_codeok_of (n := 67) (by decide +kernel)
theorem tl_X1_findError : ∀ pc r, tk_X1_findError pc = some r → am_dok cX1_findError pc r = true := am_codeok_of (n := 51) (by decide +kernel)
theorem tl_X5_longestStep : ∀ pc r, tk_X5_longestStep pc = some r → am_dok cX5_longestStep pc r = true := am_codeok_of (n := 75) (by decide +kernel)
theorem tl_X5_setting : ∀ pc r, tk_X5_setting pc = some r → am_dok cX5_setting pc r = true := am_codeok_of (n := 14) (by decide +kernel)
theorem tl_X5_leastOath : ∀ pc r, tk_X5_leastOath pc = some r → am_dok cX5_leastOath pc r = true := am_codeok_of (n := 29) (by decide +kernel)
theorem tl_X4_leastOathFor : ∀ pc r, tk_X4_leastOathFor pc = some r → am_dok cX4_leastOathFor pc r = true := am_codeok_of (n := 40) (by decide +kernel)
theorem tl_L_sound : ∀ pc r, tk_L_sound pc = some r → am_dok cL_sound pc r = true := am_codeok_of (n := 99) (by decide +kernel)
theorem tl_L_stretches : ∀ pc r, tk_L_stretches pc = some r → am_dok cL_stretches pc r = true := am_codeok_of (n := 259) (by decide +kernel)
theorem tl_X5_point : ∀ pc r, tk_X5_point pc = some r → am_dok cX5_point pc r = true := am_codeok_of (n := 140) (by decide +kernel)
theorem tl_X5_refuseNoPoint : ∀ pc r, tk_X5_refuseNoPoint pc = some r → am_dok cX5_refuseNoPoint pc r = true := am_codeok_of (n := 23) (by decide +kernel)
theorem tl_X1_reasonToKeep : ∀ pc r, tk_X1_reasonToKeep pc = some r → am_dok cX1_reasonToKeep pc r = true := am_codeok_of (n := 60) (by decide +kernel)
theorem tl_X1_canJoin : ∀ pc r, tk_X1_canJoin pc = some r → am_dok cX1_canJoin pc r = true := am_codeok_of (n := 46) (by decide +kernel)
theorem tl_X5_droppedShare : ∀ pc r, tk_X5_droppedShare pc = some r → am_dok cX5_droppedShare pc r = true := am_codeok_of (n := 38) (by decide +kernel)
theorem tl_L_point : ∀ pc r, tk_L_point pc = some r → am_dok cL_point pc r = true := am_codeok_of (n := 491) (by decide +kernel)
theorem tl_X5_error : ∀ pc r, tk_X5_error pc = some r → am_dok cX5_error pc r = true := am_codeok_of (n := 46) (by decide +kernel)
theorem tl_X5_reading : ∀ pc r, tk_X5_reading pc = some r → am_dok cX5_reading pc r = true := am_codeok_of (n := 58) (by decide +kernel)
theorem tl_X5_isTime : ∀ pc r, tk_X5_isTime pc = some r → am_dok cX5_isTime pc r = true := am_codeok_of (n := 17) (by decide +kernel)
theorem tl_L_size : ∀ pc r, tk_L_size pc = some r → am_dok cL_size pc r = true := am_codeok_of (n := 11) (by decide +kernel)
theorem tl_X5_cheapest : ∀ pc r, tk_X5_cheapest pc = some r → am_dok cX5_cheapest pc r = true := am_codeok_of (n := 67) (by decide +kernel)
theorem tl_X1_leastMissed : ∀ pc r, tk_X1_leastMissed pc = some r → am_dok cX1_leastMissed pc r = true := am_codeok_of (n := 106) (by decide +kernel)
theorem tl_X5_whyNot : ∀ pc r, tk_X5_whyNot pc = some r → am_dok cX5_whyNot pc r = true := am_codeok_of (n := 14) (by decide +kernel)
theorem tl_L_acts : ∀ pc r, tk_L_acts pc = some r → am_dok cL_acts pc r = true := am_codeok_of (n := 455) (by decide +kernel)
theorem tl_X5_add : ∀ pc r, tk_X5_add pc = some r → am_dok cX5_add pc r = true := am_codeok_of (n := 84) (by decide +kernel)
theorem tl_X5_isValue : ∀ pc r, tk_X5_isValue pc = some r → am_dok cX5_isValue pc r = true := am_codeok_of (n := 20) (by decide +kernel)
theorem tl_X2_hasTime : ∀ pc r, tk_X2_hasTime pc = some r → am_dok cX2_hasTime pc r = true := am_codeok_of (n := 30) (by decide +kernel)
theorem tl_X2_insert : ∀ pc r, tk_X2_insert pc = some r → am_dok cX2_insert pc r = true := am_codeok_of (n := 79) (by decide +kernel)
theorem tl_X5_drop : ∀ pc r, tk_X5_drop pc = some r → am_dok cX5_drop pc r = true := am_codeok_of (n := 55) (by decide +kernel)
theorem tl_X5_keep : ∀ pc r, tk_X5_keep pc = some r → am_dok cX5_keep pc r = true := am_codeok_of (n := 55) (by decide +kernel)
theorem tl_X5_ifThinned : ∀ pc r, tk_X5_ifThinned pc = some r → am_dok cX5_ifThinned pc r = true := am_codeok_of (n := 13) (by decide +kernel)
theorem tl_X5_correct : ∀ pc r, tk_X5_correct pc = some r → am_dok cX5_correct pc r = true := am_codeok_of (n := 59) (by decide +kernel)
theorem tl_law_0 : (List.range' 0 100).all (fun pc => match tk_L_law pc with | none => true | some r => am_dok cL_law pc r) = true := by decide +kernel
theorem tl_law_100 : (List.range' 100 100).all (fun pc => match tk_L_law pc with | none => true | some r => am_dok cL_law pc r) = true := by decide +kernel
theorem tl_law_200 : (List.range' 200 25).all (fun pc => match tk_L_law pc with | none => true | some r => am_dok cL_law pc r) = true := by decide +kernel
theorem tl_L_law : ∀ pc r, tk_L_law pc = some r → am_dok cL_law pc r = true := am_ck_of (n := 225) (am_ck (am_ck (am_ck (fun pc h => absurd h (Nat.not_lt_zero pc)) tl_law_0) tl_law_100) tl_law_200)
set_option maxRecDepth 20000 in
theorem tl_all : ∀ q ∈ tb_CL, ∀ pc r, q.2.2 pc = some r → am_dok q.2.1 pc r = true := List.forall_mem_cons.mpr ⟨tl_X5_mend, List.forall_mem_cons.mpr ⟨tl_X0_remember, List.forall_mem_cons.mpr ⟨tl_X0_rowAt, List.forall_mem_cons.mpr ⟨tl_J9_floorMod_7cf53, List.forall_mem_cons.mpr ⟨tl_X2_copyFrom, List.forall_mem_cons.mpr ⟨tl_X2_keptPoints, List.forall_mem_cons.mpr ⟨tl_X5_keepBroken, List.forall_mem_cons.mpr ⟨tl_X1_isBroken, List.forall_mem_cons.mpr ⟨tl_X2_isKept, List.forall_mem_cons.mpr ⟨tl_X2_hasPoint, List.forall_mem_cons.mpr ⟨tl_X2_earlierKept, List.forall_mem_cons.mpr ⟨tl_X2_keptBelow, List.forall_mem_cons.mpr ⟨tl_X2_sameStretch, List.forall_mem_cons.mpr ⟨tl_X2_laterKept, List.forall_mem_cons.mpr ⟨tl_X2_keptFrom, List.forall_mem_cons.mpr ⟨tl_X1_findMiss, List.forall_mem_cons.mpr ⟨tl_X2_isStep, List.forall_mem_cons.mpr ⟨tl_X5_thin, List.forall_mem_cons.mpr ⟨tl_X5_refuseNoWay, List.forall_mem_cons.mpr ⟨tl_X5_refuseOutside, List.forall_mem_cons.mpr ⟨tl_X4_choose, List.forall_mem_cons.mpr ⟨tl_X4_findNeeds, List.forall_mem_cons.mpr ⟨tl_X1_findWorst, List.forall_mem_cons.mpr ⟨tl_X4_cell, List.forall_mem_cons.mpr ⟨tl_X5_roundedUp, List.forall_mem_cons.mpr ⟨tl_X4_findFewest, List.forall_mem_cons.mpr ⟨tl_X4_fewestBehind, List.forall_mem_cons.mpr ⟨tl_X2_beginsStretch, List.forall_mem_cons.mpr ⟨tl_X2_endsStretch, List.forall_mem_cons.mpr ⟨tl_X4_halveBehind, List.forall_mem_cons.mpr ⟨tl_X4_chosenBehind, List.forall_mem_cons.mpr ⟨tl_X4_joinBehind, List.forall_mem_cons.mpr ⟨tl_X5_tear, List.forall_mem_cons.mpr ⟨tl_X5_refuseNoStretch, List.forall_mem_cons.mpr ⟨tl_X2_stretchCount, List.forall_mem_cons.mpr ⟨tl_X2_sizeOf, List.forall_mem_cons.mpr ⟨tl_X2_firstOf, List.forall_mem_cons.mpr ⟨tl_X2_removeRun, List.forall_mem_cons.mpr ⟨tl_X2_copyPoint, List.forall_mem_cons.mpr ⟨tl_X5_pointsChanged, List.forall_mem_cons.mpr ⟨tl_X2_numberStretches, List.forall_mem_cons.mpr ⟨tl_X4_forget, List.forall_mem_cons.mpr ⟨tl_X5_set, List.forall_mem_cons.mpr ⟨tl_X5_refuseNoSetting, List.forall_mem_cons.mpr ⟨tl_X5_isSettingValue, List.forall_mem_cons.mpr ⟨tl_X5_undo, List.forall_mem_cons.mpr ⟨tl_X0_restore, List.forall_mem_cons.mpr ⟨tl_X5_stretch, List.forall_mem_cons.mpr ⟨tl_X2_keptOf, List.forall_mem_cons.mpr ⟨tl_X5_brokenAmong, List.forall_mem_cons.mpr ⟨tl_X4_fewestOf, List.forall_mem_cons.mpr ⟨tl_X5_count, List.forall_mem_cons.mpr ⟨tl_X5_trueNotes, List.forall_mem_cons.mpr ⟨tl_X1_isTrue, List.forall_mem_cons.mpr ⟨tl_X1_findReading, List.forall_mem_cons.mpr ⟨tl_X2_placeOf, List.forall_mem_cons.mpr ⟨tl_X1_shorten, List.forall_mem_cons.mpr ⟨tl_X1_commonDivisor, List.forall_mem_cons.mpr ⟨tl_X5_greatestError, List.forall_mem_cons.mpr ⟨tl_X1_findError, List.forall_mem_cons.mpr ⟨tl_X5_longestStep, List.forall_mem_cons.mpr ⟨tl_X5_setting, List.forall_mem_cons.mpr ⟨tl_X5_leastOath, List.forall_mem_cons.mpr ⟨tl_X4_leastOathFor, List.forall_mem_cons.mpr ⟨tl_L_sound, List.forall_mem_cons.mpr ⟨tl_L_stretches, List.forall_mem_cons.mpr ⟨tl_X5_point, List.forall_mem_cons.mpr ⟨tl_X5_refuseNoPoint, List.forall_mem_cons.mpr ⟨tl_X1_reasonToKeep, List.forall_mem_cons.mpr ⟨tl_X1_canJoin, List.forall_mem_cons.mpr ⟨tl_X5_droppedShare, List.forall_mem_cons.mpr ⟨tl_L_point, List.forall_mem_cons.mpr ⟨tl_X5_error, List.forall_mem_cons.mpr ⟨tl_X5_reading, List.forall_mem_cons.mpr ⟨tl_X5_isTime, List.forall_mem_cons.mpr ⟨tl_L_size, List.forall_mem_cons.mpr ⟨tl_X5_cheapest, List.forall_mem_cons.mpr ⟨tl_X1_leastMissed, List.forall_mem_cons.mpr ⟨tl_X5_whyNot, List.forall_mem_cons.mpr ⟨tl_L_acts, List.forall_mem_cons.mpr ⟨tl_X5_add, List.forall_mem_cons.mpr ⟨tl_X5_isValue, List.forall_mem_cons.mpr ⟨tl_X2_hasTime, List.forall_mem_cons.mpr ⟨tl_X2_insert, List.forall_mem_cons.mpr ⟨tl_X5_drop, List.forall_mem_cons.mpr ⟨tl_X5_keep, List.forall_mem_cons.mpr ⟨tl_X5_ifThinned, List.forall_mem_cons.mpr ⟨tl_X5_correct, List.forall_mem_cons.mpr ⟨tl_L_law, fun _ h => nomatch h⟩⟩⟩⟩⟩⟩⟩⟩⟩⟩⟩⟩⟩⟩⟩⟩⟩⟩⟩⟩⟩⟩⟩⟩⟩⟩⟩⟩⟩⟩⟩⟩⟩⟩⟩⟩⟩⟩⟩⟩⟩⟩⟩⟩⟩⟩⟩⟩⟩⟩⟩⟩⟩⟩⟩⟩⟩⟩⟩⟩⟩⟩⟩⟩⟩⟩⟩⟩⟩⟩⟩⟩⟩⟩⟩⟩⟩⟩⟩⟩⟩⟩⟩⟩⟩⟩⟩⟩⟩
theorem am_al_map {α β : Type} (g : α → β) (y : Nat) : ∀ l : List (Nat × α), am_al y (l.map (fun q => (q.1, g q.2))) = (am_al y l).map g
  | [] => rfl
  | q :: r => by
    show (match Nat.beq q.1 y with | true => some (g q.2) | false => am_al y (r.map (fun q => (q.1, g q.2)))) = (match Nat.beq q.1 y with | true => some q.2 | false => am_al y r).map g
    cases Nat.beq q.1 y with
    | true => rfl
    | false => exact am_al_map g y r
set_option maxRecDepth 100000 in
theorem tl_m : tb_CL.map (fun q => (q.1, q.2.1)) = tb_mL.map (fun q => (q.1, q.2.2.1)) := rfl
set_option maxRecDepth 100000 in
theorem tl_c : tb_CL.map (fun q => (q.1, q.2.2)) = tb_codeL := rfl
theorem tl_dec {y : Nat} {v : tb_T} (h : tb_m y = some v) {pc : Nat} {r : Instr × Nat} (hr : tb_code y pc = some r) : decode v.2.1 pc = .ok r ∧ (am_len r.1 = 0 ∨ r.2 = am_len r.1) := by
  have h1 : (am_al y tb_CL).map (fun q => q.1) = some v.2.1 := by
    rw [← am_al_map (fun q => q.1) y tb_CL, tl_m, am_al_map (fun q : tb_T => q.2.1) y tb_mL]
    unfold tb_m at h
    rw [h]
    rfl
  unfold tb_code at hr
  rw [← tl_c, am_al_map (fun q => q.2) y tb_CL] at hr
  cases hc : am_al y tb_CL with
  | none => rw [hc] at h1; cases h1
  | some q =>
    rw [hc] at h1 hr
    have e : q.1 = v.2.1 := Option.some.inj h1
    have h2 := tl_all _ (am_al_in hc) pc r hr
    rw [← e]
    unfold am_dok at h2
    simp only [Bool.and_eq_true, Bool.or_eq_true, decide_eq_true_eq] at h2
    exact ⟨h2.1, h2.2.imp Nat.eq_of_beq_eq_true Nat.eq_of_beq_eq_true⟩
