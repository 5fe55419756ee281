/-! what is owed of the functions *** sorry: each goes out as it is proved -/
theorem pz_addPupil {d : sk_D} (hR : sk_R d) (a0 : Int32) (a1 : Int32) (a2 : Int32) : ∃ (a : Int32) (d1 d2 : sk_D), q_X8_addPupil d a0 a1 a2 = some (a, d1) ∧ q_X9_addPupil d1 a0 a1 a2 = some (a, d2) ∧ sk_R d2 := by sorry
theorem pz_removePupil {d : sk_D} (hR : sk_R d) (a0 : Int32) : ∃ (a : Int32) (d1 d2 : sk_D), q_X8_removePupil d a0 = some (a, d1) ∧ q_X9_removePupil d1 a0 = some (a, d2) ∧ sk_R d2 := by sorry
theorem pz_pupils {d : sk_D} (hR : sk_R d) : ∃ a : Int32, q_X8_pupils d = some a ∧ q_X9_pupils d = some a := by sorry
theorem pz_level {d : sk_D} (hR : sk_R d) (a0 : Int32) : ∃ a : Int32, q_X8_level d a0 = some a ∧ q_X9_level d a0 = some a := by sorry
theorem pz_languages {d : sk_D} (hR : sk_R d) (a0 : Int32) : ∃ a : Int32, q_X8_languages d a0 = some a ∧ q_X9_languages d a0 = some a := by sorry
theorem pz_family {d : sk_D} (hR : sk_R d) (a0 : Int32) : ∃ a : Int32, q_X8_family d a0 = some a ∧ q_X9_family d a0 = some a := by sorry
theorem pz_group {d : sk_D} (hR : sk_R d) (a0 : Int32) : ∃ a : Int32, q_X8_group d a0 = some a ∧ q_X9_group d a0 = some a := by sorry
theorem pz_setTogether {d : sk_D} (hR : sk_R d) (a0 : Int32) (a1 : Int32) (hb1 : a1 = 0 ∨ a1 = 1) : ∃ (a : Int32) (d1 d2 : sk_D), q_X8_setTogether d a0 a1 = some (a, d1) ∧ q_X9_setTogether d1 a0 a1 = some (a, d2) ∧ sk_R d2 := by sorry
theorem pz_spread {d : sk_D} (hR : sk_R d) (a0 : Int32) : ∃ a : Int32, q_X8_spread d a0 = some a ∧ q_X9_spread d a0 = some a := by sorry
theorem pz_score {d : sk_D} (hR : sk_R d) (a0 : Int32) (a1 : Int32) (a2 : Int32) : ∃ (a : Int32) (d1 d2 : sk_D), q_X8_score d a0 a1 a2 = some (a, d1) ∧ q_X9_score d1 a0 a1 a2 = some (a, d2) ∧ sk_R d2 := by sorry
theorem pz_scoreOf {d : sk_D} (hR : sk_R d) (a0 : Int32) (a1 : Int32) : ∃ a : Int32, q_X8_scoreOf d a0 a1 = some a ∧ q_X9_scoreOf d a0 a1 = some a := by sorry
theorem pz_setMarks {d : sk_D} (hR : sk_R d) (a0 : Int32) (a1 : Int32) (a2 : Int32) : ∃ (a : Int32) (d1 d2 : sk_D), q_X8_setMarks d a0 a1 a2 = some (a, d1) ∧ q_X9_setMarks d1 a0 a1 a2 = some (a, d2) ∧ sk_R d2 := by sorry
theorem pz_grade {d : sk_D} (hR : sk_R d) (a0 : Int32) : ∃ (a : Int32) (d1 d2 : sk_D), q_X8_grade d a0 = some (a, d1) ∧ q_X9_grade d1 a0 = some (a, d2) ∧ sk_R d2 := by sorry
theorem pz_nextDay {d : sk_D} (hR : sk_R d) : ∃ (a : Int32) (d1 d2 : sk_D), q_X8_nextDay d = some (a, d1) ∧ q_X9_nextDay d1 = some (a, d2) ∧ sk_R d2 := by sorry
theorem pz_openGroup {d : sk_D} (hR : sk_R d) (a0 : Int32) (a1 : Int32) (a2 : Int32) : ∃ (a : Int32) (d1 d2 : sk_D), q_X8_openGroup d a0 a1 a2 = some (a, d1) ∧ q_X9_openGroup d1 a0 a1 a2 = some (a, d2) ∧ sk_R d2 := by sorry
theorem pz_closeGroup {d : sk_D} (hR : sk_R d) (a0 : Int32) : ∃ (a : Int32) (d1 d2 : sk_D), q_X8_closeGroup d a0 = some (a, d1) ∧ q_X9_closeGroup d1 a0 = some (a, d2) ∧ sk_R d2 := by sorry
theorem pz_groups {d : sk_D} (hR : sk_R d) : ∃ a : Int32, q_X8_groups d = some a ∧ q_X9_groups d = some a := by sorry
theorem pz_groupLevel {d : sk_D} (hR : sk_R d) (a0 : Int32) : ∃ a : Int32, q_X8_groupLevel d a0 = some a ∧ q_X9_groupLevel d a0 = some a := by sorry
theorem pz_size {d : sk_D} (hR : sk_R d) (a0 : Int32) : ∃ a : Int32, q_X8_size d a0 = some a ∧ q_X9_size d a0 = some a := by sorry
theorem pz_instructor {d : sk_D} (hR : sk_R d) (a0 : Int32) : ∃ a : Int32, q_X8_instructor d a0 = some a ∧ q_X9_instructor d a0 = some a := by sorry
theorem pz_assign {d : sk_D} (hR : sk_R d) : ∃ (a : Int32) (d1 d2 : sk_D), q_X8_assign d = some (a, d1) ∧ q_X9_assign d1 = some (a, d2) ∧ sk_R d2 := by sorry
theorem pz_placed {d : sk_D} (hR : sk_R d) : ∃ a : Int32, q_X8_placed d = some a ∧ q_X9_placed d = some a := by sorry
theorem pz_outOfLevel {d : sk_D} (hR : sk_R d) : ∃ a : Int32, q_X8_outOfLevel d = some a ∧ q_X9_outOfLevel d = some a := by sorry
theorem pz_extraPlaced {d : sk_D} (hR : sk_R d) (a0 : Int32) (a1 : Int32) (a2 : Int32) : ∃ (a : Int32) (d1 d2 : sk_D), q_X8_extraPlaced d a0 a1 a2 = some (a, d1) ∧ q_X9_extraPlaced d1 a0 a1 a2 = some (a, d2) ∧ sk_R d2 := by sorry
theorem pz_splitGain {d : sk_D} (hR : sk_R d) (a0 : Int32) : ∃ (a : Int32) (d1 d2 : sk_D), q_X8_splitGain d a0 = some (a, d1) ∧ q_X9_splitGain d1 a0 = some (a, d2) ∧ sk_R d2 := by sorry
theorem pz_hire {d : sk_D} (hR : sk_R d) (a0 : Int32) (a1 : Int32) (a2 : Int32) (a3 : Int32) : ∃ (a : Int32) (d1 d2 : sk_D), q_X8_hire d a0 a1 a2 a3 = some (a, d1) ∧ q_X9_hire d1 a0 a1 a2 a3 = some (a, d2) ∧ sk_R d2 := by sorry
theorem pz_dismiss {d : sk_D} (hR : sk_R d) (a0 : Int32) : ∃ (a : Int32) (d1 d2 : sk_D), q_X8_dismiss d a0 = some (a, d1) ∧ q_X9_dismiss d1 a0 = some (a, d2) ∧ sk_R d2 := by sorry
theorem pz_instructors {d : sk_D} (hR : sk_R d) : ∃ a : Int32, q_X8_instructors d = some a ∧ q_X9_instructors d = some a := by sorry
theorem pz_canTeach {d : sk_D} (hR : sk_R d) (a0 : Int32) (a1 : Int32) : ∃ a : Int32, q_X8_canTeach d a0 a1 = some a ∧ q_X9_canTeach d a0 a1 = some a := by sorry
theorem pz_staff {d : sk_D} (hR : sk_R d) : ∃ (a : Int32) (d1 d2 : sk_D), q_X8_staff d = some (a, d1) ∧ q_X9_staff d1 = some (a, d2) ∧ sk_R d2 := by sorry
theorem pz_pay {d : sk_D} (hR : sk_R d) (a0 : Int32) : ∃ (a : Int32) (d1 d2 : sk_D), q_X8_pay d a0 = some (a, d1) ∧ q_X9_pay d1 a0 = some (a, d2) ∧ sk_R d2 := by sorry
theorem pz_earnings {d : sk_D} (hR : sk_R d) (a0 : Int32) : ∃ a : Int32, q_X8_earnings d a0 = some a ∧ q_X9_earnings d a0 = some a := by sorry
theorem pz_addLift {d : sk_D} (hR : sk_R d) (a0 : Int32) (a1 : Int32) (a2 : Int32) : ∃ (a : Int32) (d1 d2 : sk_D), q_X8_addLift d a0 a1 a2 = some (a, d1) ∧ q_X9_addLift d1 a0 a1 a2 = some (a, d2) ∧ sk_R d2 := by sorry
theorem pz_addStop {d : sk_D} (hR : sk_R d) (a0 : Int32) (a1 : Int32) (a2 : Int32) : ∃ (a : Int32) (d1 d2 : sk_D), q_X8_addStop d a0 a1 a2 = some (a, d1) ∧ q_X9_addStop d1 a0 a1 a2 = some (a, d2) ∧ sk_R d2 := by sorry
theorem pz_clearStops {d : sk_D} (hR : sk_R d) (a0 : Int32) : ∃ (a : Int32) (d1 d2 : sk_D), q_X8_clearStops d a0 = some (a, d1) ∧ q_X9_clearStops d1 a0 = some (a, d2) ∧ sk_R d2 := by sorry
theorem pz_setStart {d : sk_D} (hR : sk_R d) (a0 : Int32) (a1 : Int32) : ∃ (a : Int32) (d1 d2 : sk_D), q_X8_setStart d a0 a1 = some (a, d1) ∧ q_X9_setStart d1 a0 a1 = some (a, d2) ∧ sk_R d2 := by sorry
theorem pz_simulate {d : sk_D} (hR : sk_R d) (a0 : Int32) : ∃ (a : Int32) (d1 d2 : sk_D), q_X8_simulate d a0 = some (a, d1) ∧ q_X9_simulate d1 a0 = some (a, d2) ∧ sk_R d2 := by sorry
theorem pz_waited {d : sk_D} (hR : sk_R d) (a0 : Int32) : ∃ a : Int32, q_X8_waited d a0 = some a ∧ q_X9_waited d a0 = some a := by sorry
theorem pz_rides {d : sk_D} (hR : sk_R d) (a0 : Int32) : ∃ a : Int32, q_X8_rides d a0 = some a ∧ q_X9_rides d a0 = some a := by sorry
theorem pz_longestQueue {d : sk_D} (hR : sk_R d) (a0 : Int32) : ∃ a : Int32, q_X8_longestQueue d a0 = some a ∧ q_X9_longestQueue d a0 = some a := by sorry
theorem pz_carried {d : sk_D} (hR : sk_R d) (a0 : Int32) : ∃ a : Int32, q_X8_carried d a0 = some a ∧ q_X9_carried d a0 = some a := by sorry
theorem pz_bestStart {d : sk_D} (hR : sk_R d) (a0 : Int32) (a1 : Int32) : ∃ (a : Int32) (d1 d2 : sk_D), q_X8_bestStart d a0 a1 = some (a, d1) ∧ q_X9_bestStart d1 a0 a1 = some (a, d2) ∧ sk_R d2 := by sorry
theorem pz_type {d : sk_D} (hR : sk_R d) (a0 : Int32) : ∃ (a : Int32) (d1 d2 : sk_D), q_X8_type d a0 = some (a, d1) ∧ q_X9_type d1 a0 = some (a, d2) ∧ sk_R d2 := by sorry
theorem pz_clearText {d : sk_D} (hR : sk_R d) : ∃ (a : Int32) (d1 d2 : sk_D), q_X8_clearText d = some (a, d1) ∧ q_X9_clearText d1 = some (a, d2) ∧ sk_R d2 := by sorry
theorem pz_load {d : sk_D} (hR : sk_R d) : ∃ (a : Int32) (d1 d2 : sk_D), q_X8_load d = some (a, d1) ∧ q_X9_load d1 = some (a, d2) ∧ sk_R d2 := by sorry
theorem pz_digest {d : sk_D} (hR : sk_R d) : ∃ a : Int64, q_X8_digest d = some a ∧ q_X9_digest d = some a := by sorry
