/-- what is to be shown of feed: both answer, alike, and what holds between them stays -/
def PU_feed (F : Nat) (Inv : Mem → Prop) : Prop := ∀ (m : Mem) (a1 : Int32), Inv m → ∃ (r : Int32) (m1 : Mem) (m2 : Mem), gX8_feed m a1 = some (r, m1) ∧ gX9_feed m1 a1 = some (r, m2) ∧ Inv m2
/-- what is to be shown of village: both answer, alike, and what holds between them stays -/
def PU_village (F : Nat) (Inv : Mem → Prop) : Prop := ∀ (m : Mem), Inv m → ∃ (r : Int32) (m1 : Mem) (m2 : Mem), gX8_village F m = some (r, m1) ∧ gX9_village F m1 = some (r, m2) ∧ Inv m2
/-- what is to be shown of lane: both answer, alike, and what holds between them stays -/
def PU_lane (F : Nat) (Inv : Mem → Prop) : Prop := ∀ (m : Mem) (a1 : Int32) (a2 : Int32), Inv m → ∃ (r : Int32) (m1 : Mem) (m2 : Mem), gX8_lane m a1 a2 = some (r, m1) ∧ gX9_lane m1 a1 a2 = some (r, m2) ∧ Inv m2
/-- what is to be shown of rule: both answer, alike, and what holds between them stays -/
def PU_rule (F : Nat) (Inv : Mem → Prop) : Prop := ∀ (m : Mem) (a1 : Int32) (a2 : Int32), Inv m → ∃ (r : Int32) (m1 : Mem) (m2 : Mem), gX8_rule F m a1 a2 = some (r, m1) ∧ gX9_rule m1 a1 a2 = some (r, m2) ∧ Inv m2
/-- what is to be shown of takeUp: both answer, alike, and what holds between them stays -/
def PU_takeUp (F : Nat) (Inv : Mem → Prop) : Prop := ∀ (m : Mem), Inv m → ∃ (r : Int32) (m1 : Mem) (m2 : Mem), gX8_takeUp F m = some (r, m1) ∧ gX9_takeUp m1 = some (r, m2) ∧ Inv m2
/-- what is to be shown of is: both answer, alike, and what holds between them stays -/
def PU_is (F : Nat) (Inv : Mem → Prop) : Prop := ∀ (m : Mem) (a1 : Int32), Inv m → ∃ (r : Int32) (m1 : Mem) (m2 : Mem), gX8_is m a1 = some (r, m1) ∧ gX9_is F m1 a1 = some (r, m2) ∧ Inv m2
/-- what is to be shown of hangs: both answer, alike, and what holds between them stays -/
def PU_hangs (F : Nat) (Inv : Mem → Prop) : Prop := ∀ (m : Mem) (a1 : Int32), Inv m → ∃ (r : Int32) (m1 : Mem) (m2 : Mem), gX8_hangs m a1 = some (r, m1) ∧ gX9_hangs F m1 a1 = some (r, m2) ∧ Inv m2
/-- what is to be shown of parts: both answer, alike, and what holds between them stays -/
def PU_parts (F : Nat) (Inv : Mem → Prop) : Prop := ∀ (m : Mem) (a1 : Int32), Inv m → ∃ (r : Int32) (m1 : Mem) (m2 : Mem), gX8_parts m a1 = some (r, m1) ∧ gX9_parts F m1 a1 = some (r, m2) ∧ Inv m2
/-- what is to be shown of many: both answer, alike, and what holds between them stays -/
def PU_many (F : Nat) (Inv : Mem → Prop) : Prop := ∀ (m : Mem), Inv m → ∃ (r : Int32) (m2 : Mem), gX8_many m = some r ∧ gX9_many F m = some (r, m2) ∧ Inv m2
/-- what is to be shown of sum: both answer, alike, and what holds between them stays -/
def PU_sum (F : Nat) (Inv : Mem → Prop) : Prop := ∀ (m : Mem), Inv m → ∃ (r : Int64) (m2 : Mem), gX8_sum F m = some r ∧ gX9_sum F m = some (r, m2) ∧ Inv m2
/-- what is to be shown of way: both answer, alike, and what holds between them stays -/
def PU_way (F : Nat) (Inv : Mem → Prop) : Prop := ∀ (m : Mem) (a1 : Int32), Inv m → ∃ (r : Int32) (m1 : Mem) (m2 : Mem), gX8_way m a1 = some (r, m1) ∧ gX9_way F m1 a1 = some (r, m2) ∧ Inv m2
/-- what is to be shown of likely: both answer, alike, and what holds between them stays -/
def PU_likely (F : Nat) (Inv : Mem → Prop) : Prop := ∀ (m : Mem) (a1 : Int32) (a2 : Int32), Inv m → ∃ (r : Int64) (m1 : Mem) (m2 : Mem), gX8_likely F m a1 a2 = some (r, m1) ∧ gX9_likely F m1 a1 a2 = some (r, m2) ∧ Inv m2
/-- what is to be shown of pair: both answer, alike, and what holds between them stays -/
def PU_pair (F : Nat) (Inv : Mem → Prop) : Prop := ∀ (m : Mem) (a1 : Int32) (a2 : Int32) (a3 : Int32), Inv m → ∃ (r : Int64) (m1 : Mem) (m2 : Mem), gX8_pair F m a1 a2 a3 = some (r, m1) ∧ gX9_pair F m1 a1 a2 a3 = some (r, m2) ∧ Inv m2
/-- what is to be shown of less: both answer, alike, and what holds between them stays -/
def PU_less (F : Nat) (Inv : Mem → Prop) : Prop := ∀ (m : Mem) (a1 : Int32) (a2 : Int32), Inv m → ∃ (r : Int32) (m1 : Mem) (m2 : Mem), gX8_less F m a1 a2 = some (r, m1) ∧ gX9_less F m1 a1 a2 = some (r, m2) ∧ Inv m2
/-- what is to be shown of inAll: both answer, alike, and what holds between them stays -/
def PU_inAll (F : Nat) (Inv : Mem → Prop) : Prop := ∀ (m : Mem), Inv m → ∃ (r : Int32) (m2 : Mem), gX8_inAll F m = some r ∧ gX9_inAll F m = some (r, m2) ∧ Inv m2
/-- what is to be shown of inNone: both answer, alike, and what holds between them stays -/
def PU_inNone (F : Nat) (Inv : Mem → Prop) : Prop := ∀ (m : Mem), Inv m → ∃ (r : Int32) (m2 : Mem), gX8_inNone F m = some r ∧ gX9_inNone F m = some (r, m2) ∧ Inv m2
/-- what is to be shown of cheap: both answer, alike, and what holds between them stays -/
def PU_cheap (F : Nat) (Inv : Mem → Prop) : Prop := ∀ (m : Mem) (a1 : Int32) (a2 : Int32), Inv m → ∃ (r : Int32) (m1 : Mem) (m2 : Mem), gX8_cheap F m a1 a2 = some (r, m1) ∧ gX9_cheap F m1 a1 a2 = some (r, m2) ∧ Inv m2
/-- what is to be shown of nights: both answer, alike, and what holds between them stays -/
def PU_nights (F : Nat) (Inv : Mem → Prop) : Prop := ∀ (m : Mem) (a1 : Int32) (a2 : Int32), Inv m → ∃ (r : Int32) (m1 : Mem) (m2 : Mem), gX8_nights m a1 a2 = some (r, m1) ∧ gX9_nights F m1 a1 a2 = some (r, m2) ∧ Inv m2
/-- what is to be shown of step: both answer, alike, and what holds between them stays -/
def PU_step (F : Nat) (Inv : Mem → Prop) : Prop := ∀ (m : Mem) (a1 : Int32) (a2 : Int32), Inv m → ∃ (r : Int32) (m1 : Mem) (m2 : Mem), gX8_step F m a1 a2 = some (r, m1) ∧ gX9_step F m1 a1 a2 = some (r, m2) ∧ Inv m2
/-- what is to be shown of toward: both answer, alike, and what holds between them stays -/
def PU_toward (F : Nat) (Inv : Mem → Prop) : Prop := ∀ (m : Mem) (a1 : Int32) (a2 : Int32), Inv m → ∃ (r : Int64) (m1 : Mem) (m2 : Mem), gX8_toward F m a1 a2 = some (r, m1) ∧ gX9_toward F m1 a1 a2 = some (r, m2) ∧ Inv m2
/-- what is to be shown of forests: both answer, alike, and what holds between them stays -/
def PU_forests (F : Nat) (Inv : Mem → Prop) : Prop := ∀ (m : Mem) (a1 : Int32), Inv m → ∃ (r : Int32) (m1 : Mem) (m2 : Mem), gX8_forests F m a1 = some (r, m1) ∧ gX9_forests F m1 a1 = some (r, m2) ∧ Inv m2
/-- what is to be shown of ploughs: both answer, alike, and what holds between them stays -/
def PU_ploughs (F : Nat) (Inv : Mem → Prop) : Prop := ∀ (m : Mem) (a1 : Int32), Inv m → ∃ (r : Int32) (m1 : Mem) (m2 : Mem), gX8_ploughs F m a1 = some (r, m1) ∧ gX9_ploughs F m1 a1 = some (r, m2) ∧ Inv m2
/-- what is to be shown of hard: both answer, alike, and what holds between them stays -/
def PU_hard (F : Nat) (Inv : Mem → Prop) : Prop := ∀ (m : Mem) (a1 : Int32) (a2 : Int32) (a3 : Int32), Inv m → ∃ (r : Int64) (m1 : Mem) (m2 : Mem), gX8_hard F m a1 a2 a3 = some (r, m1) ∧ gX9_hard F m1 a1 a2 a3 = some (r, m2) ∧ Inv m2
/-- what is to be shown of more: both answer, alike, and what holds between them stays -/
def PU_more (F : Nat) (Inv : Mem → Prop) : Prop := ∀ (m : Mem) (a1 : Int32) (a2 : Int32) (a3 : Int32), Inv m → ∃ (r : Int64) (m1 : Mem) (m2 : Mem), gX8_more F m a1 a2 a3 = some (r, m1) ∧ gX9_more F m1 a1 a2 a3 = some (r, m2) ∧ Inv m2
/-- what is to be shown of holds: both answer, alike, and what holds between them stays -/
def PU_holds (F : Nat) (Inv : Mem → Prop) : Prop := ∀ (m : Mem) (a1 : Int32), Inv m → ∃ (r : Int64) (m1 : Mem) (m2 : Mem), gX8_holds F m a1 = some (r, m1) ∧ gX9_holds F m1 a1 = some (r, m2) ∧ Inv m2
/-- what is to be shown of plan: both answer, alike, and what holds between them stays -/
def PU_plan (F : Nat) (Inv : Mem → Prop) : Prop := ∀ (m : Mem) (a1 : Int32) (a2 : Int32), Inv m → ∃ (r : Int32) (m1 : Mem) (m2 : Mem), gX8_plan F m a1 a2 = some (r, m1) ∧ gX9_plan F m1 a1 a2 = some (r, m2) ∧ Inv m2
/-- what is to be shown of draw: both answer, alike, and what holds between them stays -/
def PU_draw (F : Nat) (Inv : Mem → Prop) : Prop := ∀ (m : Mem) (a1 : Int32) (a2 : Int32), Inv m → ∃ (r : Int32) (m1 : Mem) (m2 : Mem), gX8_draw F m a1 a2 = some (r, m1) ∧ gX9_draw F m1 a1 a2 = some (r, m2) ∧ Inv m2
/-- what is to be shown of often: both answer, alike, and what holds between them stays -/
def PU_often (F : Nat) (Inv : Mem → Prop) : Prop := ∀ (m : Mem) (a1 : Int32) (a2 : Int32) (a3 : Int32) (a4 : Int32), Inv m → ∃ (r : Int32) (m1 : Mem) (m2 : Mem), gX8_often F m a1 a2 a3 a4 = some (r, m1) ∧ gX9_often F m1 a1 a2 a3 a4 = some (r, m2) ∧ Inv m2
/-- what is to be shown of row: both answer, alike, and what holds between them stays -/
def PU_row (F : Nat) (Inv : Mem → Prop) : Prop := ∀ (m : Mem) (a1 : Int32), Inv m → ∃ (r : Int32) (m1 : Mem) (m2 : Mem), gX8_row m a1 = some (r, m1) ∧ gX9_row m1 a1 = some (r, m2) ∧ Inv m2
/-- what is to be shown of judge: both answer, alike, and what holds between them stays -/
def PU_judge (F : Nat) (Inv : Mem → Prop) : Prop := ∀ (m : Mem), Inv m → ∃ (r : Int32) (m1 : Mem) (m2 : Mem), gX8_judge F m = some (r, m1) ∧ gX9_judge F m1 = some (r, m2) ∧ Inv m2
/-- what is to be shown of image: both answer, alike, and what holds between them stays -/
def PU_image (F : Nat) (Inv : Mem → Prop) : Prop := ∀ (m : Mem), Inv m → ∃ (r : Int32) (m1 : Mem) (m2 : Mem), gX8_image F m = some (r, m1) ∧ gX9_image F m1 = some (r, m2) ∧ Inv m2
/-- what is to be shown of restore: both answer, alike, and what holds between them stays -/
def PU_restore (F : Nat) (Inv : Mem → Prop) : Prop := ∀ (m : Mem), Inv m → ∃ (r : Int32) (m1 : Mem) (m2 : Mem), gX8_restore F m = some (r, m1) ∧ gX9_restore F m1 = some (r, m2) ∧ Inv m2
/-- what is to be shown of count: both answer, alike, and what holds between them stays -/
def PU_count (F : Nat) (Inv : Mem → Prop) : Prop := ∀ (m : Mem) (a1 : Int32), Inv m → ∃ (r : Int32), gX8_count F m a1 = some r ∧ gX9_count F m a1 = some r ∧ Inv m
def PU (F : Nat) (Inv : Mem → Prop) : Prop := PU_feed F Inv ∧ PU_village F Inv ∧ PU_lane F Inv ∧ PU_rule F Inv ∧ PU_takeUp F Inv ∧ PU_is F Inv ∧ PU_hangs F Inv ∧ PU_parts F Inv ∧ PU_many F Inv ∧ PU_sum F Inv ∧ PU_way F Inv ∧ PU_likely F Inv ∧ PU_pair F Inv ∧ PU_less F Inv ∧ PU_inAll F Inv ∧ PU_inNone F Inv ∧ PU_cheap F Inv ∧ PU_nights F Inv ∧ PU_step F Inv ∧ PU_toward F Inv ∧ PU_forests F Inv ∧ PU_ploughs F Inv ∧ PU_hard F Inv ∧ PU_more F Inv ∧ PU_holds F Inv ∧ PU_plan F Inv ∧ PU_draw F Inv ∧ PU_often F Inv ∧ PU_row F Inv ∧ PU_judge F Inv ∧ PU_image F Inv ∧ PU_restore F Inv ∧ PU_count F Inv
