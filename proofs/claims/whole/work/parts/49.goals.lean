/-! WHAT IS TO BE SHOWN OF EACH METHOD PAIR (by program, wip/whole/gen_law.py) -/
/-- body: both answer alike -/
def B_body (Inv : zM → Prop) : Prop := ∀ (a1 : Int32) (u : zM), Inv u → ∃ (r : Int32) (u1 u2 : zM), m_X5_body a1 u = some (r, u1) ∧ m_X6_body a1 u1 = some (r, u2) ∧ Inv u2
/-- bodyOf: both answer alike -/
def B_bodyOf (Inv : zM → Prop) : Prop := ∀ (a1 a2 : Int32) (u : zM), Inv u → ∃ (r : Int32) (u1 u2 : zM), m_X5_bodyOf a1 a2 u = some (r, u1) ∧ m_X6_bodyOf a1 a2 u1 = some (r, u2) ∧ Inv u2
/-- change: both answer alike -/
def B_change (Inv : zM → Prop) : Prop := ∀ (a1 a2 a3 : Int32) (u : zM), Inv u → ∃ (r : Int32) (u1 u2 : zM), m_X5_change a1 a2 a3 u = some (r, u1) ∧ m_X6_change a1 a2 a3 u1 = some (r, u2) ∧ Inv u2
/-- here: both answer alike -/
def B_here (Inv : zM → Prop) : Prop := ∀ (a1 a2 : Int32) , (a2 = 0 ∨ a2 = 1) → ∀ (u : zM), Inv u → ∃ (r : Int32) (u1 u2 : zM), m_X5_here a1 a2 u = some (r, u1) ∧ m_X6_here a1 a2 u1 = some (r, u2) ∧ Inv u2
/-- rule: both answer alike -/
def B_rule (Inv : zM → Prop) : Prop := ∀ (a1 : Int32) (u : zM), Inv u → ∃ (r : Int32) (u1 u2 : zM), m_X5_rule a1 u = some (r, u1) ∧ m_X6_rule a1 u1 = some (r, u2) ∧ Inv u2
/-- ease: both answer alike -/
def B_ease (Inv : zM → Prop) : Prop := ∀ (a1 : Int32) (u : zM), Inv u → ∃ (r : Int32) (u1 u2 : zM), m_X5_ease a1 u = some (r, u1) ∧ m_X6_ease a1 u1 = some (r, u2) ∧ Inv u2
/-- price: both answer alike -/
def B_price (Inv : zM → Prop) : Prop := ∀ (a1 : Int32) (u : zM), Inv u → ∃ (r : Int32) (u1 u2 : zM), m_X5_price a1 u = some (r, u1) ∧ m_X6_price a1 u1 = some (r, u2) ∧ Inv u2
/-- famine: both answer alike -/
def B_famine (Inv : zM → Prop) : Prop := ∀ (a1 : Int32) (u : zM), Inv u → ∃ (r : Int32) (u1 u2 : zM), m_X5_famine a1 u = some (r, u1) ∧ m_X6_famine a1 u1 = some (r, u2) ∧ Inv u2
/-- coat: both answer alike -/
def B_coat (Inv : zM → Prop) : Prop := ∀ (a1 : Int32) (u : zM), Inv u → ∃ (r : Int32) (u1 u2 : zM), m_X5_coat a1 u = some (r, u1) ∧ m_X6_coat a1 u1 = some (r, u2) ∧ Inv u2
/-- mean: both answer alike -/
def B_mean (Inv : zM → Prop) : Prop := ∀ (a1 a2 : Int32) (u : zM), Inv u → ∃ (r : Int32) (u1 u2 : zM), m_X5_mean a1 a2 u = some (r, u1) ∧ m_X6_mean a1 a2 u1 = some (r, u2) ∧ Inv u2
/-- cost: both answer alike -/
def B_cost (Inv : zM → Prop) : Prop := ∀ (a1 : Int32) (u : zM), Inv u → ∃ (r : Int32) (u1 u2 : zM), m_X5_cost a1 u = some (r, u1) ∧ m_X6_cost a1 u1 = some (r, u2) ∧ Inv u2
/-- fits: both answer alike -/
def B_fits (Inv : zM → Prop) : Prop := ∀ (u : zM), Inv u → ∃ (r : Int32) (u1 u2 : zM), m_X5_fits u = some (r, u1) ∧ m_X6_fits u1 = some (r, u2) ∧ Inv u2
/-- costs: both answer alike -/
def B_costs (Inv : zM → Prop) : Prop := ∀ (u : zM), Inv u → ∃ (r : Int32) (u1 u2 : zM), m_X5_costs u = some (r, u1) ∧ m_X6_costs u1 = some (r, u2) ∧ Inv u2
/-- fines: both answer alike -/
def B_fines (Inv : zM → Prop) : Prop := ∀ (u : zM), Inv u → ∃ (r : Int32) (u1 u2 : zM), (m_X5_fines u = some r ∧ u1 = u) ∧ (m_X6_fines u1 = some r ∧ u2 = u1) ∧ Inv u2
/-- pins: both answer alike -/
def B_pins (Inv : zM → Prop) : Prop := ∀ (a1 : Int32) (u : zM), Inv u → ∃ (r : Int32) (u1 u2 : zM), m_X5_pins a1 u = some (r, u1) ∧ m_X6_pins a1 u1 = some (r, u2) ∧ Inv u2
/-- worst: both answer alike -/
def B_worst (Inv : zM → Prop) : Prop := ∀ (u : zM), Inv u → ∃ (r : Int32) (u1 u2 : zM), m_X5_worst u = some (r, u1) ∧ m_X6_worst u1 = some (r, u2) ∧ Inv u2
/-- marry: both answer alike -/
def B_marry (Inv : zM → Prop) : Prop := ∀ (a1 a2 : Int32) (u : zM), Inv u → ∃ (r : Int32) (u1 u2 : zM), m_X5_marry a1 a2 u = some (r, u1) ∧ m_X6_marry a1 a2 u1 = some (r, u2) ∧ Inv u2
/-- bride: both answer alike -/
def B_bride (Inv : zM → Prop) : Prop := ∀ (a1 : Int32) (u : zM), Inv u → ∃ (r : Int32) (u1 u2 : zM), m_X5_bride a1 u = some (r, u1) ∧ m_X6_bride a1 u1 = some (r, u2) ∧ Inv u2
/-- send: both answer alike -/
def B_send (Inv : zM → Prop) : Prop := ∀ (a1 : Int32) (u : zM), Inv u → ∃ (r : Int32) (u1 u2 : zM), m_X5_send a1 u = some (r, u1) ∧ m_X6_send a1 u1 = some (r, u2) ∧ Inv u2
/-- best: both answer alike -/
def B_best (Inv : zM → Prop) : Prop := ∀ (u : zM), Inv u → ∃ (r : Int32) (u1 u2 : zM), m_X5_best u = some (r, u1) ∧ m_X6_best u1 = some (r, u2) ∧ Inv u2
/-- easeFor: both answer alike -/
def B_easeFor (Inv : zM → Prop) : Prop := ∀ (u : zM), Inv u → ∃ (r : Int32) (u1 u2 : zM), m_X5_easeFor u = some (r, u1) ∧ m_X6_easeFor u1 = some (r, u2) ∧ Inv u2
/-- sways: both answer alike -/
def B_sways (Inv : zM → Prop) : Prop := ∀ (a1 a2 : Int32) (u : zM), Inv u → ∃ (r : Int32) (u1 u2 : zM), m_X5_sways a1 a2 u = some (r, u1) ∧ m_X6_sways a1 a2 u1 = some (r, u2) ∧ Inv u2
/-- sized: both answer alike -/
def B_sized (Inv : zM → Prop) : Prop := ∀ (a1 a2 : Int32) (u : zM), Inv u → ∃ (r : Int32) (u1 u2 : zM), m_X5_sized a1 a2 u = some (r, u1) ∧ m_X6_sized a1 a2 u1 = some (r, u2) ∧ Inv u2
/-- bribe: both answer alike -/
def B_bribe (Inv : zM → Prop) : Prop := ∀ (a1 : Int32) (u : zM), Inv u → ∃ (r : Int32) (u1 u2 : zM), m_X5_bribe a1 u = some (r, u1) ∧ m_X6_bribe a1 u1 = some (r, u2) ∧ Inv u2
/-- settled: both answer alike -/
def B_settled (Inv : zM → Prop) : Prop := ∀ (u : zM), Inv u → ∃ (r : Int32) (u1 u2 : zM), m_X5_settled u = some (r, u1) ∧ m_X6_settled u1 = some (r, u2) ∧ Inv u2
/-- rounds: both answer alike -/
def B_rounds (Inv : zM → Prop) : Prop := ∀ (a1 : Int32) (u : zM), Inv u → ∃ (r : Int32) (u1 u2 : zM), m_X5_rounds a1 u = some (r, u1) ∧ m_X6_rounds a1 u1 = some (r, u2) ∧ Inv u2
/-- settles: both answer alike -/
def B_settles (Inv : zM → Prop) : Prop := ∀ (u : zM), Inv u → ∃ (r : Int32) (u1 u2 : zM), m_X5_settles u = some (r, u1) ∧ m_X6_settles u1 = some (r, u2) ∧ Inv u2
/-- spring: both answer alike -/
def B_spring (Inv : zM → Prop) : Prop := ∀ (u : zM), Inv u → ∃ (r : Int32) (u1 u2 : zM), m_X5_spring u = some (r, u1) ∧ m_X6_spring u1 = some (r, u2) ∧ Inv u2
/-- old: both answer alike -/
def B_old (Inv : zM → Prop) : Prop := ∀ (a1 a2 : Int32) (u : zM), Inv u → ∃ (r : Int32) (u1 u2 : zM), m_X5_old a1 a2 u = some (r, u1) ∧ m_X6_old a1 a2 u1 = some (r, u2) ∧ Inv u2
/-- lived: both answer alike -/
def B_lived (Inv : zM → Prop) : Prop := ∀ (a1 : Int32) (u : zM), Inv u → ∃ (r : Int32) (u1 u2 : zM), m_X5_lived a1 u = some (r, u1) ∧ m_X6_lived a1 u1 = some (r, u2) ∧ Inv u2
/-- surely: both answer alike -/
def B_surely (Inv : zM → Prop) : Prop := ∀ (a1 a2 : Int32) (u : zM), Inv u → ∃ (r : Int32) (u1 u2 : zM), m_X5_surely a1 a2 u = some (r, u1) ∧ m_X6_surely a1 a2 u1 = some (r, u2) ∧ Inv u2
/-- odds: both answer alike -/
def B_odds (Inv : zM → Prop) : Prop := ∀ (a1 : Int32) (u : zM), Inv u → ∃ (r : Int32) (u1 u2 : zM), m_X5_odds a1 u = some (r, u1) ∧ m_X6_odds a1 u1 = some (r, u2) ∧ Inv u2
/-- seed: both answer alike -/
def B_seed (Inv : zM → Prop) : Prop := ∀ (a1 : Int32) (u : zM), Inv u → ∃ (r : Int32) (u1 u2 : zM), m_X5_seed a1 u = (r, u1) ∧ m_X6_seed a1 u1 = some (r, u2) ∧ Inv u2
/-- feed: both answer alike -/
def B_feed (Inv : zM → Prop) : Prop := ∀ (a1 a2 : Int32) (u : zM), Inv u → ∃ (r : Int32) (u1 u2 : zM), m_X5_feed a1 a2 u = some (r, u1) ∧ m_X6_feed a1 a2 u1 = some (r, u2) ∧ Inv u2
/-- wipe: both answer alike -/
def B_wipe (Inv : zM → Prop) : Prop := ∀ (u : zM), Inv u → ∃ (r : Int32) (u1 u2 : zM), m_X5_wipe u = (r, u1) ∧ m_X6_wipe u1 = (r, u2) ∧ Inv u2
/-- text: both answer alike -/
def B_text (Inv : zM → Prop) : Prop := ∀ (u : zM), Inv u → ∃ (r : Int32) (u1 u2 : zM), m_X5_text u = some (r, u1) ∧ m_X6_text u1 = some (r, u2) ∧ Inv u2
/-- hold: both answer alike -/
def B_hold (Inv : zM → Prop) : Prop := ∀ (a1 a2 : Int32) (u : zM), Inv u → ∃ (r : Int32) (u1 u2 : zM), m_X5_hold a1 a2 u = some (r, u1) ∧ m_X6_hold a1 a2 u1 = some (r, u2) ∧ Inv u2
/-- as: both answer alike -/
def B_as (Inv : zM → Prop) : Prop := ∀ (a1 a2 : Int32) (u : zM), Inv u → ∃ (r : Int32) (u1 u2 : zM), m_X5_as a1 a2 u = some (r, u1) ∧ m_X6_as a1 a2 u1 = some (r, u2) ∧ Inv u2
/-- sheet: both answer alike -/
def B_sheet (Inv : zM → Prop) : Prop := ∀ (a1 a2 a3 : Int32) (u : zM), Inv u → ∃ (r : Int32) (u1 u2 : zM), m_X5_sheet a1 a2 a3 u = some (r, u1) ∧ m_X6_sheet a1 a2 a3 u1 = some (r, u2) ∧ Inv u2
/-- write: both answer alike -/
def B_write (Inv : zM → Prop) : Prop := ∀ (a1 a2 a3 : Int32) (u : zM), Inv u → ∃ (r : Int32) (u1 u2 : zM), m_X5_write a1 a2 a3 u = some (r, u1) ∧ m_X6_write a1 a2 a3 u1 = some (r, u2) ∧ Inv u2
/-- copy: both answer alike -/
def B_copy (Inv : zM → Prop) : Prop := ∀ (a1 a2 a3 a4 a5 : Int32) (u : zM), Inv u → ∃ (r : Int32) (u1 u2 : zM), m_X5_copy a1 a2 a3 a4 a5 u = some (r, u1) ∧ m_X6_copy a1 a2 a3 a4 a5 u1 = some (r, u2) ∧ Inv u2
/-- load: both answer alike -/
def B_load (Inv : zM → Prop) : Prop := ∀ (a1 : Int32) (u : zM), Inv u → ∃ (r : Int32) (u1 u2 : zM), m_X5_load a1 u = some (r, u1) ∧ m_X6_load a1 u1 = some (r, u2) ∧ Inv u2
/-- judge: both answer alike -/
def B_judge (Inv : zM → Prop) : Prop := ∀ (a1 : Int32) (u : zM), Inv u → ∃ (r : Int32) (u1 u2 : zM), m_X5_judge a1 u = some (r, u1) ∧ m_X6_judge a1 u1 = some (r, u2) ∧ Inv u2
/-- image: both answer alike -/
def B_image (Inv : zM → Prop) : Prop := ∀ (u : zM), Inv u → ∃ (r : Int32) (u1 u2 : zM), m_X5_image u = some (r, u1) ∧ m_X6_image u1 = some (r, u2) ∧ Inv u2
/-- undo: both answer alike -/
def B_undo (Inv : zM → Prop) : Prop := ∀ (u : zM), Inv u → ∃ (r : Int32) (u1 u2 : zM), m_X5_undo u = some (r, u1) ∧ m_X6_undo u1 = some (r, u2) ∧ Inv u2
/-- tear: both answer alike -/
def B_tear (Inv : zM → Prop) : Prop := ∀ (u : zM), Inv u → ∃ (r : Int32) (u1 u2 : zM), m_X5_tear u = (r, u1) ∧ m_X6_tear u1 = (r, u2) ∧ Inv u2
/-- count: both answer alike -/
def B_count (Inv : zM → Prop) : Prop := ∀ (a1 : Int32) (u : zM), Inv u → ∃ (r : Int32) (u1 u2 : zM), m_X5_count a1 u = some (r, u1) ∧ m_X6_count a1 u1 = some (r, u2) ∧ Inv u2
/-- status: both answer alike -/
def B_status (Inv : zM → Prop) : Prop := ∀ (a1 : Int32) (u : zM), Inv u → ∃ (r : Int32) (u1 u2 : zM), m_X5_status a1 u = some (r, u1) ∧ m_X6_status a1 u1 = some (r, u2) ∧ Inv u2
