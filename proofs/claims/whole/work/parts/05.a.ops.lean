def OP_land (R : AH → Prop) : Prop := ∀ (h : AH), R h → ∃ (v : Int32) (h1 : AH) (h2 : AH), fX8_land 0 h = some (v, h1) ∧ fX9_land 262 h1 = some (v, h2) ∧ R h2
def OP_show (R : AH → Prop) : Prop := ∀ (a1 : Int32) (a2 : Int32) (a3 : Int32) (h : AH), R h → ∃ (v : Int32) (h1 : AH) (h2 : AH), fX8_show 0 a1 a2 a3 h = some (v, h1) ∧ fX9_show 262 a1 a2 a3 h1 = some (v, h2) ∧ R h2
def OP_watcher (R : AH → Prop) : Prop := ∀ (a1 : Int32) (a2 : Int32) (h : AH), R h → ∃ (v : Int32) (h1 : AH) (h2 : AH), fX8_watcher 0 a1 a2 h = some (v, h1) ∧ fX9_watcher 262 a1 a2 h1 = some (v, h2) ∧ R h2
def OP_type (R : AH → Prop) : Prop := ∀ (a1 : Int32) (h : AH), R h → ∃ (v : Int32) (h1 : AH) (h2 : AH), fX8_type 0 a1 h = some (v, h1) ∧ fX9_type 262 a1 h1 = some (v, h2) ∧ R h2
def OP_clear (R : AH → Prop) : Prop := ∀ (h : AH), R h → ∃ (v : Int32) (h1 : AH) (h2 : AH), fX8_clear 0 h = some (v, h1) ∧ fX9_clear 262 h1 = some (v, h2) ∧ R h2
def OP_read (R : AH → Prop) : Prop := ∀ (h : AH), R h → ∃ (v : Int32) (h1 : AH) (h2 : AH), fX8_read 0 h = some (v, h1) ∧ fX9_read 262 h1 = some (v, h2) ∧ R h2
def OP_does (R : AH → Prop) : Prop := ∀ (a1 : Int32) (h : AH), R h → ∃ (v : Int32) (h1 : AH) (h2 : AH), fX8_does 0 a1 h = some (v, h1) ∧ fX9_does 262 a1 h1 = some (v, h2) ∧ R h2
def OP_rest (R : AH → Prop) : Prop := ∀ (a1 : Int32) (h : AH), R h → ∃ (v : Int32) (h1 : AH) (h2 : AH), fX8_rest 0 a1 h = some (v, h1) ∧ fX9_rest 262 a1 h1 = some (v, h2) ∧ R h2
def OP_moves (R : AH → Prop) : Prop := ∀ (a1 : Int32) (a2 : Int32) (h : AH), R h → ∃ (v : Int32) (h1 : AH) (h2 : AH), fX8_moves 0 a1 a2 h = some (v, h1) ∧ fX9_moves 262 a1 a2 h1 = some (v, h2) ∧ R h2
def OP_turns (R : AH → Prop) : Prop := ∀ (a1 : Int32) (a2 : Int32) (h : AH), R h → ∃ (v : Int32) (h1 : AH) (h2 : AH), fX8_turns 0 a1 a2 h = some (v, h1) ∧ fX9_turns 262 a1 a2 h1 = some (v, h2) ∧ R h2
def OP_sends (R : AH → Prop) : Prop := ∀ (a1 : Int32) (a2 : Int32) (h : AH), R h → ∃ (v : Int32) (h1 : AH) (h2 : AH), fX8_sends 0 a1 a2 h = some (v, h1) ∧ fX9_sends 262 a1 a2 h1 = some (v, h2) ∧ R h2
def OP_undo (R : AH → Prop) : Prop := ∀ (h : AH), R h → ∃ (v : Int32) (h1 : AH) (h2 : AH), fX8_undo 0 h = some (v, h1) ∧ fX9_undo 262 h1 = some (v, h2) ∧ R h2
def OP_of (R : AH → Prop) : Prop := ∀ (a1 : Int32) (a2 : Int32) (h : AH), R h → ∃ (v : Int32) (h1 : AH) (h2 : AH), fX8_of 0 a1 a2 h = some (v, h1) ∧ fX9_of 262 a1 a2 h1 = some (v, h2) ∧ R h2
def OP_about (R : AH → Prop) : Prop := ∀ (a1 : Int32) (a2 : Int32) (h : AH), R h → ∃ (v : Int32) (h1 : AH) (h2 : AH), fX8_about 0 a1 a2 h = some (v, h1) ∧ fX9_about 262 a1 a2 h1 = some (v, h2) ∧ R h2
def OP_pull (R : AH → Prop) : Prop := ∀ (a1 : Int32) (a2 : Int32) (h : AH), R h → ∃ (v : Int32) (h1 : AH) (h2 : AH), fX8_pull 0 a1 a2 h = some (v, h1) ∧ fX9_pull 262 a1 a2 h1 = some (v, h2) ∧ R h2
def OP_drawn (R : AH → Prop) : Prop := ∀ (a1 : Int32) (a2 : Int32) (h : AH), R h → ∃ (v : Int32) (h1 : AH) (h2 : AH), fX8_drawn 0 a1 a2 h = some (v, h1) ∧ fX9_drawn 262 a1 a2 h1 = some (v, h2) ∧ R h2
def OP_sees (R : AH → Prop) : Prop := ∀ (a1 : Int32) (a2 : Int32) (h : AH), R h → ∃ (v : Int32) (h1 : AH) (h2 : AH), fX8_sees 0 a1 a2 h = some (v, h1) ∧ fX9_sees 262 a1 a2 h1 = some (v, h2) ∧ R h2
def OP_unseen (R : AH → Prop) : Prop := ∀ (a1 : Int32) (h : AH), R h → ∃ (v : Int32) (h1 : AH) (h2 : AH), fX8_unseen 0 a1 h = some (v, h1) ∧ fX9_unseen 262 a1 h1 = some (v, h2) ∧ R h2
def OP_when (R : AH → Prop) : Prop := ∀ (a1 : Int32) (h : AH), R h → ∃ (v : Int32) (h1 : AH) (h2 : AH), fX8_when 0 a1 h = some (v, h1) ∧ fX9_when 262 a1 h1 = some (v, h2) ∧ R h2
def OP_enough (R : AH → Prop) : Prop := ∀ (a1 : Int32) (h : AH), R h → ∃ (v : Int32) (h1 : AH) (h2 : AH), fX8_enough 0 a1 h = some (v, h1) ∧ fX9_enough 262 a1 h1 = some (v, h2) ∧ R h2
def OP_place (R : AH → Prop) : Prop := ∀ (a1 : Int32) (a2 : Int32) (a3 : Int32) (h : AH), R h → ∃ (v : Int32) (h1 : AH) (h2 : AH), fX8_place 0 a1 a2 a3 h = some (v, h1) ∧ fX9_place 262 a1 a2 a3 h1 = some (v, h2) ∧ R h2
def OP_plan (R : AH → Prop) : Prop := ∀ (a1 : Int32) (a2 : Int32) (h : AH), R h → ∃ (v : Int32) (h1 : AH) (h2 : AH), fX8_plan 0 a1 a2 h = some (v, h1) ∧ fX9_plan 262 a1 a2 h1 = some (v, h2) ∧ R h2
def OP_guard (R : AH → Prop) : Prop := ∀ (a1 : Int32) (a2 : Int32) (h : AH), R h → ∃ (v : Int32) (h1 : AH) (h2 : AH), fX8_guard 0 a1 a2 h = some (v, h1) ∧ fX9_guard 262 a1 a2 h1 = some (v, h2) ∧ R h2
def OP_saw (R : AH → Prop) : Prop := ∀ (a1 : Int32) (a2 : Int32) (h : AH), R h → ∃ (v : Int32) (h1 : AH) (h2 : AH), fX8_saw 0 a1 a2 h = some (v, h1) ∧ fX9_saw 262 a1 a2 h1 = some (v, h2) ∧ R h2
def OP_where (R : AH → Prop) : Prop := ∀ (h : AH), R h → ∃ (v : Int32) (h1 : AH), fX8_where 0 h = some (v, h1) ∧ fX9_where 262 h1 = some v ∧ R h1
def OP_note (R : AH → Prop) : Prop := ∀ (a1 : Int32) (a2 : Int32) (a3 : Int32) (a4 : Int32) (a5 : Int32) (h : AH), R h → ∃ (v : Int32) (h1 : AH) (h2 : AH), fX8_note 0 a1 a2 a3 a4 a5 h = some (v, h1) ∧ fX9_note 262 a1 a2 a3 a4 a5 h1 = some (v, h2) ∧ R h2
def OP_mark (R : AH → Prop) : Prop := ∀ (a1 : Int32) (a2 : Int32) (a3 : Int32) (a4 : Int32) (h : AH), R h → ∃ (v : Int32) (h1 : AH) (h2 : AH), fX8_mark 0 a1 a2 a3 a4 h = some (v, h1) ∧ fX9_mark 262 a1 a2 a3 a4 h1 = some (v, h2) ∧ R h2
def OP_forget (R : AH → Prop) : Prop := ∀ (a1 : Int32) (h : AH), R h → ∃ (v : Int32) (h1 : AH) (h2 : AH), fX8_forget 0 a1 h = some (v, h1) ∧ fX9_forget 262 a1 h1 = some (v, h2) ∧ R h2
def OP_is (R : AH → Prop) : Prop := ∀ (a1 : Int32) (h : AH), R h → ∃ (v : Int32) (h1 : AH) (h2 : AH), fX8_is 0 a1 h = some (v, h1) ∧ fX9_is 262 a1 h1 = some (v, h2) ∧ R h2
def OP_look (R : AH → Prop) : Prop := ∀ (a1 : Int32) (h : AH), R h → ∃ (v : Int32) (h1 : AH) (h2 : AH), fX8_look 0 a1 h = some (v, h1) ∧ fX9_look 262 a1 h1 = some (v, h2) ∧ R h2
def OP_what (R : AH → Prop) : Prop := ∀ (a1 : Int32) (h : AH), R h → ∃ (v : Int32) (h1 : AH) (h2 : AH), fX8_what 0 a1 h = some (v, h1) ∧ fX9_what 262 a1 h1 = some (v, h2) ∧ R h2
def OP_tries (R : AH → Prop) : Prop := ∀ (a1 : Int32) (h : AH), R h → ∃ (v : Int32) (h1 : AH) (h2 : AH), fX8_tries 0 a1 h = some (v, h1) ∧ fX9_tries 262 a1 h1 = some (v, h2) ∧ R h2
def OP_game (R : AH → Prop) : Prop := ∀ (a1 : Int32) (a2 : Int32) (a3 : Int32) (h : AH), R h → ∃ (v : Int32) (h1 : AH) (h2 : AH), fX8_game 0 a1 a2 a3 h = some (v, h1) ∧ fX9_game 262 a1 a2 a3 h1 = some (v, h2) ∧ R h2
def OP_fails (R : AH → Prop) : Prop := ∀ (a1 : Int32) (a2 : Int32) (h : AH), R h → ∃ (v : Int32) (h1 : AH) (h2 : AH), fX8_fails 0 a1 a2 h = some (v, h1) ∧ fX9_fails 262 a1 a2 h1 = some (v, h2) ∧ R h2
def OP_years (R : AH → Prop) : Prop := ∀ (a1 : Int32) (a2 : Int32) (h : AH), R h → ∃ (v : Int32) (h1 : AH) (h2 : AH), fX8_years 0 a1 a2 h = some (v, h1) ∧ fX9_years 262 a1 a2 h1 = some (v, h2) ∧ R h2
def OP_part (R : AH → Prop) : Prop := ∀ (a1 : Int32) (h : AH), R h → ∃ (v : Int64) (h1 : AH) (h2 : AH), fX8_part 0 a1 h = some (v, h1) ∧ fX9_part 262 a1 h1 = some (v, h2) ∧ R h2
def OP_image (R : AH → Prop) : Prop := ∀ (a1 : Int32) (h : AH), R h → ∃ (v : Int32) (h1 : AH) (h2 : AH), fX8_image 0 a1 h = some (v, h1) ∧ fX9_image 262 a1 h1 = some (v, h2) ∧ R h2
def OP_from (R : AH → Prop) : Prop := ∀ (a1 : Int32) (h : AH), R h → ∃ (v : Int32) (h1 : AH) (h2 : AH), fX8_from 0 a1 h = some (v, h1) ∧ fX9_from 262 a1 h1 = some (v, h2) ∧ R h2
def OP_status (R : AH → Prop) : Prop := ∀ (a1 : Int32) (h : AH), R h → ∃ (v : Int32) (h1 : AH) (h2 : AH), fX8_status 0 a1 h = some (v, h1) ∧ fX9_status 262 a1 h1 = some (v, h2) ∧ R h2
def OP_count (R : AH → Prop) : Prop := ∀ (a1 : Int32) (h : AH), R h → ∃ (v : Int32) (h1 : AH) (h2 : AH), fX8_count 0 a1 h = some (v, h1) ∧ fX9_count 262 a1 h1 = some (v, h2) ∧ R h2
def OP_digest (R : AH → Prop) : Prop := ∀ (h : AH), R h → ∃ (v : Int64), fX8_digest 0 h = some v ∧ fX9_digest 262 h = some v ∧ R h
/-- at every call the class answers as the reference does, and the two worlds go on alike -/
def OPS (R : AH → Prop) : Prop := OP_land R ∧ OP_show R ∧ OP_watcher R ∧ OP_type R ∧ OP_clear R ∧ OP_read R ∧ OP_does R ∧ OP_rest R ∧ OP_moves R ∧ OP_turns R ∧ OP_sends R ∧ OP_undo R ∧ OP_of R ∧ OP_about R ∧ OP_pull R ∧ OP_drawn R ∧ OP_sees R ∧ OP_unseen R ∧ OP_when R ∧ OP_enough R ∧ OP_place R ∧ OP_plan R ∧ OP_guard R ∧ OP_saw R ∧ OP_where R ∧ OP_note R ∧ OP_mark R ∧ OP_forget R ∧ OP_is R ∧ OP_look R ∧ OP_what R ∧ OP_tries R ∧ OP_game R ∧ OP_fails R ∧ OP_years R ∧ OP_part R ∧ OP_image R ∧ OP_from R ∧ OP_status R ∧ OP_count R ∧ OP_digest R
