/-! what the class's throwing calls answer, in the form of a code and what is left in places that no object has (25: a long, 26: a double) -/
def wp_L_parse (w : Wd) (p1 : Int32) (Post : Int32 → Wd → Prop) : Prop :=
  wp_X8_parse w p1 (fun r1 w1 => ∀ y1 : Int64, y1 = r1.toInt64 → (Post 0 (sL w1 25 0 y1))) (fun ke1 w1 => ke1 = 0 ∧ (Post 1 w1))
def wp_L_size (w : Wd) (p1 : Int32) (Post : Int32 → Wd → Prop) : Prop :=
  wp_X8_size w p1 (fun r1 w1 => ∀ y1 : Int64, y1 = r1.toInt64 → (Post 0 (sL w1 25 0 y1))) (fun ke1 w1 => ke1 = 0 ∧ (Post 1 w1))
def wp_L_ladder (w : Wd) (p1 : Int32) (p2 : Int32) (Post : Int32 → Wd → Prop) : Prop :=
  wp_X8_ladder w p1 p2 (fun r1 w1 => ∀ y1 : Int64, y1 = r1.toInt64 → (Post 0 (sL w1 25 0 y1))) (fun ke1 w1 => (ke1 = 1 ∧ (Post 1 w1)) ∨ (ke1 = 0 ∧ (Post 2 w1)))
def wp_L_set (w : Wd) (p1 : Int32) (p2 : Int32) (Post : Int32 → Wd → Prop) : Prop :=
  wp_X8_set w p1 p2 (fun r1 w1 => ∀ y1 : Int64, y1 = r1.toInt64 → (Post 0 (sL w1 25 0 y1))) (fun ke1 w1 => (ke1 = 1 ∧ (Post 1 w1)) ∨ (ke1 = 0 ∧ (Post 2 w1)))
def wp_L_valueOf (w : Wd) (p1 : Int32) (p2 : Int32) (Post : Int32 → Wd → Prop) : Prop :=
  wp_X8_valueOf w p1 p2 (fun r1 w1 => ∀ y1 : Int64, y1 = r1.toInt64 → (Post 0 (sL w1 25 0 y1))) (fun ke1 w1 => (ke1 = 1 ∧ (Post 1 w1)) ∨ (ke1 = 0 ∧ (Post 2 w1)))
def wp_L_stepsOn (w : Wd) (p1 : Int32) (Post : Int32 → Wd → Prop) : Prop :=
  wp_X8_stepsOn w p1 (fun r1 w1 => ∀ y1 : Int64, y1 = r1.toInt64 → (Post 0 (sL w1 25 0 y1))) (fun ke1 w1 => ke1 = 1 ∧ (Post 1 w1))
def wp_L_longest (w : Wd) (p1 : Int32) (Post : Int32 → Wd → Prop) : Prop :=
  wp_X8_longest w p1 (fun r1 w1 => ∀ y1 : Int64, y1 = r1.toInt64 → (Post 0 (sL w1 25 0 y1))) (fun ke1 w1 => ke1 = 1 ∧ (Post 1 w1))
def wp_L_positions (w : Wd) (p1 : Int32) (Post : Int32 → Wd → Prop) : Prop :=
  wp_X8_positions w p1 (fun r1 w1 => ∀ y1 : Int64, y1 = r1.toInt64 → (Post 0 (sL w1 25 0 y1))) (fun ke1 w1 => ke1 = 1 ∧ (Post 1 w1))
def wp_L_meanValue (w : Wd) (p1 : Int32) (Post : Int32 → Wd → Prop) : Prop :=
  wp_X8_meanValue w p1 (fun r1 w1 => Post 0 (sD w1 26 0 r1)) (fun ke1 w1 => ke1 = 1 ∧ (Post 1 w1))
def wp_L_pass (w : Wd) (Post : Int32 → Wd → Prop) : Prop :=
  wp_X8_pass w (fun r1 w1 => ∀ y1 : Int64, y1 = r1.toInt64 → (Post 0 (sL w1 25 0 y1))) (fun ke1 w1 => ke1 = 2 ∧ (Post 1 w1))
def wp_L_play (w : Wd) (p1 : Int32) (Post : Int32 → Wd → Prop) : Prop :=
  wp_X8_play w p1 (fun r1 w1 => ∀ y1 : Int64, y1 = r1.toInt64 → (Post 0 (sL w1 25 0 y1))) (fun ke1 w1 => ke1 = 0 ∧ (Post 1 w1))
