/-! ===== the law: what each call owes, and the walk ===== -/
abbrev sx_I : Type := sx_C → sx_C → sx_C → sx_C → sx_C → sx_C → sx_C → sx_C → sx_C → sx_C → sx_C → sx_C → sx_C → sx_C → sx_C → sx_C → sx_C → sx_C → sx_C → sx_C → sx_C → sx_C → sx_C → Prop
def YL_law : sx_Y := (RL, cL_law, 7, some .boolean, "law")
abbrev L_Q : Option Value → sx_H → Prop := fun v _ => v = some (.int 1)

def LO_feed (N : Nat) (I : sx_I) : Prop := ∀ (uG uN uD uR uF uP uL uT uA uM uH xA xB xC xD xE xF xG xH xI xJ xK xL : sx_C) (v1 v2 v3 v4 v5 : Int32), I uG uN uD uR uF uP uL uT uA uM uH xA xB xC xD xE xF xG xH xI xJ xK xL → ∃ r1, f_X11_feed N v1 v2 v3 v4 v5 uG = some r1 ∧ ∃ r2, f_X12_feed N v1 v2 v3 v4 v5 xA xB = some r2 ∧ r1.1 = r2.1 ∧ I (r1.2) uN uD uR uF uP uL uT uA uM uH (r2.2.1) (r2.2.2) xC xD xE xF xG xH xI xJ xK xL
def LO_text (N : Nat) (I : sx_I) : Prop := ∀ (uG uN uD uR uF uP uL uT uA uM uH xA xB xC xD xE xF xG xH xI xJ xK xL : sx_C) (v1 : Int32), I uG uN uD uR uF uP uL uT uA uM uH xA xB xC xD xE xF xG xH xI xJ xK xL → ∃ r1, f_X11_text N v1 uG uN uD uR uL uH = some r1 ∧ ∃ r2, f_X12_text N v1 xA xB xC = some r2 ∧ r1.1 = r2.1 ∧ I (r1.2.1) (r1.2.2.1) (r1.2.2.2.1) (r1.2.2.2.2.1) uF uP (r1.2.2.2.2.2.1) uT uA uM (r1.2.2.2.2.2.2) (r2.2.1) (r2.2.2.1) (r2.2.2.2) xD xE xF xG xH xI xJ xK xL
def LO_fault (N : Nat) (I : sx_I) : Prop := ∀ (uG uN uD uR uF uP uL uT uA uM uH xA xB xC xD xE xF xG xH xI xJ xK xL : sx_C) (v1 : Int32), I uG uN uD uR uF uP uL uT uA uM uH xA xB xC xD xE xF xG xH xI xJ xK xL → ∃ r1, f_X11_fault uG v1 = some r1 ∧ ∃ r2, f_X12_fault xA v1 xB = some r2 ∧ r1 = r2.1 ∧ I uG uN uD uR uF uP uL uT uA uM uH xA (r2.2) xC xD xE xF xG xH xI xJ xK xL
def LO_line (N : Nat) (I : sx_I) : Prop := ∀ (uG uN uD uR uF uP uL uT uA uM uH xA xB xC xD xE xF xG xH xI xJ xK xL : sx_C) (v1 v2 : Int32), I uG uN uD uR uF uP uL uT uA uM uH xA xB xC xD xE xF xG xH xI xJ xK xL → ∃ r1, f_X11_line uG uN v1 v2 = some r1 ∧ ∃ r2, f_X12_line xA v1 v2 xB = some r2 ∧ f_X12_thrown r2.2 = some (if r1.1 = 0 then 0 else if r1.1 = 1 then 1 else 2) ∧ (r1.1 = 0 → r1.2 = r2.1) ∧ I uG uN uD uR uF uP uL uT uA uM uH xA (r2.2) xC xD xE xF xG xH xI xJ xK xL
def LO_place (N : Nat) (I : sx_I) : Prop := ∀ (uG uN uD uR uF uP uL uT uA uM uH xA xB xC xD xE xF xG xH xI xJ xK xL : sx_C) (v1 : Int32), I uG uN uD uR uF uP uL uT uA uM uH xA xB xC xD xE xF xG xH xI xJ xK xL → ∃ r1, f_X11_place N uG uN v1 = some r1 ∧ ∃ r2, f_X12_place N xA v1 xB xD = some r2 ∧ r1 = r2.1 ∧ I uG uN uD uR uF uP uL uT uA uM uH xA (r2.2.1) xC (r2.2.2) xE xF xG xH xI xJ xK xL
def LO_reaches (N : Nat) (I : sx_I) : Prop := ∀ (uG uN uD uR uF uP uL uT uA uM uH xA xB xC xD xE xF xG xH xI xJ xK xL : sx_C) (v1 v2 : Int32), I uG uN uD uR uF uP uL uT uA uM uH xA xB xC xD xE xF xG xH xI xJ xK xL → ∃ r1, f_X11_reaches N uG uN v1 v2 = some r1 ∧ ∃ r2, f_X12_reaches N xA v1 v2 xB xD = some r2 ∧ r1 = r2.1 ∧ I uG uN uD uR uF uP uL uT uA uM uH xA (r2.2.1) xC (r2.2.2) xE xF xG xH xI xJ xK xL
def LO_move (N : Nat) (I : sx_I) : Prop := ∀ (uG uN uD uR uF uP uL uT uA uM uH xA xB xC xD xE xF xG xH xI xJ xK xL : sx_C) (v1 : Int32), I uG uN uD uR uF uP uL uT uA uM uH xA xB xC xD xE xF xG xH xI xJ xK xL → ∃ r1, f_X11_move N uN v1 uG uH = some r1 ∧ ∃ r2, f_X12_move N v1 xA xB xD = some r2 ∧ r1.1 = r2.1 ∧ I (r1.2.1) uN uD uR uF uP uL uT uA uM (r1.2.2) (r2.2.1) (r2.2.2.1) xC (r2.2.2.2) xE xF xG xH xI xJ xK xL
def LO_pass (N : Nat) (I : sx_I) : Prop := ∀ (uG uN uD uR uF uP uL uT uA uM uH xA xB xC xD xE xF xG xH xI xJ xK xL : sx_C), I uG uN uD uR uF uP uL uT uA uM uH xA xB xC xD xE xF xG xH xI xJ xK xL → ∃ r1, f_X11_pass N uN uG uH = some r1 ∧ ∃ r2, f_X12_pass N xA xB xD = some r2 ∧ (sp_b r1.1) = (sp_b r2.1) ∧ I (r1.2.1) uN uD uR uF uP uL uT uA uM (r1.2.2) (r2.2.1) (r2.2.2.1) xC (r2.2.2.2) xE xF xG xH xI xJ xK xL
def LO_undo (N : Nat) (I : sx_I) : Prop := ∀ (uG uN uD uR uF uP uL uT uA uM uH xA xB xC xD xE xF xG xH xI xJ xK xL : sx_C), I uG uN uD uR uF uP uL uT uA uM uH xA xB xC xD xE xF xG xH xI xJ xK xL → ∃ r1, f_X11_undo uN uG uH = some r1 ∧ ∃ r2, f_X12_undo xA xB = some r2 ∧ r1.1 = r2.1 ∧ I (r1.2.1) uN uD uR uF uP uL uT uA uM (r1.2.2) (r2.2.1) (r2.2.2) xC xD xE xF xG xH xI xJ xK xL
def LO_written (N : Nat) (I : sx_I) : Prop := ∀ (uG uN uD uR uF uP uL uT uA uM uH xA xB xC xD xE xF xG xH xI xJ xK xL : sx_C) (v1 : Int32), I uG uN uD uR uF uP uL uT uA uM uH xA xB xC xD xE xF xG xH xI xJ xK xL → ∃ r1, f_X11_written uH v1 = some r1 ∧ ∃ r2, f_X12_written xA v1 xB = some r2 ∧ r1 = r2.1 ∧ I uG uN uD uR uF uP uL uT uA uM uH xA (r2.2) xC xD xE xF xG xH xI xJ xK xL
def LO_now (N : Nat) (I : sx_I) : Prop := ∀ (uG uN uD uR uF uP uL uT uA uM uH xA xB xC xD xE xF xG xH xI xJ xK xL : sx_C) (v1 : Int32), I uG uN uD uR uF uP uL uT uA uM uH xA xB xC xD xE xF xG xH xI xJ xK xL → ∃ r1, f_X11_now N uG uN uH v1 = some r1 ∧ ∃ r2, f_X12_now N xA v1 xB xD xE = some r2 ∧ r1 = r2.1 ∧ I uG uN uD uR uF uP uL uT uA uM uH xA (r2.2.1) xC (r2.2.2.1) (r2.2.2.2) xF xG xH xI xJ xK xL
def LO_pair (N : Nat) (I : sx_I) : Prop := ∀ (uG uN uD uR uF uP uL uT uA uM uH xA xB xC xD xE xF xG xH xI xJ xK xL : sx_C) (v1 : Int32), I uG uN uD uR uF uP uL uT uA uM uH xA xB xC xD xE xF xG xH xI xJ xK xL → ∃ r1, f_X11_pair N uG uN v1 uF uP = some r1 ∧ ∃ r2, f_X12_pair N xA v1 xB xD xE xF xG xH = some r2 ∧ r1.1 = r2.1 ∧ I uG uN uD uR (r1.2.1) (r1.2.2) uL uT uA uM uH xA (r2.2.1) xC (r2.2.2.1) (r2.2.2.2.1) (r2.2.2.2.2.1) (r2.2.2.2.2.2.1) (r2.2.2.2.2.2.2) xI xJ xK xL
def LO_outcome (N : Nat) (I : sx_I) : Prop := ∀ (uG uN uD uR uF uP uL uT uA uM uH xA xB xC xD xE xF xG xH xI xJ xK xL : sx_C), I uG uN uD uR uF uP uL uT uA uM uH xA xB xC xD xE xF xG xH xI xJ xK xL → ∃ r1, f_X11_outcome N uG uN uF = some r1 ∧ ∃ r2, f_X12_outcome N xA xB xD xE xF xG = some r2 ∧ r1.1 = r2.1 ∧ I uG uN uD uR (r1.2) uP uL uT uA uM uH xA (r2.2.1) xC (r2.2.2.1) (r2.2.2.2.1) (r2.2.2.2.2.1) (r2.2.2.2.2.2) xH xI xJ xK xL
def LO_wins (N : Nat) (I : sx_I) : Prop := ∀ (uG uN uD uR uF uP uL uT uA uM uH xA xB xC xD xE xF xG xH xI xJ xK xL : sx_C) (v1 v2 : Int32), I uG uN uD uR uF uP uL uT uA uM uH xA xB xC xD xE xF xG xH xI xJ xK xL → ∃ r1, f_X11_wins N uG uN v1 v2 uF = some r1 ∧ ∃ r2, f_X12_wins N xA v1 v2 xB xD xE xF xG = some r2 ∧ r1.1 = r2.1 ∧ I uG uN uD uR (r1.2) uP uL uT uA uM uH xA (r2.2.1) xC (r2.2.2.1) (r2.2.2.2.1) (r2.2.2.2.2.1) (r2.2.2.2.2.2) xH xI xJ xK xL
def LO_answer (N : Nat) (I : sx_I) : Prop := ∀ (uG uN uD uR uF uP uL uT uA uM uH xA xB xC xD xE xF xG xH xI xJ xK xL : sx_C) (v1 : Int32), I uG uN uD uR uF uP uL uT uA uM uH xA xB xC xD xE xF xG xH xI xJ xK xL → ∃ r1, f_X11_answer N uG uN v1 uF uP = some r1 ∧ ∃ r2, f_X12_answer N xA v1 xB xD xE xF xG xH = some r2 ∧ r1.1 = r2.1 ∧ I uG uN uD uR (r1.2.1) (r1.2.2) uL uT uA uM uH xA (r2.2.1) xC (r2.2.2.1) (r2.2.2.2.1) (r2.2.2.2.2.1) (r2.2.2.2.2.2.1) (r2.2.2.2.2.2.2) xI xJ xK xL
def LO_exchange (N : Nat) (I : sx_I) : Prop := ∀ (uG uN uD uR uF uP uL uT uA uM uH xA xB xC xD xE xF xG xH xI xJ xK xL : sx_C) (v1 : Int32), I uG uN uD uR uF uP uL uT uA uM uH xA xB xC xD xE xF xG xH xI xJ xK xL → ∃ r1, f_X11_exchange N uG uN v1 uF uP = some r1 ∧ ∃ r2, f_X12_exchange N xA v1 xB xD xE xF xG xH = some r2 ∧ r1.1 = r2.1 ∧ I uG uN uD uR (r1.2.1) (r1.2.2) uL uT uA uM uH xA (r2.2.1) xC (r2.2.2.1) (r2.2.2.2.1) (r2.2.2.2.2.1) (r2.2.2.2.2.2.1) (r2.2.2.2.2.2.2) xI xJ xK xL
def LO_played (N : Nat) (I : sx_I) : Prop := ∀ (uG uN uD uR uF uP uL uT uA uM uH xA xB xC xD xE xF xG xH xI xJ xK xL : sx_C) (v1 : Int32), I uG uN uD uR uF uP uL uT uA uM uH xA xB xC xD xE xF xG xH xI xJ xK xL → ∃ r1, f_X11_played N uG uN v1 uF = some r1 ∧ ∃ r2, f_X12_played N xA v1 xB xD xE xF xG xI = some r2 ∧ r1.1 = r2.1 ∧ I uG uN uD uR (r1.2) uP uL uT uA uM uH xA (r2.2.1) xC (r2.2.2.1) (r2.2.2.2.1) (r2.2.2.2.2.1) (r2.2.2.2.2.2.1) xH (r2.2.2.2.2.2.2) xJ xK xL
def LO_verified (N : Nat) (I : sx_I) : Prop := ∀ (uG uN uD uR uF uP uL uT uA uM uH xA xB xC xD xE xF xG xH xI xJ xK xL : sx_C) (v1 : Int32), I uG uN uD uR uF uP uL uT uA uM uH xA xB xC xD xE xF xG xH xI xJ xK xL → ∃ r1, f_X11_verified N uG uN v1 uF uP uM = some r1 ∧ ∃ r2, f_X12_verified N xA v1 xB xD xE xF xG xH xJ = some r2 ∧ r1.1 = r2.1 ∧ I uG uN uD uR (r1.2.1) (r1.2.2.1) uL uT uA (r1.2.2.2) uH xA (r2.2.1) xC (r2.2.2.1) (r2.2.2.2.1) (r2.2.2.2.2.1) (r2.2.2.2.2.2.1) (r2.2.2.2.2.2.2.1) xI (r2.2.2.2.2.2.2.2) xK xL
def LO_full (N : Nat) (I : sx_I) : Prop := ∀ (uG uN uD uR uF uP uL uT uA uM uH xA xB xC xD xE xF xG xH xI xJ xK xL : sx_C) (v1 : Int32), I uG uN uD uR uF uP uL uT uA uM uH xA xB xC xD xE xF xG xH xI xJ xK xL → ∃ r1, f_X11_full N uG uN v1 uF = some r1 ∧ ∃ r2, f_X12_full N xA v1 xB xD xK = some r2 ∧ r1.1 = r2.1 ∧ I uG uN uD uR (r1.2) uP uL uT uA uM uH xA (r2.2.1) xC (r2.2.2.1) xE xF xG xH xI xJ (r2.2.2.2) xL
def LO_positions (N : Nat) (I : sx_I) : Prop := ∀ (uG uN uD uR uF uP uL uT uA uM uH xA xB xC xD xE xF xG xH xI xJ xK xL : sx_C) (v1 : Int32), I uG uN uD uR uF uP uL uT uA uM uH xA xB xC xD xE xF xG xH xI xJ xK xL → ∃ r1, f_X11_positions N uG uN v1 uL = some r1 ∧ ∃ r2, f_X12_positions N xA v1 xB xD = some r2 ∧ r1.1 = r2.1 ∧ I uG uN uD uR uF uP (r1.2) uT uA uM uH xA (r2.2.1) xC (r2.2.2) xE xF xG xH xI xJ xK xL
def LO_wall (N : Nat) (I : sx_I) : Prop := ∀ (uG uN uD uR uF uP uL uT uA uM uH xA xB xC xD xE xF xG xH xI xJ xK xL : sx_C) (v1 : Int32), I uG uN uD uR uF uP uL uT uA uM uH xA xB xC xD xE xF xG xH xI xJ xK xL → ∃ r1, f_X11_wall N uG uN v1 uL = some r1 ∧ ∃ r2, f_X12_wall N xA xE v1 xB xD xF = some r2 ∧ r1.1 = r2.1 ∧ I uG uN uD uR uF uP (r1.2) uT uA uM uH xA (r2.2.1) xC (r2.2.2.1) xE (r2.2.2.2) xG xH xI xJ xK xL
def LO_road (N : Nat) (I : sx_I) : Prop := ∀ (uG uN uD uR uF uP uL uT uA uM uH xA xB xC xD xE xF xG xH xI xJ xK xL : sx_C) (v1 : Int32), I uG uN uD uR uF uP uL uT uA uM uH xA xB xC xD xE xF xG xH xI xJ xK xL → ∃ r1, f_X11_road N uG uN v1 uL = some r1 ∧ ∃ r2, f_X12_road N xA xE v1 xB xD xF = some r2 ∧ r1.1 = r2.1 ∧ I uG uN uD uR uF uP (r1.2) uT uA uM uH xA (r2.2.1) xC (r2.2.2.1) xE (r2.2.2.2) xG xH xI xJ xK xL
def LO_lucky (N : Nat) (I : sx_I) : Prop := ∀ (uG uN uD uR uF uP uL uT uA uM uH xA xB xC xD xE xF xG xH xI xJ xK xL : sx_C) (v1 : Int32), I uG uN uD uR uF uP uL uT uA uM uH xA xB xC xD xE xF xG xH xI xJ xK xL → ∃ r1, f_X11_lucky N uG uN v1 uL = some r1 ∧ ∃ r2, f_X12_lucky N xA v1 xB xD xE xF = some r2 ∧ r1.1 = r2.1 ∧ I uG uN uD uR uF uP (r1.2) uT uA uM uH xA (r2.2.1) xC (r2.2.2.1) (r2.2.2.2.1) (r2.2.2.2.2) xG xH xI xJ xK xL
def LO_luckyWith (N : Nat) (I : sx_I) : Prop := ∀ (uG uN uD uR uF uP uL uT uA uM uH xA xB xC xD xE xF xG xH xI xJ xK xL : sx_C) (v1 : Int32), I uG uN uD uR uF uP uL uT uA uM uH xA xB xC xD xE xF xG xH xI xJ xK xL → ∃ r1, f_X11_luckyWith N uG uN v1 uL = some r1 ∧ ∃ r2, f_X12_luckyWith N xA v1 xB xD xE xF = some r2 ∧ r1.1 = r2.1 ∧ I uG uN uD uR uF uP (r1.2) uT uA uM uH xA (r2.2.1) xC (r2.2.2.1) (r2.2.2.2.1) (r2.2.2.2.2) xG xH xI xJ xK xL
def LO_trees (N : Nat) (I : sx_I) : Prop := ∀ (uG uN uD uR uF uP uL uT uA uM uH xA xB xC xD xE xF xG xH xI xJ xK xL : sx_C), I uG uN uD uR uF uP uL uT uA uM uH xA xB xC xD xE xF xG xH xI xJ xK xL → ∃ r1, f_X11_trees N uG uN uT = some r1 ∧ ∃ r2, f_X12_trees N xA xB xD xE xF = some r2 ∧ r1.1 = r2.1 ∧ I uG uN uD uR uF uP uL (r1.2) uA uM uH xA (r2.2.1) xC (r2.2.2.1) (r2.2.2.2.1) (r2.2.2.2.2) xG xH xI xJ xK xL
def LO_treesWith (N : Nat) (I : sx_I) : Prop := ∀ (uG uN uD uR uF uP uL uT uA uM uH xA xB xC xD xE xF xG xH xI xJ xK xL : sx_C) (v1 : Int32), I uG uN uD uR uF uP uL uT uA uM uH xA xB xC xD xE xF xG xH xI xJ xK xL → ∃ r1, f_X11_treesWith N uG uN v1 uT = some r1 ∧ ∃ r2, f_X12_treesWith N xA v1 xB xD xE xF = some r2 ∧ r1.1 = r2.1 ∧ I uG uN uD uR uF uP uL (r1.2) uA uM uH xA (r2.2.1) xC (r2.2.2.1) (r2.2.2.2.1) (r2.2.2.2.2) xG xH xI xJ xK xL
def LO_idle (N : Nat) (I : sx_I) : Prop := ∀ (uG uN uD uR uF uP uL uT uA uM uH xA xB xC xD xE xF xG xH xI xJ xK xL : sx_C) (v1 : Int32), I uG uN uD uR uF uP uL uT uA uM uH xA xB xC xD xE xF xG xH xI xJ xK xL → ∃ r1, f_X11_idle N uG uN v1 uF = some r1 ∧ ∃ r2, f_X12_idle N xA v1 xB xD xE xF xG = some r2 ∧ r1.1 = r2.1 ∧ I uG uN uD uR (r1.2) uP uL uT uA uM uH xA (r2.2.1) xC (r2.2.2.1) (r2.2.2.2.1) (r2.2.2.2.2.1) (r2.2.2.2.2.2) xH xI xJ xK xL
def LO_ifLine (N : Nat) (I : sx_I) : Prop := ∀ (uG uN uD uR uF uP uL uT uA uM uH xA xB xC xD xE xF xG xH xI xJ xK xL : sx_C) (v1 v2 : Int32), I uG uN uD uR uF uP uL uT uA uM uH xA xB xC xD xE xF xG xH xI xJ xK xL → ∃ r1, f_X11_ifLine N uG uN v1 v2 uF = some r1 ∧ ∃ r2, f_X12_ifLine N xA v1 v2 xB xD xE xF xG = some r2 ∧ r1.1 = r2.1 ∧ I uG uN uD uR (r1.2) uP uL uT uA uM uH xA (r2.2.1) xC (r2.2.2.1) (r2.2.2.2.1) (r2.2.2.2.2.1) (r2.2.2.2.2.2) xH xI xJ xK xL
def LO_ifMore (N : Nat) (I : sx_I) : Prop := ∀ (uG uN uD uR uF uP uL uT uA uM uH xA xB xC xD xE xF xG xH xI xJ xK xL : sx_C) (v1 v2 : Int32), I uG uN uD uR uF uP uL uT uA uM uH xA xB xC xD xE xF xG xH xI xJ xK xL → ∃ r1, f_X11_ifMore N uG uN v1 v2 uF = some r1 ∧ ∃ r2, f_X12_ifMore N v1 v2 xA xB xD xE xF xG = some r2 ∧ r1.1 = r2.1 ∧ I uG uN uD uR (r1.2) uP uL uT uA uM uH (r2.2.1) (r2.2.2.1) xC (r2.2.2.2.1) (r2.2.2.2.2.1) (r2.2.2.2.2.2.1) (r2.2.2.2.2.2.2) xH xI xJ xK xL
def LO_ifEnds (N : Nat) (I : sx_I) : Prop := ∀ (uG uN uD uR uF uP uL uT uA uM uH xA xB xC xD xE xF xG xH xI xJ xK xL : sx_C) (v1 v2 : Int32), I uG uN uD uR uF uP uL uT uA uM uH xA xB xC xD xE xF xG xH xI xJ xK xL → ∃ r1, f_X11_ifEnds N uG uN v1 v2 uF = some r1 ∧ ∃ r2, f_X12_ifEnds N v1 v2 xA xB xD xE xF xG = some r2 ∧ r1.1 = r2.1 ∧ I uG uN uD uR (r1.2) uP uL uT uA uM uH (r2.2.1) (r2.2.2.1) xC (r2.2.2.2.1) (r2.2.2.2.2.1) (r2.2.2.2.2.2.1) (r2.2.2.2.2.2.2) xH xI xJ xK xL
def LO_lacks (N : Nat) (I : sx_I) : Prop := ∀ (uG uN uD uR uF uP uL uT uA uM uH xA xB xC xD xE xF xG xH xI xJ xK xL : sx_C), I uG uN uD uR uF uP uL uT uA uM uH xA xB xC xD xE xF xG xH xI xJ xK xL → ∃ r1, f_X11_lacks N uG uN uF = some r1 ∧ ∃ r2, f_X12_lacks N xA xB xD xE xF xG = some r2 ∧ r1.1 = r2.1 ∧ I uG uN uD uR (r1.2) uP uL uT uA uM uH (r2.2.1) (r2.2.2.1) xC (r2.2.2.2.1) (r2.2.2.2.2.1) (r2.2.2.2.2.2.1) (r2.2.2.2.2.2.2) xH xI xJ xK xL
def LO_cutAnswer (N : Nat) (I : sx_I) : Prop := ∀ (uG uN uD uR uF uP uL uT uA uM uH xA xB xC xD xE xF xG xH xI xJ xK xL : sx_C) (v1 : Int32), I uG uN uD uR uF uP uL uT uA uM uH xA xB xC xD xE xF xG xH xI xJ xK xL → ∃ r1, f_X11_cutAnswer N uG uN v1 uF = some r1 ∧ ∃ r2, f_X12_cutAnswer N xA v1 xB xD xE xF xG = some r2 ∧ r1.1 = r2.1 ∧ I uG uN uD uR (r1.2) uP uL uT uA uM uH xA (r2.2.1) xC (r2.2.2.1) (r2.2.2.2.1) (r2.2.2.2.2.1) (r2.2.2.2.2.2) xH xI xJ xK xL
def LO_verifiedForCut (N : Nat) (I : sx_I) : Prop := ∀ (uG uN uD uR uF uP uL uT uA uM uH xA xB xC xD xE xF xG xH xI xJ xK xL : sx_C) (v1 : Int32), I uG uN uD uR uF uP uL uT uA uM uH xA xB xC xD xE xF xG xH xI xJ xK xL → ∃ r1, f_X11_verifiedForCut N uG uN v1 uF uP uM = some r1 ∧ ∃ r2, f_X12_verifiedForCut N xA v1 xB xD xE xF xG xJ = some r2 ∧ r1.1 = r2.1 ∧ I uG uN uD uR (r1.2.1) (r1.2.2.1) uL uT uA (r1.2.2.2) uH xA (r2.2.1) xC (r2.2.2.1) (r2.2.2.2.1) (r2.2.2.2.2.1) (r2.2.2.2.2.2.1) xH xI (r2.2.2.2.2.2.2) xK xL
def LO_pivots (N : Nat) (I : sx_I) : Prop := ∀ (uG uN uD uR uF uP uL uT uA uM uH xA xB xC xD xE xF xG xH xI xJ xK xL : sx_C) (v1 : Int32), I uG uN uD uR uF uP uL uT uA uM uH xA xB xC xD xE xF xG xH xI xJ xK xL → ∃ r1, f_X11_pivots N uG uN v1 uL = some r1 ∧ ∃ r2, f_X12_pivots N xA v1 xB xD = some r2 ∧ r1.1 = r2.1 ∧ I uG uN uD uR uF uP (r1.2) uT uA uM uH xA (r2.2.1) xC (r2.2.2) xE xF xG xH xI xJ xK xL
def LO_needed (N : Nat) (I : sx_I) : Prop := ∀ (uG uN uD uR uF uP uL uT uA uM uH xA xB xC xD xE xF xG xH xI xJ xK xL : sx_C), I uG uN uD uR uF uP uL uT uA uM uH xA xB xC xD xE xF xG xH xI xJ xK xL → ∃ r1, f_X11_needed N uG uN uL = some r1 ∧ ∃ r2, f_X12_needed N xA xB xD = some r2 ∧ r1.1 = r2.1 ∧ I uG uN uD uR uF uP (r1.2) uT uA uM uH xA (r2.2.1) xC (r2.2.2) xE xF xG xH xI xJ xK xL
def LO_walls (N : Nat) (I : sx_I) : Prop := ∀ (uG uN uD uR uF uP uL uT uA uM uH xA xB xC xD xE xF xG xH xI xJ xK xL : sx_C) (v1 : Int32), I uG uN uD uR uF uP uL uT uA uM uH xA xB xC xD xE xF xG xH xI xJ xK xL → ∃ r1, f_X11_walls N uG uN v1 uL = some r1 ∧ ∃ r2, f_X12_walls N xA v1 xB xD xE xF = some r2 ∧ r1.1 = r2.1 ∧ I uG uN uD uR uF uP (r1.2) uT uA uM uH xA (r2.2.1) xC (r2.2.2.1) (r2.2.2.2.1) (r2.2.2.2.2) xG xH xI xJ xK xL
def LO_set (N : Nat) (I : sx_I) : Prop := ∀ (uG uN uD uR uF uP uL uT uA uM uH xA xB xC xD xE xF xG xH xI xJ xK xL : sx_C) (v1 : Int32), I uG uN uD uR uF uP uL uT uA uM uH xA xB xC xD xE xF xG xH xI xJ xK xL → ∃ r1, f_X11_set N uG uN v1 uF uP = some r1 ∧ ∃ r2, f_X12_set N xA v1 xB xD xE xF xG = some r2 ∧ r1.1 = r2.1 ∧ I uG uN uD uR (r1.2.1) (r1.2.2) uL uT uA uM uH xA (r2.2.1) xC (r2.2.2.1) (r2.2.2.2.1) (r2.2.2.2.2.1) (r2.2.2.2.2.2) xH xI xJ xK xL
def LO_alike (N : Nat) (I : sx_I) : Prop := ∀ (uG uN uD uR uF uP uL uT uA uM uH xA xB xC xD xE xF xG xH xI xJ xK xL : sx_C) (v1 v2 : Int32), I uG uN uD uR uF uP uL uT uA uM uH xA xB xC xD xE xF xG xH xI xJ xK xL → ∃ r1, f_X11_alike N uG uN v1 v2 uL = some r1 ∧ ∃ r2, f_X12_alike N xA v1 v2 xB xD = some r2 ∧ r1.1 = r2.1 ∧ I uG uN uD uR uF uP (r1.2) uT uA uM uH xA (r2.2.1) xC (r2.2.2) xE xF xG xH xI xJ xK xL
def LO_strong (N : Nat) (I : sx_I) : Prop := ∀ (uG uN uD uR uF uP uL uT uA uM uH xA xB xC xD xE xF xG xH xI xJ xK xL : sx_C) (v1 : Int32), I uG uN uD uR uF uP uL uT uA uM uH xA xB xC xD xE xF xG xH xI xJ xK xL → ∃ r1, f_X11_strong N uG uN v1 uL = some r1 ∧ ∃ r2, f_X12_strong N xA v1 xB xD = some r2 ∧ r1.1 = r2.1 ∧ I uG uN uD uR uF uP (r1.2) uT uA uM uH xA (r2.2.1) xC (r2.2.2) xE xF xG xH xI xJ xK xL
def LO_forests (N : Nat) (I : sx_I) : Prop := ∀ (uG uN uD uR uF uP uL uT uA uM uH xA xB xC xD xE xF xG xH xI xJ xK xL : sx_C) (v1 : Int32), I uG uN uD uR uF uP uL uT uA uM uH xA xB xC xD xE xF xG xH xI xJ xK xL → ∃ r1, f_X11_forests N uG uN v1 uF = some r1 ∧ ∃ r2, f_X12_forests N xA v1 xB xD xE xF xG = some r2 ∧ r1.1 = r2.1 ∧ I uG uN uD uR (r1.2) uP uL uT uA uM uH xA (r2.2.1) xC (r2.2.2.1) (r2.2.2.2.1) (r2.2.2.2.2.1) (r2.2.2.2.2.2) xH xI xJ xK xL
def LO_duel (N : Nat) (I : sx_I) : Prop := ∀ (uG uN uD uR uF uP uL uT uA uM uH xA xB xC xD xE xF xG xH xI xJ xK xL : sx_C) (v1 : Int32), I uG uN uD uR uF uP uL uT uA uM uH xA xB xC xD xE xF xG xH xI xJ xK xL → ∃ r1, f_X11_duel N uG uN v1 uF uP uA = some r1 ∧ ∃ r2, f_X12_duel N xA v1 xB xD xE xF xG xH xL = some r2 ∧ r1.1 = r2.1 ∧ I uG uN uD uR (r1.2.1) (r1.2.2.1) uL uT (r1.2.2.2) uM uH xA (r2.2.1) xC (r2.2.2.1) (r2.2.2.2.1) (r2.2.2.2.2.1) (r2.2.2.2.2.2.1) (r2.2.2.2.2.2.2.1) xI xJ xK (r2.2.2.2.2.2.2.2)
def LO_chance (N : Nat) (I : sx_I) : Prop := ∀ (uG uN uD uR uF uP uL uT uA uM uH xA xB xC xD xE xF xG xH xI xJ xK xL : sx_C) (v1 v2 : Int32), I uG uN uD uR uF uP uL uT uA uM uH xA xB xC xD xE xF xG xH xI xJ xK xL → ∃ r1, f_X11_chance N uG uN v1 v2 uA = some r1 ∧ ∃ r2, f_X12_chance N xA v1 v2 xB xD xL = some r2 ∧ r1.1 = r2.1 ∧ I uG uN uD uR uF uP uL uT (r1.2) uM uH xA (r2.2.1) xC (r2.2.2.1) xE xF xG xH xI xJ xK (r2.2.2.2)
def LO_count (N : Nat) (I : sx_I) : Prop := ∀ (uG uN uD uR uF uP uL uT uA uM uH xA xB xC xD xE xF xG xH xI xJ xK xL : sx_C) (v1 : Int32), I uG uN uD uR uF uP uL uT uA uM uH xA xB xC xD xE xF xG xH xI xJ xK xL → ∃ r1, f_X11_count uG uN v1 = some r1 ∧ ∃ r2, f_X12_count xA v1 xB = some r2 ∧ r1 = r2.1 ∧ I uG uN uD uR uF uP uL uT uA uM uH xA (r2.2) xC xD xE xF xG xH xI xJ xK xL
def LO (N : Nat) (I : sx_I) : Prop := LO_feed N I ∧ LO_text N I ∧ LO_fault N I ∧ LO_line N I ∧ LO_place N I ∧ LO_reaches N I ∧ LO_move N I ∧ LO_pass N I ∧ LO_undo N I ∧ LO_written N I ∧ LO_now N I ∧ LO_pair N I ∧ LO_outcome N I ∧ LO_wins N I ∧ LO_answer N I ∧ LO_exchange N I ∧ LO_played N I ∧ LO_verified N I ∧ LO_full N I ∧ LO_positions N I ∧ LO_wall N I ∧ LO_road N I ∧ LO_lucky N I ∧ LO_luckyWith N I ∧ LO_trees N I ∧ LO_treesWith N I ∧ LO_idle N I ∧ LO_ifLine N I ∧ LO_ifMore N I ∧ LO_ifEnds N I ∧ LO_lacks N I ∧ LO_cutAnswer N I ∧ LO_verifiedForCut N I ∧ LO_pivots N I ∧ LO_needed N I ∧ LO_walls N I ∧ LO_set N I ∧ LO_alike N I ∧ LO_strong N I ∧ LO_forests N I ∧ LO_duel N I ∧ LO_chance N I ∧ LO_count N I
section
variable {D : va_G} {b : Nat} {K : State → Heap → Prop} {Y : sx_Y} {R : Room} {Z : List Frame → Array Value → State → State → Prop} {pc : Nat} {lv : List (Nat × Value)} {st : List Value} {σ : sx_H} {k n : Nat} {bb L : Nat} {xs : Nat → Int32}
theorem at_scr (hX : ∀ (U : State) (H : Heap), K U H → va_X bb L xs U H) (hbb : bb < b) {x : Int32} (hin : vp_in x L) (hd : decode Y.2.1 pc = .ok (.iaload, 1)) (kk : sx_AtZ D b K Y R Z (pc + 1) lv (.int (xs x.toNatClampNeg) :: st) σ k n) : sx_AtZ D b K Y R Z pc lv (.int x :: .ref bb :: st) σ k n := fun _ _ _ _ _ _ _ _ _ _ _ _ C V S hl => va_sld C.1 C.2.1 (hX _ _ C.2.2.2.2.2.2.2.2.2.1) (Nat.lt_of_lt_of_le hbb C.2.2.2.2.2.2.2.2.2.2.1) (Nat.not_le.mpr hbb) S hin hd (kk _ _ _ _ _ _ _ _ _ _ _ _ C V S hl)
theorem at_scrl (hX : ∀ (U : State) (H : Heap), K U H → va_X bb L xs U H) (hbb : bb < b) (hd : decode Y.2.1 pc = .ok (.arraylength, 1)) (kk : sx_AtZ D b K Y R Z (pc + 1) lv (.int (Int32.ofNat L) :: st) σ k n) : sx_AtZ D b K Y R Z pc lv (.ref bb :: st) σ k n := fun _ _ _ _ _ _ _ _ _ _ _ _ C V S hl => va_slen C.1 C.2.1 (hX _ _ C.2.2.2.2.2.2.2.2.2.1) (Nat.lt_of_lt_of_le hbb C.2.2.2.2.2.2.2.2.2.2.1) (Nat.not_le.mpr hbb) S hd (kk _ _ _ _ _ _ _ _ _ _ _ _ C V S hl)
end

abbrev L_lv (b bb : Nat) (i : Int32) : List (Nat × Value) := [(0, .ref bb), (1, .ref (b + 0)), (2, .ref (b + 38)), (3, .ref (b + 55)), (4, .int i)]
/-- what stands behind a case -/
def L_next (D : va_G) (b : Nat) (K : State → Heap → Prop) (bb : Nat) (i : Int32) (I : sx_I) (k n : Nat) : Prop := ∀ (uG uN uD uR uF uP uL uT uA uM uH xA xB xC xD xE xF xG xH xI xJ xK xL uO : sx_C) (G : sx_H) (k1 n1 : Nat), I uG uN uD uR uF uP uL uT uA uM uH xA xB xC xD xE xF xG xH xI xJ xK xL → k1 ≤ k + 1 → n1 ≤ n + 14 → sx_At D b K YL_law room_1 L_Q 1406 (L_lv b bb i) [] (sx_hp b uG uN uD uR uF uP uL uT uA uM uH xA xB xC xD xE xF xG xH xI xJ xK xL uO G) k1 n1
section
variable {D : va_G} {b : Nat} {K : State → Heap → Prop} {sa : Nat → Nat} {bb L : Nat} {xs : Nat → Int32} {i : Int32} {N : Nat} {I : sx_I} {uG uN uD uR uF uP uL uT uA uM uH xA xB xC xD xE xF xG xH xI xJ xK xL uO : sx_C} {G : sx_H} {k n : Nat}

theorem lc_feed (hK : sx_Kk b K sa) (ho : LO_feed N I) (hI : I uG uN uD uR uF uP uL uT uA uM uH xA xB xC xD xE xF xG xH xI xJ xK xL) (hX : ∀ (U : State) (H : Heap), K U H → va_X bb L xs U H) (hbb : bb < b) (hin : ∀ j : Int32, 0 ≤ j → j ≤ 5 → vp_in (i + j) L) (hk : k + 1 ≤ room_1.cells) (hn : n + 14 ≤ room_1.slots) (hnx : L_next D b K bb i I k n) : sx_At D b K YL_law room_1 L_Q 228 (L_lv b bb i) [] (sx_hp b uG uN uD uR uF uP uL uT uA uM uH xA xB xC xD xE xF xG xH xI xJ xK xL uO G) k n := by
  obtain ⟨r1, h1, r2, h2, he, hI2⟩ := ho uG uN uD uR uF uP uL uT uA uM uH xA xB xC xD xE xF xG xH xI xJ xK xL (xs (i + 1).toNatClampNeg) (xs (i + 2).toNatClampNeg) (xs (i + 3).toNatClampNeg) (xs (i + 4).toNatClampNeg) (xs (i + 5).toNatClampNeg) hI
  have hk0 : k ≤ room_1.cells := Nat.le_of_succ_le hk
  have hn0 : n ≤ room_1.slots := Nat.le_trans (Nat.le_add_right _ _) hn
  refine at_aload_n 1 dL_law_228 rfl ?_
  refine at_aload_n 0 dL_law_229 rfl ?_
  refine at_iload 4 dL_law_230 rfl ?_
  refine at_iconst 1 dL_law_232 rfl ?_
  refine at_iadd dL_law_233 ?_
  refine at_scr hX hbb (hin 1 (by decide) (by decide)) dL_law_234 ?_
  refine at_aload_n 0 dL_law_235 rfl ?_
  refine at_iload 4 dL_law_236 rfl ?_
  refine at_iconst 2 dL_law_238 rfl ?_
  refine at_iadd dL_law_239 ?_
  refine at_scr hX hbb (hin 2 (by decide) (by decide)) dL_law_240 ?_
  refine at_aload_n 0 dL_law_241 rfl ?_
  refine at_iload 4 dL_law_242 rfl ?_
  refine at_iconst 3 dL_law_244 rfl ?_
  refine at_iadd dL_law_245 ?_
  refine at_scr hX hbb (hin 3 (by decide) (by decide)) dL_law_246 ?_
  refine at_aload_n 0 dL_law_247 rfl ?_
  refine at_iload 4 dL_law_248 rfl ?_
  refine at_iconst 4 dL_law_250 rfl ?_
  refine at_iadd dL_law_251 ?_
  refine at_scr hX hbb (hin 4 (by decide) (by decide)) dL_law_252 ?_
  refine at_aload_n 0 dL_law_253 rfl ?_
  refine at_iload 4 dL_law_254 rfl ?_
  refine at_iconst 5 dL_law_256 rfl ?_
  refine at_iadd dL_law_257 ?_
  refine at_scr hX hbb (hin 5 (by decide) (by decide)) dL_law_258 ?_
  refine at_callVi (st := []) hK mt_X11_feed ml_L_21 cl_X11 hg_0 (t_X11_feed hK h1) rfl rfl (Nat.le_of_ble_eq_true rfl) ⟨(Nat.le_of_ble_eq_true rfl), (Nat.le_of_ble_eq_true rfl)⟩ ⟨hk0, hn0⟩ dL_law_259 ?_
  refine at_aload_n 2 dL_law_262 rfl ?_
  refine at_aload_n 0 dL_law_263 rfl ?_
  refine at_iload 4 dL_law_264 rfl ?_
  refine at_iconst 1 dL_law_266 rfl ?_
  refine at_iadd dL_law_267 ?_
  refine at_scr hX hbb (hin 1 (by decide) (by decide)) dL_law_268 ?_
  refine at_aload_n 0 dL_law_269 rfl ?_
  refine at_iload 4 dL_law_270 rfl ?_
  refine at_iconst 2 dL_law_272 rfl ?_
  refine at_iadd dL_law_273 ?_
  refine at_scr hX hbb (hin 2 (by decide) (by decide)) dL_law_274 ?_
  refine at_aload_n 0 dL_law_275 rfl ?_
  refine at_iload 4 dL_law_276 rfl ?_
  refine at_iconst 3 dL_law_278 rfl ?_
  refine at_iadd dL_law_279 ?_
  refine at_scr hX hbb (hin 3 (by decide) (by decide)) dL_law_280 ?_
  refine at_aload_n 0 dL_law_281 rfl ?_
  refine at_iload 4 dL_law_282 rfl ?_
  refine at_iconst 4 dL_law_284 rfl ?_
  refine at_iadd dL_law_285 ?_
  refine at_scr hX hbb (hin 4 (by decide) (by decide)) dL_law_286 ?_
  refine at_aload_n 0 dL_law_287 rfl ?_
  refine at_iload 4 dL_law_288 rfl ?_
  refine at_iconst 5 dL_law_290 rfl ?_
  refine at_iadd dL_law_291 ?_
  refine at_scr hX hbb (hin 5 (by decide) (by decide)) dL_law_292 ?_
  refine at_callVi (st := [.int _]) hK mt_X12_feed ml_L_25 cl_X12 hg_38 (t_X12_feed hK h2) rfl rfl (Nat.le_of_ble_eq_true rfl) ⟨(Nat.le_of_ble_eq_true rfl), (Nat.le_of_ble_eq_true rfl)⟩ ⟨hk0, hn0⟩ dL_law_293 ?_
  exact at_icmp_eq 1406 dL_law_296 rfl (fun _ => hnx (r1.2) uN uD uR uF uP uL uT uA uM uH (r2.2.1) (r2.2.2) xC xD xE xF xG xH xI xJ xK xL uO G _ _ hI2 (Nat.le_succ _) (Nat.le_add_right _ _)) (fun c => absurd he c)
theorem lc_text (hK : sx_Kk b K sa) (ho : LO_text N I) (hI : I uG uN uD uR uF uP uL uT uA uM uH xA xB xC xD xE xF xG xH xI xJ xK xL) (hX : ∀ (U : State) (H : Heap), K U H → va_X bb L xs U H) (hbb : bb < b) (hin : ∀ j : Int32, 0 ≤ j → j ≤ 5 → vp_in (i + j) L) (hk : k + 1 ≤ room_1.cells) (hn : n + 14 ≤ room_1.slots) (hnx : L_next D b K bb i I k n) : sx_At D b K YL_law room_1 L_Q 301 (L_lv b bb i) [] (sx_hp b uG uN uD uR uF uP uL uT uA uM uH xA xB xC xD xE xF xG xH xI xJ xK xL uO G) k n := by
  obtain ⟨r1, h1, r2, h2, he, hI2⟩ := ho uG uN uD uR uF uP uL uT uA uM uH xA xB xC xD xE xF xG xH xI xJ xK xL (xs (i + 1).toNatClampNeg) hI
  have hk0 : k ≤ room_1.cells := Nat.le_of_succ_le hk
  have hn0 : n ≤ room_1.slots := Nat.le_trans (Nat.le_add_right _ _) hn
  refine at_aload_n 1 dL_law_301 rfl ?_
  refine at_aload_n 0 dL_law_302 rfl ?_
  refine at_iload 4 dL_law_303 rfl ?_
  refine at_iconst 1 dL_law_305 rfl ?_
  refine at_iadd dL_law_306 ?_
  refine at_scr hX hbb (hin 1 (by decide) (by decide)) dL_law_307 ?_
  refine at_callVi (st := []) hK mt_X11_text ml_L_26 cl_X11 hg_0 (t_X11_text hK h1) rfl rfl (Nat.le_of_ble_eq_true rfl) ⟨(Nat.le_of_ble_eq_true rfl), (Nat.le_of_ble_eq_true rfl)⟩ ⟨hk0, hn0⟩ dL_law_308 ?_
  refine at_aload_n 2 dL_law_311 rfl ?_
  refine at_aload_n 0 dL_law_312 rfl ?_
  refine at_iload 4 dL_law_313 rfl ?_
  refine at_iconst 1 dL_law_315 rfl ?_
  refine at_iadd dL_law_316 ?_
  refine at_scr hX hbb (hin 1 (by decide) (by decide)) dL_law_317 ?_
  refine at_callVi (st := [.int _]) hK mt_X12_text ml_L_30 cl_X12 hg_38 (t_X12_text hK h2) rfl rfl (Nat.le_of_ble_eq_true rfl) ⟨(Nat.le_of_ble_eq_true rfl), (Nat.le_of_ble_eq_true rfl)⟩ ⟨hk0, hn0⟩ dL_law_318 ?_
  exact at_icmp_eq 1406 dL_law_321 rfl (fun _ => hnx (r1.2.1) (r1.2.2.1) (r1.2.2.2.1) (r1.2.2.2.2.1) uF uP (r1.2.2.2.2.2.1) uT uA uM (r1.2.2.2.2.2.2) (r2.2.1) (r2.2.2.1) (r2.2.2.2) xD xE xF xG xH xI xJ xK xL uO G _ _ hI2 (Nat.le_succ _) (Nat.le_add_right _ _)) (fun c => absurd he c)
theorem lc_fault (hK : sx_Kk b K sa) (ho : LO_fault N I) (hI : I uG uN uD uR uF uP uL uT uA uM uH xA xB xC xD xE xF xG xH xI xJ xK xL) (hX : ∀ (U : State) (H : Heap), K U H → va_X bb L xs U H) (hbb : bb < b) (hin : ∀ j : Int32, 0 ≤ j → j ≤ 5 → vp_in (i + j) L) (hk : k + 1 ≤ room_1.cells) (hn : n + 14 ≤ room_1.slots) (hnx : L_next D b K bb i I k n) : sx_At D b K YL_law room_1 L_Q 326 (L_lv b bb i) [] (sx_hp b uG uN uD uR uF uP uL uT uA uM uH xA xB xC xD xE xF xG xH xI xJ xK xL uO G) k n := by
  obtain ⟨r1, h1, r2, h2, he, hI2⟩ := ho uG uN uD uR uF uP uL uT uA uM uH xA xB xC xD xE xF xG xH xI xJ xK xL (xs (i + 1).toNatClampNeg) hI
  have hk0 : k ≤ room_1.cells := Nat.le_of_succ_le hk
  have hn0 : n ≤ room_1.slots := Nat.le_trans (Nat.le_add_right _ _) hn
  refine at_aload_n 1 dL_law_326 rfl ?_
  refine at_aload_n 0 dL_law_327 rfl ?_
  refine at_iload 4 dL_law_328 rfl ?_
  refine at_iconst 1 dL_law_330 rfl ?_
  refine at_iadd dL_law_331 ?_
  refine at_scr hX hbb (hin 1 (by decide) (by decide)) dL_law_332 ?_
  refine at_callVi (st := []) hK mt_X11_fault ml_L_31 cl_X11 hg_0 (t_X11_fault hK h1) rfl rfl (Nat.le_of_ble_eq_true rfl) ⟨(Nat.le_of_ble_eq_true rfl), (Nat.le_of_ble_eq_true rfl)⟩ ⟨hk0, hn0⟩ dL_law_333 ?_
  refine at_aload_n 2 dL_law_336 rfl ?_
  refine at_aload_n 0 dL_law_337 rfl ?_
  refine at_iload 4 dL_law_338 rfl ?_
  refine at_iconst 1 dL_law_340 rfl ?_
  refine at_iadd dL_law_341 ?_
  refine at_scr hX hbb (hin 1 (by decide) (by decide)) dL_law_342 ?_
  refine at_callVi (st := [.int _]) hK mt_X12_fault ml_L_34 cl_X12 hg_38 (t_X12_fault hK h2) rfl rfl (Nat.le_of_ble_eq_true rfl) ⟨(Nat.le_of_ble_eq_true rfl), (Nat.le_of_ble_eq_true rfl)⟩ ⟨hk0, hn0⟩ dL_law_343 ?_
  exact at_icmp_eq 1406 dL_law_346 rfl (fun _ => hnx uG uN uD uR uF uP uL uT uA uM uH xA (r2.2) xC xD xE xF xG xH xI xJ xK xL uO G _ _ hI2 (Nat.le_succ _) (Nat.le_add_right _ _)) (fun c => absurd he c)
theorem lc_line (hK : sx_Kk b K sa) (hE : ∀ (U : State) (H : Heap), K U H → sx_KE b sa U H) (ho : LO_line N I) (hI : I uG uN uD uR uF uP uL uT uA uM uH xA xB xC xD xE xF xG xH xI xJ xK xL) (hX : ∀ (U : State) (H : Heap), K U H → va_X bb L xs U H) (hbb : bb < b) (hin : ∀ j : Int32, 0 ≤ j → j ≤ 5 → vp_in (i + j) L) (hk : k + 1 ≤ room_1.cells) (hn : n + 14 ≤ room_1.slots) (hnx : L_next D b K bb i I k n) : sx_At D b K YL_law room_1 L_Q 351 (L_lv b bb i) [] (sx_hp b uG uN uD uR uF uP uL uT uA uM uH xA xB xC xD xE xF xG xH xI xJ xK xL uO G) k n := by
  obtain ⟨r1, h1, r2, h2, h3, he, hI2⟩ := ho uG uN uD uR uF uP uL uT uA uM uH xA xB xC xD xE xF xG xH xI xJ xK xL (xs (i + 1).toNatClampNeg) (xs (i + 2).toNatClampNeg) hI
  have hk0 : k ≤ room_1.cells := Nat.le_of_succ_le hk
  have hn0 : n + 6 ≤ room_1.slots := Nat.le_trans (Nat.add_le_add_left (by decide) n) hn
  have hl1 : f_L_line uG uN (xs (i + 1).toNatClampNeg) (xs (i + 2).toNatClampNeg) uO = some (if r1.1 = 0 then (0, sm uO 0 0 r1.2.toInt64) else if r1.1 = 1 then (1, uO) else (2, uO)) := by rw [f_L_line, h1]; rfl
  refine at_aload_n 1 dL_law_351 rfl ?_
  refine at_aload_n 0 dL_law_352 rfl ?_
  refine at_iload 4 dL_law_353 rfl ?_
  refine at_iconst 1 dL_law_355 rfl ?_
  refine at_iadd dL_law_356 ?_
  refine at_scr hX hbb (hin 1 (by decide) (by decide)) dL_law_357 ?_
  refine at_aload_n 0 dL_law_358 rfl ?_
  refine at_iload 4 dL_law_359 rfl ?_
  refine at_iconst 2 dL_law_361 rfl ?_
  refine at_iadd dL_law_362 ?_
  refine at_scr hX hbb (hin 2 (by decide) (by decide)) dL_law_363 ?_
  refine at_aload_n 3 dL_law_364 rfl ?_
  refine at_callSW (st := []) hK.1 (sx_in (List.mem_of_getElem? (i := 1382) (by decide +kernel)) rfl) iz_L ⟨by decide +kernel, by decide +kernel⟩ (np := 4) (by decide +kernel) (sx_in (List.mem_of_getElem? (i := 1381) (by decide +kernel)) rfl) (sx_in (List.mem_of_getElem? (i := 1380) (by decide +kernel)) rfl) (t_L_line hK hE hl1) rfl rfl (Nat.le_of_ble_eq_true rfl) ⟨(Nat.le_of_ble_eq_true rfl), (Nat.le_of_ble_eq_true rfl)⟩ ⟨hk, hn0⟩ dL_law_365 (fun v σ1 hv => ?_)
  obtain ⟨rfl, G1, rfl⟩ := hv
  generalize hu1 : (if r1.1 = 0 then ((0 : Int32), sm uO 0 0 r1.2.toInt64) else if r1.1 = 1 then (1, uO) else (2, uO)) = u1
  refine at_istore _ dL_law_368 (Nat.le_of_ble_eq_true rfl) rfl ?_
  refine at_aload_n 2 dL_law_370 rfl ?_
  refine at_aload_n 0 dL_law_371 rfl ?_
  refine at_iload 4 dL_law_372 rfl ?_
  refine at_iconst 1 dL_law_374 rfl ?_
  refine at_iadd dL_law_375 ?_
  refine at_scr hX hbb (hin 1 (by decide) (by decide)) dL_law_376 ?_
  refine at_aload_n 0 dL_law_377 rfl ?_
  refine at_iload 4 dL_law_378 rfl ?_
  refine at_iconst 2 dL_law_380 rfl ?_
  refine at_iadd dL_law_381 ?_
  refine at_scr hX hbb (hin 2 (by decide) (by decide)) dL_law_382 ?_
  refine at_callVi (st := []) hK mt_X12_line ml_L_40 cl_X12 hg_38 (t_X12_line hK h2) rfl rfl (Nat.le_of_ble_eq_true rfl) ⟨(Nat.le_of_ble_eq_true rfl), (Nat.le_of_ble_eq_true rfl)⟩ ⟨hk, hn0⟩ dL_law_383 ?_
  refine at_istore _ dL_law_386 (Nat.le_of_ble_eq_true rfl) rfl ?_
  refine at_aload_n 2 dL_law_388 rfl ?_
  refine at_callVi (st := []) hK mt_X12_thrown ml_L_41 cl_X12 hg_38 (t_X12_thrown hK h3) rfl rfl (Nat.le_of_ble_eq_true rfl) ⟨(Nat.le_of_ble_eq_true rfl), (Nat.le_of_ble_eq_true rfl)⟩ ⟨hk, hn0⟩ dL_law_389 ?_
  refine at_iload 5 dL_law_392 rfl ?_
  refine at_icmp_eq 399 dL_law_394 rfl (fun _ => ?_) (fun c => absurd (by rw [← hu1]; by_cases c0 : r1.1 = 0 <;> by_cases c1 : r1.1 = 1 <;> simp [c0, c1]) c)
  refine at_iload 5 dL_law_399 rfl ?_
  refine at_if_ne 416 dL_law_401 rfl (fun _ => ?_) (fun c => ?_)
  · refine at_goto 1406 dL_law_416 rfl ?_
    refine at_sub [0, 1, 2, 3, 4] (L_lv b bb i) rfl ?_
    exact hnx uG uN uD uR uF uP uL uT uA uM uH xA (r2.2) xC xD xE xF xG xH xI xJ xK xL _ G1 _ _ hI2 (Nat.le_refl _) (Nat.add_le_add_left (by decide) n)
  · have c0 : r1.1 = 0 := by
      by_cases c0 : r1.1 = 0
      · exact c0
      · exfalso; rw [← hu1] at c; by_cases c1 : r1.1 = 1
        · rw [if_neg c0, if_pos c1] at c; exact absurd (show (1 : Int32) = 0 from c) (by decide)
        · rw [if_neg c0, if_neg c1] at c; exact absurd (show (2 : Int32) = 0 from c) (by decide)
    have hu2 : u1 = ((0 : Int32), sm uO 0 0 r1.2.toInt64) := by rw [← hu1, if_pos c0]
    subst hu2
    refine at_aload_n 3 dL_law_404 rfl ?_
    refine at_iconst 0 dL_law_405 rfl ?_
    refine at_lald hg_55 (v := r1.2.toInt64) rfl dL_law_406 ?_
    refine at_iload 6 dL_law_407 rfl ?_
    refine at_i2l dL_law_409 ?_
    refine at_lcmp dL_law_410 ?_
    refine at_if_eq 416 dL_law_411 rfl (fun _ => ?_) (fun c => absurd (by rw [he c0]; simp [lg_cmp]) c)
    refine at_goto 1406 dL_law_416 rfl ?_
    refine at_sub [0, 1, 2, 3, 4] (L_lv b bb i) rfl ?_
    exact hnx uG uN uD uR uF uP uL uT uA uM uH xA (r2.2) xC xD xE xF xG xH xI xJ xK xL _ G1 _ _ hI2 (Nat.le_refl _) (Nat.add_le_add_left (by decide) n)
theorem lc_place (hK : sx_Kk b K sa) (ho : LO_place N I) (hI : I uG uN uD uR uF uP uL uT uA uM uH xA xB xC xD xE xF xG xH xI xJ xK xL) (hX : ∀ (U : State) (H : Heap), K U H → va_X bb L xs U H) (hbb : bb < b) (hin : ∀ j : Int32, 0 ≤ j → j ≤ 5 → vp_in (i + j) L) (hk : k + 1 ≤ room_1.cells) (hn : n + 14 ≤ room_1.slots) (hnx : L_next D b K bb i I k n) : sx_At D b K YL_law room_1 L_Q 419 (L_lv b bb i) [] (sx_hp b uG uN uD uR uF uP uL uT uA uM uH xA xB xC xD xE xF xG xH xI xJ xK xL uO G) k n := by
  obtain ⟨r1, h1, r2, h2, he, hI2⟩ := ho uG uN uD uR uF uP uL uT uA uM uH xA xB xC xD xE xF xG xH xI xJ xK xL (xs (i + 1).toNatClampNeg) hI
  have hk0 : k ≤ room_1.cells := Nat.le_of_succ_le hk
  have hn0 : n ≤ room_1.slots := Nat.le_trans (Nat.le_add_right _ _) hn
  refine at_aload_n 1 dL_law_419 rfl ?_
  refine at_aload_n 0 dL_law_420 rfl ?_
  refine at_iload 4 dL_law_421 rfl ?_
  refine at_iconst 1 dL_law_423 rfl ?_
  refine at_iadd dL_law_424 ?_
  refine at_scr hX hbb (hin 1 (by decide) (by decide)) dL_law_425 ?_
  refine at_callVi (st := []) hK mt_X11_place ml_L_45 cl_X11 hg_0 (t_X11_place hK h1) rfl rfl (Nat.le_of_ble_eq_true rfl) ⟨(Nat.le_of_ble_eq_true rfl), (Nat.le_of_ble_eq_true rfl)⟩ ⟨hk0, hn0⟩ dL_law_426 ?_
  refine at_aload_n 2 dL_law_429 rfl ?_
  refine at_aload_n 0 dL_law_430 rfl ?_
  refine at_iload 4 dL_law_431 rfl ?_
  refine at_iconst 1 dL_law_433 rfl ?_
  refine at_iadd dL_law_434 ?_
  refine at_scr hX hbb (hin 1 (by decide) (by decide)) dL_law_435 ?_
  refine at_callVi (st := [.int _]) hK mt_X12_place ml_L_48 cl_X12 hg_38 (t_X12_place hK h2) rfl rfl (Nat.le_of_ble_eq_true rfl) ⟨(Nat.le_of_ble_eq_true rfl), (Nat.le_of_ble_eq_true rfl)⟩ ⟨hk0, hn0⟩ dL_law_436 ?_
  exact at_icmp_eq 1406 dL_law_439 rfl (fun _ => hnx uG uN uD uR uF uP uL uT uA uM uH xA (r2.2.1) xC (r2.2.2) xE xF xG xH xI xJ xK xL uO G _ _ hI2 (Nat.le_succ _) (Nat.le_add_right _ _)) (fun c => absurd he c)
theorem lc_reaches (hK : sx_Kk b K sa) (ho : LO_reaches N I) (hI : I uG uN uD uR uF uP uL uT uA uM uH xA xB xC xD xE xF xG xH xI xJ xK xL) (hX : ∀ (U : State) (H : Heap), K U H → va_X bb L xs U H) (hbb : bb < b) (hin : ∀ j : Int32, 0 ≤ j → j ≤ 5 → vp_in (i + j) L) (hk : k + 1 ≤ room_1.cells) (hn : n + 14 ≤ room_1.slots) (hnx : L_next D b K bb i I k n) : sx_At D b K YL_law room_1 L_Q 444 (L_lv b bb i) [] (sx_hp b uG uN uD uR uF uP uL uT uA uM uH xA xB xC xD xE xF xG xH xI xJ xK xL uO G) k n := by
  obtain ⟨r1, h1, r2, h2, he, hI2⟩ := ho uG uN uD uR uF uP uL uT uA uM uH xA xB xC xD xE xF xG xH xI xJ xK xL (xs (i + 1).toNatClampNeg) (xs (i + 2).toNatClampNeg) hI
  have hk0 : k ≤ room_1.cells := Nat.le_of_succ_le hk
  have hn0 : n ≤ room_1.slots := Nat.le_trans (Nat.le_add_right _ _) hn
  refine at_aload_n 1 dL_law_444 rfl ?_
  refine at_aload_n 0 dL_law_445 rfl ?_
  refine at_iload 4 dL_law_446 rfl ?_
  refine at_iconst 1 dL_law_448 rfl ?_
  refine at_iadd dL_law_449 ?_
  refine at_scr hX hbb (hin 1 (by decide) (by decide)) dL_law_450 ?_
  refine at_aload_n 0 dL_law_451 rfl ?_
  refine at_iload 4 dL_law_452 rfl ?_
  refine at_iconst 2 dL_law_454 rfl ?_
  refine at_iadd dL_law_455 ?_
  refine at_scr hX hbb (hin 2 (by decide) (by decide)) dL_law_456 ?_
  refine at_callVi (st := []) hK mt_X11_reaches ml_L_49 cl_X11 hg_0 (t_X11_reaches hK h1) rfl rfl (Nat.le_of_ble_eq_true rfl) ⟨(Nat.le_of_ble_eq_true rfl), (Nat.le_of_ble_eq_true rfl)⟩ ⟨hk0, hn0⟩ dL_law_457 ?_
  refine at_aload_n 2 dL_law_460 rfl ?_
  refine at_aload_n 0 dL_law_461 rfl ?_
  refine at_iload 4 dL_law_462 rfl ?_
  refine at_iconst 1 dL_law_464 rfl ?_
  refine at_iadd dL_law_465 ?_
  refine at_scr hX hbb (hin 1 (by decide) (by decide)) dL_law_466 ?_
  refine at_aload_n 0 dL_law_467 rfl ?_
  refine at_iload 4 dL_law_468 rfl ?_
  refine at_iconst 2 dL_law_470 rfl ?_
  refine at_iadd dL_law_471 ?_
  refine at_scr hX hbb (hin 2 (by decide) (by decide)) dL_law_472 ?_
  refine at_callVi (st := [.int _]) hK mt_X12_reaches ml_L_52 cl_X12 hg_38 (t_X12_reaches hK h2) rfl rfl (Nat.le_of_ble_eq_true rfl) ⟨(Nat.le_of_ble_eq_true rfl), (Nat.le_of_ble_eq_true rfl)⟩ ⟨hk0, hn0⟩ dL_law_473 ?_
  exact at_icmp_eq 1406 dL_law_476 rfl (fun _ => hnx uG uN uD uR uF uP uL uT uA uM uH xA (r2.2.1) xC (r2.2.2) xE xF xG xH xI xJ xK xL uO G _ _ hI2 (Nat.le_succ _) (Nat.le_add_right _ _)) (fun c => absurd he c)
theorem lc_move (hK : sx_Kk b K sa) (ho : LO_move N I) (hI : I uG uN uD uR uF uP uL uT uA uM uH xA xB xC xD xE xF xG xH xI xJ xK xL) (hX : ∀ (U : State) (H : Heap), K U H → va_X bb L xs U H) (hbb : bb < b) (hin : ∀ j : Int32, 0 ≤ j → j ≤ 5 → vp_in (i + j) L) (hk : k + 1 ≤ room_1.cells) (hn : n + 14 ≤ room_1.slots) (hnx : L_next D b K bb i I k n) : sx_At D b K YL_law room_1 L_Q 481 (L_lv b bb i) [] (sx_hp b uG uN uD uR uF uP uL uT uA uM uH xA xB xC xD xE xF xG xH xI xJ xK xL uO G) k n := by
  obtain ⟨r1, h1, r2, h2, he, hI2⟩ := ho uG uN uD uR uF uP uL uT uA uM uH xA xB xC xD xE xF xG xH xI xJ xK xL (xs (i + 1).toNatClampNeg) hI
  have hk0 : k ≤ room_1.cells := Nat.le_of_succ_le hk
  have hn0 : n ≤ room_1.slots := Nat.le_trans (Nat.le_add_right _ _) hn
  refine at_aload_n 1 dL_law_481 rfl ?_
  refine at_aload_n 0 dL_law_482 rfl ?_
  refine at_iload 4 dL_law_483 rfl ?_
  refine at_iconst 1 dL_law_485 rfl ?_
  refine at_iadd dL_law_486 ?_
  refine at_scr hX hbb (hin 1 (by decide) (by decide)) dL_law_487 ?_
  refine at_callVi (st := []) hK mt_X11_move ml_L_53 cl_X11 hg_0 (t_X11_move hK h1) rfl rfl (Nat.le_of_ble_eq_true rfl) ⟨(Nat.le_of_ble_eq_true rfl), (Nat.le_of_ble_eq_true rfl)⟩ ⟨hk0, hn0⟩ dL_law_488 ?_
  refine at_aload_n 2 dL_law_491 rfl ?_
  refine at_aload_n 0 dL_law_492 rfl ?_
  refine at_iload 4 dL_law_493 rfl ?_
  refine at_iconst 1 dL_law_495 rfl ?_
  refine at_iadd dL_law_496 ?_
  refine at_scr hX hbb (hin 1 (by decide) (by decide)) dL_law_497 ?_
  refine at_callVi (st := [.int _]) hK mt_X12_move ml_L_56 cl_X12 hg_38 (t_X12_move hK h2) rfl rfl (Nat.le_of_ble_eq_true rfl) ⟨(Nat.le_of_ble_eq_true rfl), (Nat.le_of_ble_eq_true rfl)⟩ ⟨hk0, hn0⟩ dL_law_498 ?_
  exact at_icmp_eq 1406 dL_law_501 rfl (fun _ => hnx (r1.2.1) uN uD uR uF uP uL uT uA uM (r1.2.2) (r2.2.1) (r2.2.2.1) xC (r2.2.2.2) xE xF xG xH xI xJ xK xL uO G _ _ hI2 (Nat.le_succ _) (Nat.le_add_right _ _)) (fun c => absurd he c)
theorem lc_pass (hK : sx_Kk b K sa) (ho : LO_pass N I) (hI : I uG uN uD uR uF uP uL uT uA uM uH xA xB xC xD xE xF xG xH xI xJ xK xL) (hX : ∀ (U : State) (H : Heap), K U H → va_X bb L xs U H) (hbb : bb < b) (hin : ∀ j : Int32, 0 ≤ j → j ≤ 5 → vp_in (i + j) L) (hk : k + 1 ≤ room_1.cells) (hn : n + 14 ≤ room_1.slots) (hnx : L_next D b K bb i I k n) : sx_At D b K YL_law room_1 L_Q 506 (L_lv b bb i) [] (sx_hp b uG uN uD uR uF uP uL uT uA uM uH xA xB xC xD xE xF xG xH xI xJ xK xL uO G) k n := by
  obtain ⟨r1, h1, r2, h2, he, hI2⟩ := ho uG uN uD uR uF uP uL uT uA uM uH xA xB xC xD xE xF xG xH xI xJ xK xL  hI
  have hk0 : k ≤ room_1.cells := Nat.le_of_succ_le hk
  have hn0 : n ≤ room_1.slots := Nat.le_trans (Nat.le_add_right _ _) hn
  refine at_aload_n 1 dL_law_506 rfl ?_
  refine at_callVi (st := []) hK mt_X11_pass ml_L_57 cl_X11 hg_0 (t_X11_pass hK h1) rfl rfl (Nat.le_of_ble_eq_true rfl) ⟨(Nat.le_of_ble_eq_true rfl), (Nat.le_of_ble_eq_true rfl)⟩ ⟨hk0, hn0⟩ dL_law_507 ?_
  refine at_aload_n 2 dL_law_510 rfl ?_
  refine at_callVi (st := [.int _]) hK mt_X12_pass ml_L_61 cl_X12 hg_38 (t_X12_pass hK h2) rfl rfl (Nat.le_of_ble_eq_true rfl) ⟨(Nat.le_of_ble_eq_true rfl), (Nat.le_of_ble_eq_true rfl)⟩ ⟨hk0, hn0⟩ dL_law_511 ?_
  exact at_icmp_eq 1406 dL_law_514 rfl (fun _ => hnx (r1.2.1) uN uD uR uF uP uL uT uA uM (r1.2.2) (r2.2.1) (r2.2.2.1) xC (r2.2.2.2) xE xF xG xH xI xJ xK xL uO G _ _ hI2 (Nat.le_succ _) (Nat.le_add_right _ _)) (fun c => absurd he c)
theorem lc_undo (hK : sx_Kk b K sa) (ho : LO_undo N I) (hI : I uG uN uD uR uF uP uL uT uA uM uH xA xB xC xD xE xF xG xH xI xJ xK xL) (hX : ∀ (U : State) (H : Heap), K U H → va_X bb L xs U H) (hbb : bb < b) (hin : ∀ j : Int32, 0 ≤ j → j ≤ 5 → vp_in (i + j) L) (hk : k + 1 ≤ room_1.cells) (hn : n + 14 ≤ room_1.slots) (hnx : L_next D b K bb i I k n) : sx_At D b K YL_law room_1 L_Q 519 (L_lv b bb i) [] (sx_hp b uG uN uD uR uF uP uL uT uA uM uH xA xB xC xD xE xF xG xH xI xJ xK xL uO G) k n := by
  obtain ⟨r1, h1, r2, h2, he, hI2⟩ := ho uG uN uD uR uF uP uL uT uA uM uH xA xB xC xD xE xF xG xH xI xJ xK xL  hI
  have hk0 : k ≤ room_1.cells := Nat.le_of_succ_le hk
  have hn0 : n ≤ room_1.slots := Nat.le_trans (Nat.le_add_right _ _) hn
  refine at_aload_n 1 dL_law_519 rfl ?_
  refine at_callVi (st := []) hK mt_X11_undo ml_L_62 cl_X11 hg_0 (t_X11_undo hK h1) rfl rfl (Nat.le_of_ble_eq_true rfl) ⟨(Nat.le_of_ble_eq_true rfl), (Nat.le_of_ble_eq_true rfl)⟩ ⟨hk0, hn0⟩ dL_law_520 ?_
  refine at_aload_n 2 dL_law_523 rfl ?_
  refine at_callVi (st := [.int _]) hK mt_X12_undo ml_L_65 cl_X12 hg_38 (t_X12_undo hK h2) rfl rfl (Nat.le_of_ble_eq_true rfl) ⟨(Nat.le_of_ble_eq_true rfl), (Nat.le_of_ble_eq_true rfl)⟩ ⟨hk0, hn0⟩ dL_law_524 ?_
  exact at_icmp_eq 1406 dL_law_527 rfl (fun _ => hnx (r1.2.1) uN uD uR uF uP uL uT uA uM (r1.2.2) (r2.2.1) (r2.2.2) xC xD xE xF xG xH xI xJ xK xL uO G _ _ hI2 (Nat.le_succ _) (Nat.le_add_right _ _)) (fun c => absurd he c)
theorem lc_written (hK : sx_Kk b K sa) (ho : LO_written N I) (hI : I uG uN uD uR uF uP uL uT uA uM uH xA xB xC xD xE xF xG xH xI xJ xK xL) (hX : ∀ (U : State) (H : Heap), K U H → va_X bb L xs U H) (hbb : bb < b) (hin : ∀ j : Int32, 0 ≤ j → j ≤ 5 → vp_in (i + j) L) (hk : k + 1 ≤ room_1.cells) (hn : n + 14 ≤ room_1.slots) (hnx : L_next D b K bb i I k n) : sx_At D b K YL_law room_1 L_Q 532 (L_lv b bb i) [] (sx_hp b uG uN uD uR uF uP uL uT uA uM uH xA xB xC xD xE xF xG xH xI xJ xK xL uO G) k n := by
  obtain ⟨r1, h1, r2, h2, he, hI2⟩ := ho uG uN uD uR uF uP uL uT uA uM uH xA xB xC xD xE xF xG xH xI xJ xK xL (xs (i + 1).toNatClampNeg) hI
  have hk0 : k ≤ room_1.cells := Nat.le_of_succ_le hk
  have hn0 : n ≤ room_1.slots := Nat.le_trans (Nat.le_add_right _ _) hn
  refine at_aload_n 1 dL_law_532 rfl ?_
  refine at_aload_n 0 dL_law_533 rfl ?_
  refine at_iload 4 dL_law_534 rfl ?_
  refine at_iconst 1 dL_law_536 rfl ?_
  refine at_iadd dL_law_537 ?_
  refine at_scr hX hbb (hin 1 (by decide) (by decide)) dL_law_538 ?_
  refine at_callVi (st := []) hK mt_X11_written ml_L_66 cl_X11 hg_0 (t_X11_written hK h1) rfl rfl (Nat.le_of_ble_eq_true rfl) ⟨(Nat.le_of_ble_eq_true rfl), (Nat.le_of_ble_eq_true rfl)⟩ ⟨hk0, hn0⟩ dL_law_539 ?_
  refine at_aload_n 2 dL_law_542 rfl ?_
  refine at_aload_n 0 dL_law_543 rfl ?_
  refine at_iload 4 dL_law_544 rfl ?_
  refine at_iconst 1 dL_law_546 rfl ?_
  refine at_iadd dL_law_547 ?_
  refine at_scr hX hbb (hin 1 (by decide) (by decide)) dL_law_548 ?_
  refine at_callVi (st := [.int _]) hK mt_X12_written ml_L_69 cl_X12 hg_38 (t_X12_written hK h2) rfl rfl (Nat.le_of_ble_eq_true rfl) ⟨(Nat.le_of_ble_eq_true rfl), (Nat.le_of_ble_eq_true rfl)⟩ ⟨hk0, hn0⟩ dL_law_549 ?_
  exact at_icmp_eq 1406 dL_law_552 rfl (fun _ => hnx uG uN uD uR uF uP uL uT uA uM uH xA (r2.2) xC xD xE xF xG xH xI xJ xK xL uO G _ _ hI2 (Nat.le_succ _) (Nat.le_add_right _ _)) (fun c => absurd he c)
theorem lc_now (hK : sx_Kk b K sa) (ho : LO_now N I) (hI : I uG uN uD uR uF uP uL uT uA uM uH xA xB xC xD xE xF xG xH xI xJ xK xL) (hX : ∀ (U : State) (H : Heap), K U H → va_X bb L xs U H) (hbb : bb < b) (hin : ∀ j : Int32, 0 ≤ j → j ≤ 5 → vp_in (i + j) L) (hk : k + 1 ≤ room_1.cells) (hn : n + 14 ≤ room_1.slots) (hnx : L_next D b K bb i I k n) : sx_At D b K YL_law room_1 L_Q 557 (L_lv b bb i) [] (sx_hp b uG uN uD uR uF uP uL uT uA uM uH xA xB xC xD xE xF xG xH xI xJ xK xL uO G) k n := by
  obtain ⟨r1, h1, r2, h2, he, hI2⟩ := ho uG uN uD uR uF uP uL uT uA uM uH xA xB xC xD xE xF xG xH xI xJ xK xL (xs (i + 1).toNatClampNeg) hI
  have hk0 : k ≤ room_1.cells := Nat.le_of_succ_le hk
  have hn0 : n ≤ room_1.slots := Nat.le_trans (Nat.le_add_right _ _) hn
  refine at_aload_n 1 dL_law_557 rfl ?_
  refine at_aload_n 0 dL_law_558 rfl ?_
  refine at_iload 4 dL_law_559 rfl ?_
  refine at_iconst 1 dL_law_561 rfl ?_
  refine at_iadd dL_law_562 ?_
  refine at_scr hX hbb (hin 1 (by decide) (by decide)) dL_law_563 ?_
  refine at_callVi (st := []) hK mt_X11_now ml_L_70 cl_X11 hg_0 (t_X11_now hK h1) rfl rfl (Nat.le_of_ble_eq_true rfl) ⟨(Nat.le_of_ble_eq_true rfl), (Nat.le_of_ble_eq_true rfl)⟩ ⟨hk0, hn0⟩ dL_law_564 ?_
  refine at_aload_n 2 dL_law_567 rfl ?_
  refine at_aload_n 0 dL_law_568 rfl ?_
  refine at_iload 4 dL_law_569 rfl ?_
  refine at_iconst 1 dL_law_571 rfl ?_
  refine at_iadd dL_law_572 ?_
  refine at_scr hX hbb (hin 1 (by decide) (by decide)) dL_law_573 ?_
  refine at_callVi (st := [.int _]) hK mt_X12_now ml_L_73 cl_X12 hg_38 (t_X12_now hK h2) rfl rfl (Nat.le_of_ble_eq_true rfl) ⟨(Nat.le_of_ble_eq_true rfl), (Nat.le_of_ble_eq_true rfl)⟩ ⟨hk0, hn0⟩ dL_law_574 ?_
  exact at_icmp_eq 1406 dL_law_577 rfl (fun _ => hnx uG uN uD uR uF uP uL uT uA uM uH xA (r2.2.1) xC (r2.2.2.1) (r2.2.2.2) xF xG xH xI xJ xK xL uO G _ _ hI2 (Nat.le_succ _) (Nat.le_add_right _ _)) (fun c => absurd he c)
theorem lc_pair (hK : sx_Kk b K sa) (ho : LO_pair N I) (hI : I uG uN uD uR uF uP uL uT uA uM uH xA xB xC xD xE xF xG xH xI xJ xK xL) (hX : ∀ (U : State) (H : Heap), K U H → va_X bb L xs U H) (hbb : bb < b) (hin : ∀ j : Int32, 0 ≤ j → j ≤ 5 → vp_in (i + j) L) (hk : k + 1 ≤ room_1.cells) (hn : n + 14 ≤ room_1.slots) (hnx : L_next D b K bb i I k n) : sx_At D b K YL_law room_1 L_Q 582 (L_lv b bb i) [] (sx_hp b uG uN uD uR uF uP uL uT uA uM uH xA xB xC xD xE xF xG xH xI xJ xK xL uO G) k n := by
  obtain ⟨r1, h1, r2, h2, he, hI2⟩ := ho uG uN uD uR uF uP uL uT uA uM uH xA xB xC xD xE xF xG xH xI xJ xK xL (xs (i + 1).toNatClampNeg) hI
  have hk0 : k ≤ room_1.cells := Nat.le_of_succ_le hk
  have hn0 : n ≤ room_1.slots := Nat.le_trans (Nat.le_add_right _ _) hn
  refine at_aload_n 1 dL_law_582 rfl ?_
  refine at_aload_n 0 dL_law_583 rfl ?_
  refine at_iload 4 dL_law_584 rfl ?_
  refine at_iconst 1 dL_law_586 rfl ?_
  refine at_iadd dL_law_587 ?_
  refine at_scr hX hbb (hin 1 (by decide) (by decide)) dL_law_588 ?_
  refine at_callVi (st := []) hK mt_X11_pair ml_L_74 cl_X11 hg_0 (t_X11_pair hK h1) rfl rfl (Nat.le_of_ble_eq_true rfl) ⟨(Nat.le_of_ble_eq_true rfl), (Nat.le_of_ble_eq_true rfl)⟩ ⟨hk0, hn0⟩ dL_law_589 ?_
  refine at_aload_n 2 dL_law_592 rfl ?_
  refine at_aload_n 0 dL_law_593 rfl ?_
  refine at_iload 4 dL_law_594 rfl ?_
  refine at_iconst 1 dL_law_596 rfl ?_
  refine at_iadd dL_law_597 ?_
  refine at_scr hX hbb (hin 1 (by decide) (by decide)) dL_law_598 ?_
  refine at_callVi (st := [.int _]) hK mt_X12_pair ml_L_77 cl_X12 hg_38 (t_X12_pair hK h2) rfl rfl (Nat.le_of_ble_eq_true rfl) ⟨(Nat.le_of_ble_eq_true rfl), (Nat.le_of_ble_eq_true rfl)⟩ ⟨hk0, hn0⟩ dL_law_599 ?_
  exact at_icmp_eq 1406 dL_law_602 rfl (fun _ => hnx uG uN uD uR (r1.2.1) (r1.2.2) uL uT uA uM uH xA (r2.2.1) xC (r2.2.2.1) (r2.2.2.2.1) (r2.2.2.2.2.1) (r2.2.2.2.2.2.1) (r2.2.2.2.2.2.2) xI xJ xK xL uO G _ _ hI2 (Nat.le_succ _) (Nat.le_add_right _ _)) (fun c => absurd he c)
theorem lc_outcome (hK : sx_Kk b K sa) (ho : LO_outcome N I) (hI : I uG uN uD uR uF uP uL uT uA uM uH xA xB xC xD xE xF xG xH xI xJ xK xL) (hX : ∀ (U : State) (H : Heap), K U H → va_X bb L xs U H) (hbb : bb < b) (hin : ∀ j : Int32, 0 ≤ j → j ≤ 5 → vp_in (i + j) L) (hk : k + 1 ≤ room_1.cells) (hn : n + 14 ≤ room_1.slots) (hnx : L_next D b K bb i I k n) : sx_At D b K YL_law room_1 L_Q 607 (L_lv b bb i) [] (sx_hp b uG uN uD uR uF uP uL uT uA uM uH xA xB xC xD xE xF xG xH xI xJ xK xL uO G) k n := by
  obtain ⟨r1, h1, r2, h2, he, hI2⟩ := ho uG uN uD uR uF uP uL uT uA uM uH xA xB xC xD xE xF xG xH xI xJ xK xL  hI
  have hk0 : k ≤ room_1.cells := Nat.le_of_succ_le hk
  have hn0 : n ≤ room_1.slots := Nat.le_trans (Nat.le_add_right _ _) hn
  refine at_aload_n 1 dL_law_607 rfl ?_
  refine at_callVi (st := []) hK mt_X11_outcome ml_L_78 cl_X11 hg_0 (t_X11_outcome hK h1) rfl rfl (Nat.le_of_ble_eq_true rfl) ⟨(Nat.le_of_ble_eq_true rfl), (Nat.le_of_ble_eq_true rfl)⟩ ⟨hk0, hn0⟩ dL_law_608 ?_
  refine at_aload_n 2 dL_law_611 rfl ?_
  refine at_callVi (st := [.int _]) hK mt_X12_outcome ml_L_81 cl_X12 hg_38 (t_X12_outcome hK h2) rfl rfl (Nat.le_of_ble_eq_true rfl) ⟨(Nat.le_of_ble_eq_true rfl), (Nat.le_of_ble_eq_true rfl)⟩ ⟨hk0, hn0⟩ dL_law_612 ?_
  exact at_icmp_eq 1406 dL_law_615 rfl (fun _ => hnx uG uN uD uR (r1.2) uP uL uT uA uM uH xA (r2.2.1) xC (r2.2.2.1) (r2.2.2.2.1) (r2.2.2.2.2.1) (r2.2.2.2.2.2) xH xI xJ xK xL uO G _ _ hI2 (Nat.le_succ _) (Nat.le_add_right _ _)) (fun c => absurd he c)
theorem lc_wins (hK : sx_Kk b K sa) (ho : LO_wins N I) (hI : I uG uN uD uR uF uP uL uT uA uM uH xA xB xC xD xE xF xG xH xI xJ xK xL) (hX : ∀ (U : State) (H : Heap), K U H → va_X bb L xs U H) (hbb : bb < b) (hin : ∀ j : Int32, 0 ≤ j → j ≤ 5 → vp_in (i + j) L) (hk : k + 1 ≤ room_1.cells) (hn : n + 14 ≤ room_1.slots) (hnx : L_next D b K bb i I k n) : sx_At D b K YL_law room_1 L_Q 620 (L_lv b bb i) [] (sx_hp b uG uN uD uR uF uP uL uT uA uM uH xA xB xC xD xE xF xG xH xI xJ xK xL uO G) k n := by
  obtain ⟨r1, h1, r2, h2, he, hI2⟩ := ho uG uN uD uR uF uP uL uT uA uM uH xA xB xC xD xE xF xG xH xI xJ xK xL (xs (i + 1).toNatClampNeg) (xs (i + 2).toNatClampNeg) hI
  have hk0 : k ≤ room_1.cells := Nat.le_of_succ_le hk
  have hn0 : n ≤ room_1.slots := Nat.le_trans (Nat.le_add_right _ _) hn
  refine at_aload_n 1 dL_law_620 rfl ?_
  refine at_aload_n 0 dL_law_621 rfl ?_
  refine at_iload 4 dL_law_622 rfl ?_
  refine at_iconst 1 dL_law_624 rfl ?_
  refine at_iadd dL_law_625 ?_
  refine at_scr hX hbb (hin 1 (by decide) (by decide)) dL_law_626 ?_
  refine at_aload_n 0 dL_law_627 rfl ?_
  refine at_iload 4 dL_law_628 rfl ?_
  refine at_iconst 2 dL_law_630 rfl ?_
  refine at_iadd dL_law_631 ?_
  refine at_scr hX hbb (hin 2 (by decide) (by decide)) dL_law_632 ?_
  refine at_callVi (st := []) hK mt_X11_wins ml_L_82 cl_X11 hg_0 (t_X11_wins hK h1) rfl rfl (Nat.le_of_ble_eq_true rfl) ⟨(Nat.le_of_ble_eq_true rfl), (Nat.le_of_ble_eq_true rfl)⟩ ⟨hk0, hn0⟩ dL_law_633 ?_
  refine at_aload_n 2 dL_law_636 rfl ?_
  refine at_aload_n 0 dL_law_637 rfl ?_
  refine at_iload 4 dL_law_638 rfl ?_
  refine at_iconst 1 dL_law_640 rfl ?_
  refine at_iadd dL_law_641 ?_
  refine at_scr hX hbb (hin 1 (by decide) (by decide)) dL_law_642 ?_
  refine at_aload_n 0 dL_law_643 rfl ?_
  refine at_iload 4 dL_law_644 rfl ?_
  refine at_iconst 2 dL_law_646 rfl ?_
  refine at_iadd dL_law_647 ?_
  refine at_scr hX hbb (hin 2 (by decide) (by decide)) dL_law_648 ?_
  refine at_callVi (st := [.int _]) hK mt_X12_wins ml_L_85 cl_X12 hg_38 (t_X12_wins hK h2) rfl rfl (Nat.le_of_ble_eq_true rfl) ⟨(Nat.le_of_ble_eq_true rfl), (Nat.le_of_ble_eq_true rfl)⟩ ⟨hk0, hn0⟩ dL_law_649 ?_
  exact at_icmp_eq 1406 dL_law_652 rfl (fun _ => hnx uG uN uD uR (r1.2) uP uL uT uA uM uH xA (r2.2.1) xC (r2.2.2.1) (r2.2.2.2.1) (r2.2.2.2.2.1) (r2.2.2.2.2.2) xH xI xJ xK xL uO G _ _ hI2 (Nat.le_succ _) (Nat.le_add_right _ _)) (fun c => absurd he c)
theorem lc_answer (hK : sx_Kk b K sa) (ho : LO_answer N I) (hI : I uG uN uD uR uF uP uL uT uA uM uH xA xB xC xD xE xF xG xH xI xJ xK xL) (hX : ∀ (U : State) (H : Heap), K U H → va_X bb L xs U H) (hbb : bb < b) (hin : ∀ j : Int32, 0 ≤ j → j ≤ 5 → vp_in (i + j) L) (hk : k + 1 ≤ room_1.cells) (hn : n + 14 ≤ room_1.slots) (hnx : L_next D b K bb i I k n) : sx_At D b K YL_law room_1 L_Q 657 (L_lv b bb i) [] (sx_hp b uG uN uD uR uF uP uL uT uA uM uH xA xB xC xD xE xF xG xH xI xJ xK xL uO G) k n := by
  obtain ⟨r1, h1, r2, h2, he, hI2⟩ := ho uG uN uD uR uF uP uL uT uA uM uH xA xB xC xD xE xF xG xH xI xJ xK xL (xs (i + 1).toNatClampNeg) hI
  have hk0 : k ≤ room_1.cells := Nat.le_of_succ_le hk
  have hn0 : n ≤ room_1.slots := Nat.le_trans (Nat.le_add_right _ _) hn
  refine at_aload_n 1 dL_law_657 rfl ?_
  refine at_aload_n 0 dL_law_658 rfl ?_
  refine at_iload 4 dL_law_659 rfl ?_
  refine at_iconst 1 dL_law_661 rfl ?_
  refine at_iadd dL_law_662 ?_
  refine at_scr hX hbb (hin 1 (by decide) (by decide)) dL_law_663 ?_
  refine at_callVi (st := []) hK mt_X11_answer ml_L_86 cl_X11 hg_0 (t_X11_answer hK h1) rfl rfl (Nat.le_of_ble_eq_true rfl) ⟨(Nat.le_of_ble_eq_true rfl), (Nat.le_of_ble_eq_true rfl)⟩ ⟨hk0, hn0⟩ dL_law_664 ?_
  refine at_aload_n 2 dL_law_667 rfl ?_
  refine at_aload_n 0 dL_law_668 rfl ?_
  refine at_iload 4 dL_law_669 rfl ?_
  refine at_iconst 1 dL_law_671 rfl ?_
  refine at_iadd dL_law_672 ?_
  refine at_scr hX hbb (hin 1 (by decide) (by decide)) dL_law_673 ?_
  refine at_callVi (st := [.int _]) hK mt_X12_answer ml_L_89 cl_X12 hg_38 (t_X12_answer hK h2) rfl rfl (Nat.le_of_ble_eq_true rfl) ⟨(Nat.le_of_ble_eq_true rfl), (Nat.le_of_ble_eq_true rfl)⟩ ⟨hk0, hn0⟩ dL_law_674 ?_
  exact at_icmp_eq 1406 dL_law_677 rfl (fun _ => hnx uG uN uD uR (r1.2.1) (r1.2.2) uL uT uA uM uH xA (r2.2.1) xC (r2.2.2.1) (r2.2.2.2.1) (r2.2.2.2.2.1) (r2.2.2.2.2.2.1) (r2.2.2.2.2.2.2) xI xJ xK xL uO G _ _ hI2 (Nat.le_succ _) (Nat.le_add_right _ _)) (fun c => absurd he c)
theorem lc_exchange (hK : sx_Kk b K sa) (ho : LO_exchange N I) (hI : I uG uN uD uR uF uP uL uT uA uM uH xA xB xC xD xE xF xG xH xI xJ xK xL) (hX : ∀ (U : State) (H : Heap), K U H → va_X bb L xs U H) (hbb : bb < b) (hin : ∀ j : Int32, 0 ≤ j → j ≤ 5 → vp_in (i + j) L) (hk : k + 1 ≤ room_1.cells) (hn : n + 14 ≤ room_1.slots) (hnx : L_next D b K bb i I k n) : sx_At D b K YL_law room_1 L_Q 682 (L_lv b bb i) [] (sx_hp b uG uN uD uR uF uP uL uT uA uM uH xA xB xC xD xE xF xG xH xI xJ xK xL uO G) k n := by
  obtain ⟨r1, h1, r2, h2, he, hI2⟩ := ho uG uN uD uR uF uP uL uT uA uM uH xA xB xC xD xE xF xG xH xI xJ xK xL (xs (i + 1).toNatClampNeg) hI
  have hk0 : k ≤ room_1.cells := Nat.le_of_succ_le hk
  have hn0 : n ≤ room_1.slots := Nat.le_trans (Nat.le_add_right _ _) hn
  refine at_aload_n 1 dL_law_682 rfl ?_
  refine at_aload_n 0 dL_law_683 rfl ?_
  refine at_iload 4 dL_law_684 rfl ?_
  refine at_iconst 1 dL_law_686 rfl ?_
  refine at_iadd dL_law_687 ?_
  refine at_scr hX hbb (hin 1 (by decide) (by decide)) dL_law_688 ?_
  refine at_callVi (st := []) hK mt_X11_exchange ml_L_90 cl_X11 hg_0 (t_X11_exchange hK h1) rfl rfl (Nat.le_of_ble_eq_true rfl) ⟨(Nat.le_of_ble_eq_true rfl), (Nat.le_of_ble_eq_true rfl)⟩ ⟨hk0, hn0⟩ dL_law_689 ?_
  refine at_aload_n 2 dL_law_692 rfl ?_
  refine at_aload_n 0 dL_law_693 rfl ?_
  refine at_iload 4 dL_law_694 rfl ?_
  refine at_iconst 1 dL_law_696 rfl ?_
  refine at_iadd dL_law_697 ?_
  refine at_scr hX hbb (hin 1 (by decide) (by decide)) dL_law_698 ?_
  refine at_callVi (st := [.int _]) hK mt_X12_exchange ml_L_93 cl_X12 hg_38 (t_X12_exchange hK h2) rfl rfl (Nat.le_of_ble_eq_true rfl) ⟨(Nat.le_of_ble_eq_true rfl), (Nat.le_of_ble_eq_true rfl)⟩ ⟨hk0, hn0⟩ dL_law_699 ?_
  exact at_icmp_eq 1406 dL_law_702 rfl (fun _ => hnx uG uN uD uR (r1.2.1) (r1.2.2) uL uT uA uM uH xA (r2.2.1) xC (r2.2.2.1) (r2.2.2.2.1) (r2.2.2.2.2.1) (r2.2.2.2.2.2.1) (r2.2.2.2.2.2.2) xI xJ xK xL uO G _ _ hI2 (Nat.le_succ _) (Nat.le_add_right _ _)) (fun c => absurd he c)
theorem lc_played (hK : sx_Kk b K sa) (ho : LO_played N I) (hI : I uG uN uD uR uF uP uL uT uA uM uH xA xB xC xD xE xF xG xH xI xJ xK xL) (hX : ∀ (U : State) (H : Heap), K U H → va_X bb L xs U H) (hbb : bb < b) (hin : ∀ j : Int32, 0 ≤ j → j ≤ 5 → vp_in (i + j) L) (hk : k + 1 ≤ room_1.cells) (hn : n + 14 ≤ room_1.slots) (hnx : L_next D b K bb i I k n) : sx_At D b K YL_law room_1 L_Q 707 (L_lv b bb i) [] (sx_hp b uG uN uD uR uF uP uL uT uA uM uH xA xB xC xD xE xF xG xH xI xJ xK xL uO G) k n := by
  obtain ⟨r1, h1, r2, h2, he, hI2⟩ := ho uG uN uD uR uF uP uL uT uA uM uH xA xB xC xD xE xF xG xH xI xJ xK xL (xs (i + 1).toNatClampNeg) hI
  have hk0 : k ≤ room_1.cells := Nat.le_of_succ_le hk
  have hn0 : n ≤ room_1.slots := Nat.le_trans (Nat.le_add_right _ _) hn
  refine at_aload_n 1 dL_law_707 rfl ?_
  refine at_aload_n 0 dL_law_708 rfl ?_
  refine at_iload 4 dL_law_709 rfl ?_
  refine at_iconst 1 dL_law_711 rfl ?_
  refine at_iadd dL_law_712 ?_
  refine at_scr hX hbb (hin 1 (by decide) (by decide)) dL_law_713 ?_
  refine at_callVi (st := []) hK mt_X11_played ml_L_94 cl_X11 hg_0 (t_X11_played hK h1) rfl rfl (Nat.le_of_ble_eq_true rfl) ⟨(Nat.le_of_ble_eq_true rfl), (Nat.le_of_ble_eq_true rfl)⟩ ⟨hk0, hn0⟩ dL_law_714 ?_
  refine at_aload_n 2 dL_law_717 rfl ?_
  refine at_aload_n 0 dL_law_718 rfl ?_
  refine at_iload 4 dL_law_719 rfl ?_
  refine at_iconst 1 dL_law_721 rfl ?_
  refine at_iadd dL_law_722 ?_
  refine at_scr hX hbb (hin 1 (by decide) (by decide)) dL_law_723 ?_
  refine at_callVi (st := [.int _]) hK mt_X12_played ml_L_97 cl_X12 hg_38 (t_X12_played hK h2) rfl rfl (Nat.le_of_ble_eq_true rfl) ⟨(Nat.le_of_ble_eq_true rfl), (Nat.le_of_ble_eq_true rfl)⟩ ⟨hk0, hn0⟩ dL_law_724 ?_
  exact at_icmp_eq 1406 dL_law_727 rfl (fun _ => hnx uG uN uD uR (r1.2) uP uL uT uA uM uH xA (r2.2.1) xC (r2.2.2.1) (r2.2.2.2.1) (r2.2.2.2.2.1) (r2.2.2.2.2.2.1) xH (r2.2.2.2.2.2.2) xJ xK xL uO G _ _ hI2 (Nat.le_succ _) (Nat.le_add_right _ _)) (fun c => absurd he c)
theorem lc_verified (hK : sx_Kk b K sa) (ho : LO_verified N I) (hI : I uG uN uD uR uF uP uL uT uA uM uH xA xB xC xD xE xF xG xH xI xJ xK xL) (hX : ∀ (U : State) (H : Heap), K U H → va_X bb L xs U H) (hbb : bb < b) (hin : ∀ j : Int32, 0 ≤ j → j ≤ 5 → vp_in (i + j) L) (hk : k + 1 ≤ room_1.cells) (hn : n + 14 ≤ room_1.slots) (hnx : L_next D b K bb i I k n) : sx_At D b K YL_law room_1 L_Q 732 (L_lv b bb i) [] (sx_hp b uG uN uD uR uF uP uL uT uA uM uH xA xB xC xD xE xF xG xH xI xJ xK xL uO G) k n := by
  obtain ⟨r1, h1, r2, h2, he, hI2⟩ := ho uG uN uD uR uF uP uL uT uA uM uH xA xB xC xD xE xF xG xH xI xJ xK xL (xs (i + 1).toNatClampNeg) hI
  have hk0 : k ≤ room_1.cells := Nat.le_of_succ_le hk
  have hn0 : n ≤ room_1.slots := Nat.le_trans (Nat.le_add_right _ _) hn
  refine at_aload_n 1 dL_law_732 rfl ?_
  refine at_aload_n 0 dL_law_733 rfl ?_
  refine at_iload 4 dL_law_734 rfl ?_
  refine at_iconst 1 dL_law_736 rfl ?_
  refine at_iadd dL_law_737 ?_
  refine at_scr hX hbb (hin 1 (by decide) (by decide)) dL_law_738 ?_
  refine at_callVi (st := []) hK mt_X11_verified ml_L_98 cl_X11 hg_0 (t_X11_verified hK h1) rfl rfl (Nat.le_of_ble_eq_true rfl) ⟨(Nat.le_of_ble_eq_true rfl), (Nat.le_of_ble_eq_true rfl)⟩ ⟨hk0, hn0⟩ dL_law_739 ?_
  refine at_aload_n 2 dL_law_742 rfl ?_
  refine at_aload_n 0 dL_law_743 rfl ?_
  refine at_iload 4 dL_law_744 rfl ?_
  refine at_iconst 1 dL_law_746 rfl ?_
  refine at_iadd dL_law_747 ?_
  refine at_scr hX hbb (hin 1 (by decide) (by decide)) dL_law_748 ?_
  refine at_callVi (st := [.int _]) hK mt_X12_verified ml_L_101 cl_X12 hg_38 (t_X12_verified hK h2) rfl rfl (Nat.le_of_ble_eq_true rfl) ⟨(Nat.le_of_ble_eq_true rfl), (Nat.le_of_ble_eq_true rfl)⟩ ⟨hk0, hn0⟩ dL_law_749 ?_
  exact at_icmp_eq 1406 dL_law_752 rfl (fun _ => hnx uG uN uD uR (r1.2.1) (r1.2.2.1) uL uT uA (r1.2.2.2) uH xA (r2.2.1) xC (r2.2.2.1) (r2.2.2.2.1) (r2.2.2.2.2.1) (r2.2.2.2.2.2.1) (r2.2.2.2.2.2.2.1) xI (r2.2.2.2.2.2.2.2) xK xL uO G _ _ hI2 (Nat.le_succ _) (Nat.le_add_right _ _)) (fun c => absurd he c)
theorem lc_full (hK : sx_Kk b K sa) (ho : LO_full N I) (hI : I uG uN uD uR uF uP uL uT uA uM uH xA xB xC xD xE xF xG xH xI xJ xK xL) (hX : ∀ (U : State) (H : Heap), K U H → va_X bb L xs U H) (hbb : bb < b) (hin : ∀ j : Int32, 0 ≤ j → j ≤ 5 → vp_in (i + j) L) (hk : k + 1 ≤ room_1.cells) (hn : n + 14 ≤ room_1.slots) (hnx : L_next D b K bb i I k n) : sx_At D b K YL_law room_1 L_Q 757 (L_lv b bb i) [] (sx_hp b uG uN uD uR uF uP uL uT uA uM uH xA xB xC xD xE xF xG xH xI xJ xK xL uO G) k n := by
  obtain ⟨r1, h1, r2, h2, he, hI2⟩ := ho uG uN uD uR uF uP uL uT uA uM uH xA xB xC xD xE xF xG xH xI xJ xK xL (xs (i + 1).toNatClampNeg) hI
  have hk0 : k ≤ room_1.cells := Nat.le_of_succ_le hk
  have hn0 : n ≤ room_1.slots := Nat.le_trans (Nat.le_add_right _ _) hn
  refine at_aload_n 1 dL_law_757 rfl ?_
  refine at_aload_n 0 dL_law_758 rfl ?_
  refine at_iload 4 dL_law_759 rfl ?_
  refine at_iconst 1 dL_law_761 rfl ?_
  refine at_iadd dL_law_762 ?_
  refine at_scr hX hbb (hin 1 (by decide) (by decide)) dL_law_763 ?_
  refine at_callVi (st := []) hK mt_X11_full ml_L_102 cl_X11 hg_0 (t_X11_full hK h1) rfl rfl (Nat.le_of_ble_eq_true rfl) ⟨(Nat.le_of_ble_eq_true rfl), (Nat.le_of_ble_eq_true rfl)⟩ ⟨hk0, hn0⟩ dL_law_764 ?_
  refine at_aload_n 2 dL_law_767 rfl ?_
  refine at_aload_n 0 dL_law_768 rfl ?_
  refine at_iload 4 dL_law_769 rfl ?_
  refine at_iconst 1 dL_law_771 rfl ?_
  refine at_iadd dL_law_772 ?_
  refine at_scr hX hbb (hin 1 (by decide) (by decide)) dL_law_773 ?_
  refine at_callVi (st := [.int _]) hK mt_X12_full ml_L_105 cl_X12 hg_38 (t_X12_full hK h2) rfl rfl (Nat.le_of_ble_eq_true rfl) ⟨(Nat.le_of_ble_eq_true rfl), (Nat.le_of_ble_eq_true rfl)⟩ ⟨hk0, hn0⟩ dL_law_774 ?_
  exact at_icmp_eq 1406 dL_law_777 rfl (fun _ => hnx uG uN uD uR (r1.2) uP uL uT uA uM uH xA (r2.2.1) xC (r2.2.2.1) xE xF xG xH xI xJ (r2.2.2.2) xL uO G _ _ hI2 (Nat.le_succ _) (Nat.le_add_right _ _)) (fun c => absurd he c)
theorem lc_positions (hK : sx_Kk b K sa) (ho : LO_positions N I) (hI : I uG uN uD uR uF uP uL uT uA uM uH xA xB xC xD xE xF xG xH xI xJ xK xL) (hX : ∀ (U : State) (H : Heap), K U H → va_X bb L xs U H) (hbb : bb < b) (hin : ∀ j : Int32, 0 ≤ j → j ≤ 5 → vp_in (i + j) L) (hk : k + 1 ≤ room_1.cells) (hn : n + 14 ≤ room_1.slots) (hnx : L_next D b K bb i I k n) : sx_At D b K YL_law room_1 L_Q 782 (L_lv b bb i) [] (sx_hp b uG uN uD uR uF uP uL uT uA uM uH xA xB xC xD xE xF xG xH xI xJ xK xL uO G) k n := by
  obtain ⟨r1, h1, r2, h2, he, hI2⟩ := ho uG uN uD uR uF uP uL uT uA uM uH xA xB xC xD xE xF xG xH xI xJ xK xL (xs (i + 1).toNatClampNeg) hI
  have hk0 : k ≤ room_1.cells := Nat.le_of_succ_le hk
  have hn0 : n ≤ room_1.slots := Nat.le_trans (Nat.le_add_right _ _) hn
  refine at_aload_n 1 dL_law_782 rfl ?_
  refine at_aload_n 0 dL_law_783 rfl ?_
  refine at_iload 4 dL_law_784 rfl ?_
  refine at_iconst 1 dL_law_786 rfl ?_
  refine at_iadd dL_law_787 ?_
  refine at_scr hX hbb (hin 1 (by decide) (by decide)) dL_law_788 ?_
  refine at_callVi (st := []) hK mt_X11_positions ml_L_106 cl_X11 hg_0 (t_X11_positions hK h1) rfl rfl (Nat.le_of_ble_eq_true rfl) ⟨(Nat.le_of_ble_eq_true rfl), (Nat.le_of_ble_eq_true rfl)⟩ ⟨hk0, hn0⟩ dL_law_789 ?_
  refine at_aload_n 2 dL_law_792 rfl ?_
  refine at_aload_n 0 dL_law_793 rfl ?_
  refine at_iload 4 dL_law_794 rfl ?_
  refine at_iconst 1 dL_law_796 rfl ?_
  refine at_iadd dL_law_797 ?_
  refine at_scr hX hbb (hin 1 (by decide) (by decide)) dL_law_798 ?_
  refine at_callVi (st := [.int _]) hK mt_X12_positions ml_L_109 cl_X12 hg_38 (t_X12_positions hK h2) rfl rfl (Nat.le_of_ble_eq_true rfl) ⟨(Nat.le_of_ble_eq_true rfl), (Nat.le_of_ble_eq_true rfl)⟩ ⟨hk0, hn0⟩ dL_law_799 ?_
  exact at_icmp_eq 1406 dL_law_802 rfl (fun _ => hnx uG uN uD uR uF uP (r1.2) uT uA uM uH xA (r2.2.1) xC (r2.2.2) xE xF xG xH xI xJ xK xL uO G _ _ hI2 (Nat.le_succ _) (Nat.le_add_right _ _)) (fun c => absurd he c)
theorem lc_wall (hK : sx_Kk b K sa) (ho : LO_wall N I) (hI : I uG uN uD uR uF uP uL uT uA uM uH xA xB xC xD xE xF xG xH xI xJ xK xL) (hX : ∀ (U : State) (H : Heap), K U H → va_X bb L xs U H) (hbb : bb < b) (hin : ∀ j : Int32, 0 ≤ j → j ≤ 5 → vp_in (i + j) L) (hk : k + 1 ≤ room_1.cells) (hn : n + 14 ≤ room_1.slots) (hnx : L_next D b K bb i I k n) : sx_At D b K YL_law room_1 L_Q 807 (L_lv b bb i) [] (sx_hp b uG uN uD uR uF uP uL uT uA uM uH xA xB xC xD xE xF xG xH xI xJ xK xL uO G) k n := by
  obtain ⟨r1, h1, r2, h2, he, hI2⟩ := ho uG uN uD uR uF uP uL uT uA uM uH xA xB xC xD xE xF xG xH xI xJ xK xL (xs (i + 1).toNatClampNeg) hI
  have hk0 : k ≤ room_1.cells := Nat.le_of_succ_le hk
  have hn0 : n ≤ room_1.slots := Nat.le_trans (Nat.le_add_right _ _) hn
  refine at_aload_n 1 dL_law_807 rfl ?_
  refine at_aload_n 0 dL_law_808 rfl ?_
  refine at_iload 4 dL_law_809 rfl ?_
  refine at_iconst 1 dL_law_811 rfl ?_
  refine at_iadd dL_law_812 ?_
  refine at_scr hX hbb (hin 1 (by decide) (by decide)) dL_law_813 ?_
  refine at_callVi (st := []) hK mt_X11_wall ml_L_110 cl_X11 hg_0 (t_X11_wall hK h1) rfl rfl (Nat.le_of_ble_eq_true rfl) ⟨(Nat.le_of_ble_eq_true rfl), (Nat.le_of_ble_eq_true rfl)⟩ ⟨hk0, hn0⟩ dL_law_814 ?_
  refine at_aload_n 2 dL_law_817 rfl ?_
  refine at_aload_n 0 dL_law_818 rfl ?_
  refine at_iload 4 dL_law_819 rfl ?_
  refine at_iconst 1 dL_law_821 rfl ?_
  refine at_iadd dL_law_822 ?_
  refine at_scr hX hbb (hin 1 (by decide) (by decide)) dL_law_823 ?_
  refine at_callVi (st := [.int _]) hK mt_X12_wall ml_L_113 cl_X12 hg_38 (t_X12_wall hK h2) rfl rfl (Nat.le_of_ble_eq_true rfl) ⟨(Nat.le_of_ble_eq_true rfl), (Nat.le_of_ble_eq_true rfl)⟩ ⟨hk0, hn0⟩ dL_law_824 ?_
  exact at_icmp_eq 1406 dL_law_827 rfl (fun _ => hnx uG uN uD uR uF uP (r1.2) uT uA uM uH xA (r2.2.1) xC (r2.2.2.1) xE (r2.2.2.2) xG xH xI xJ xK xL uO G _ _ hI2 (Nat.le_succ _) (Nat.le_add_right _ _)) (fun c => absurd he c)
theorem lc_road (hK : sx_Kk b K sa) (ho : LO_road N I) (hI : I uG uN uD uR uF uP uL uT uA uM uH xA xB xC xD xE xF xG xH xI xJ xK xL) (hX : ∀ (U : State) (H : Heap), K U H → va_X bb L xs U H) (hbb : bb < b) (hin : ∀ j : Int32, 0 ≤ j → j ≤ 5 → vp_in (i + j) L) (hk : k + 1 ≤ room_1.cells) (hn : n + 14 ≤ room_1.slots) (hnx : L_next D b K bb i I k n) : sx_At D b K YL_law room_1 L_Q 832 (L_lv b bb i) [] (sx_hp b uG uN uD uR uF uP uL uT uA uM uH xA xB xC xD xE xF xG xH xI xJ xK xL uO G) k n := by
  obtain ⟨r1, h1, r2, h2, he, hI2⟩ := ho uG uN uD uR uF uP uL uT uA uM uH xA xB xC xD xE xF xG xH xI xJ xK xL (xs (i + 1).toNatClampNeg) hI
  have hk0 : k ≤ room_1.cells := Nat.le_of_succ_le hk
  have hn0 : n ≤ room_1.slots := Nat.le_trans (Nat.le_add_right _ _) hn
  refine at_aload_n 1 dL_law_832 rfl ?_
  refine at_aload_n 0 dL_law_833 rfl ?_
  refine at_iload 4 dL_law_834 rfl ?_
  refine at_iconst 1 dL_law_836 rfl ?_
  refine at_iadd dL_law_837 ?_
  refine at_scr hX hbb (hin 1 (by decide) (by decide)) dL_law_838 ?_
  refine at_callVi (st := []) hK mt_X11_road ml_L_114 cl_X11 hg_0 (t_X11_road hK h1) rfl rfl (Nat.le_of_ble_eq_true rfl) ⟨(Nat.le_of_ble_eq_true rfl), (Nat.le_of_ble_eq_true rfl)⟩ ⟨hk0, hn0⟩ dL_law_839 ?_
  refine at_aload_n 2 dL_law_842 rfl ?_
  refine at_aload_n 0 dL_law_843 rfl ?_
  refine at_iload 4 dL_law_844 rfl ?_
  refine at_iconst 1 dL_law_846 rfl ?_
  refine at_iadd dL_law_847 ?_
  refine at_scr hX hbb (hin 1 (by decide) (by decide)) dL_law_848 ?_
  refine at_callVi (st := [.int _]) hK mt_X12_road ml_L_117 cl_X12 hg_38 (t_X12_road hK h2) rfl rfl (Nat.le_of_ble_eq_true rfl) ⟨(Nat.le_of_ble_eq_true rfl), (Nat.le_of_ble_eq_true rfl)⟩ ⟨hk0, hn0⟩ dL_law_849 ?_
  exact at_icmp_eq 1406 dL_law_852 rfl (fun _ => hnx uG uN uD uR uF uP (r1.2) uT uA uM uH xA (r2.2.1) xC (r2.2.2.1) xE (r2.2.2.2) xG xH xI xJ xK xL uO G _ _ hI2 (Nat.le_succ _) (Nat.le_add_right _ _)) (fun c => absurd he c)
theorem lc_lucky (hK : sx_Kk b K sa) (ho : LO_lucky N I) (hI : I uG uN uD uR uF uP uL uT uA uM uH xA xB xC xD xE xF xG xH xI xJ xK xL) (hX : ∀ (U : State) (H : Heap), K U H → va_X bb L xs U H) (hbb : bb < b) (hin : ∀ j : Int32, 0 ≤ j → j ≤ 5 → vp_in (i + j) L) (hk : k + 1 ≤ room_1.cells) (hn : n + 14 ≤ room_1.slots) (hnx : L_next D b K bb i I k n) : sx_At D b K YL_law room_1 L_Q 857 (L_lv b bb i) [] (sx_hp b uG uN uD uR uF uP uL uT uA uM uH xA xB xC xD xE xF xG xH xI xJ xK xL uO G) k n := by
  obtain ⟨r1, h1, r2, h2, he, hI2⟩ := ho uG uN uD uR uF uP uL uT uA uM uH xA xB xC xD xE xF xG xH xI xJ xK xL (xs (i + 1).toNatClampNeg) hI
  have hk0 : k ≤ room_1.cells := Nat.le_of_succ_le hk
  have hn0 : n ≤ room_1.slots := Nat.le_trans (Nat.le_add_right _ _) hn
  refine at_aload_n 1 dL_law_857 rfl ?_
  refine at_aload_n 0 dL_law_858 rfl ?_
  refine at_iload 4 dL_law_859 rfl ?_
  refine at_iconst 1 dL_law_861 rfl ?_
  refine at_iadd dL_law_862 ?_
  refine at_scr hX hbb (hin 1 (by decide) (by decide)) dL_law_863 ?_
  refine at_callVi (st := []) hK mt_X11_lucky ml_L_118 cl_X11 hg_0 (t_X11_lucky hK h1) rfl rfl (Nat.le_of_ble_eq_true rfl) ⟨(Nat.le_of_ble_eq_true rfl), (Nat.le_of_ble_eq_true rfl)⟩ ⟨hk0, hn0⟩ dL_law_864 ?_
  refine at_aload_n 2 dL_law_867 rfl ?_
  refine at_aload_n 0 dL_law_868 rfl ?_
  refine at_iload 4 dL_law_869 rfl ?_
  refine at_iconst 1 dL_law_871 rfl ?_
  refine at_iadd dL_law_872 ?_
  refine at_scr hX hbb (hin 1 (by decide) (by decide)) dL_law_873 ?_
  refine at_callVi (st := [.int _]) hK mt_X12_lucky ml_L_121 cl_X12 hg_38 (t_X12_lucky hK h2) rfl rfl (Nat.le_of_ble_eq_true rfl) ⟨(Nat.le_of_ble_eq_true rfl), (Nat.le_of_ble_eq_true rfl)⟩ ⟨hk0, hn0⟩ dL_law_874 ?_
  exact at_icmp_eq 1406 dL_law_877 rfl (fun _ => hnx uG uN uD uR uF uP (r1.2) uT uA uM uH xA (r2.2.1) xC (r2.2.2.1) (r2.2.2.2.1) (r2.2.2.2.2) xG xH xI xJ xK xL uO G _ _ hI2 (Nat.le_succ _) (Nat.le_add_right _ _)) (fun c => absurd he c)
theorem lc_luckyWith (hK : sx_Kk b K sa) (ho : LO_luckyWith N I) (hI : I uG uN uD uR uF uP uL uT uA uM uH xA xB xC xD xE xF xG xH xI xJ xK xL) (hX : ∀ (U : State) (H : Heap), K U H → va_X bb L xs U H) (hbb : bb < b) (hin : ∀ j : Int32, 0 ≤ j → j ≤ 5 → vp_in (i + j) L) (hk : k + 1 ≤ room_1.cells) (hn : n + 14 ≤ room_1.slots) (hnx : L_next D b K bb i I k n) : sx_At D b K YL_law room_1 L_Q 882 (L_lv b bb i) [] (sx_hp b uG uN uD uR uF uP uL uT uA uM uH xA xB xC xD xE xF xG xH xI xJ xK xL uO G) k n := by
  obtain ⟨r1, h1, r2, h2, he, hI2⟩ := ho uG uN uD uR uF uP uL uT uA uM uH xA xB xC xD xE xF xG xH xI xJ xK xL (xs (i + 1).toNatClampNeg) hI
  have hk0 : k ≤ room_1.cells := Nat.le_of_succ_le hk
  have hn0 : n ≤ room_1.slots := Nat.le_trans (Nat.le_add_right _ _) hn
  refine at_aload_n 1 dL_law_882 rfl ?_
  refine at_aload_n 0 dL_law_883 rfl ?_
  refine at_iload 4 dL_law_884 rfl ?_
  refine at_iconst 1 dL_law_886 rfl ?_
  refine at_iadd dL_law_887 ?_
  refine at_scr hX hbb (hin 1 (by decide) (by decide)) dL_law_888 ?_
  refine at_callVi (st := []) hK mt_X11_luckyWith ml_L_122 cl_X11 hg_0 (t_X11_luckyWith hK h1) rfl rfl (Nat.le_of_ble_eq_true rfl) ⟨(Nat.le_of_ble_eq_true rfl), (Nat.le_of_ble_eq_true rfl)⟩ ⟨hk0, hn0⟩ dL_law_889 ?_
  refine at_aload_n 2 dL_law_892 rfl ?_
  refine at_aload_n 0 dL_law_893 rfl ?_
  refine at_iload 4 dL_law_894 rfl ?_
  refine at_iconst 1 dL_law_896 rfl ?_
  refine at_iadd dL_law_897 ?_
  refine at_scr hX hbb (hin 1 (by decide) (by decide)) dL_law_898 ?_
  refine at_callVi (st := [.int _]) hK mt_X12_luckyWith ml_L_125 cl_X12 hg_38 (t_X12_luckyWith hK h2) rfl rfl (Nat.le_of_ble_eq_true rfl) ⟨(Nat.le_of_ble_eq_true rfl), (Nat.le_of_ble_eq_true rfl)⟩ ⟨hk0, hn0⟩ dL_law_899 ?_
  exact at_icmp_eq 1406 dL_law_902 rfl (fun _ => hnx uG uN uD uR uF uP (r1.2) uT uA uM uH xA (r2.2.1) xC (r2.2.2.1) (r2.2.2.2.1) (r2.2.2.2.2) xG xH xI xJ xK xL uO G _ _ hI2 (Nat.le_succ _) (Nat.le_add_right _ _)) (fun c => absurd he c)
theorem lc_trees (hK : sx_Kk b K sa) (ho : LO_trees N I) (hI : I uG uN uD uR uF uP uL uT uA uM uH xA xB xC xD xE xF xG xH xI xJ xK xL) (hX : ∀ (U : State) (H : Heap), K U H → va_X bb L xs U H) (hbb : bb < b) (hin : ∀ j : Int32, 0 ≤ j → j ≤ 5 → vp_in (i + j) L) (hk : k + 1 ≤ room_1.cells) (hn : n + 14 ≤ room_1.slots) (hnx : L_next D b K bb i I k n) : sx_At D b K YL_law room_1 L_Q 907 (L_lv b bb i) [] (sx_hp b uG uN uD uR uF uP uL uT uA uM uH xA xB xC xD xE xF xG xH xI xJ xK xL uO G) k n := by
  obtain ⟨r1, h1, r2, h2, he, hI2⟩ := ho uG uN uD uR uF uP uL uT uA uM uH xA xB xC xD xE xF xG xH xI xJ xK xL  hI
  have hk0 : k ≤ room_1.cells := Nat.le_of_succ_le hk
  have hn0 : n ≤ room_1.slots := Nat.le_trans (Nat.le_add_right _ _) hn
  refine at_aload_n 1 dL_law_907 rfl ?_
  refine at_callVi (st := []) hK mt_X11_trees ml_L_126 cl_X11 hg_0 (t_X11_trees hK h1) rfl rfl (Nat.le_of_ble_eq_true rfl) ⟨(Nat.le_of_ble_eq_true rfl), (Nat.le_of_ble_eq_true rfl)⟩ ⟨hk0, hn0⟩ dL_law_908 ?_
  refine at_aload_n 2 dL_law_911 rfl ?_
  refine at_callVi (st := [.int _]) hK mt_X12_trees ml_L_129 cl_X12 hg_38 (t_X12_trees hK h2) rfl rfl (Nat.le_of_ble_eq_true rfl) ⟨(Nat.le_of_ble_eq_true rfl), (Nat.le_of_ble_eq_true rfl)⟩ ⟨hk0, hn0⟩ dL_law_912 ?_
  exact at_icmp_eq 1406 dL_law_915 rfl (fun _ => hnx uG uN uD uR uF uP uL (r1.2) uA uM uH xA (r2.2.1) xC (r2.2.2.1) (r2.2.2.2.1) (r2.2.2.2.2) xG xH xI xJ xK xL uO G _ _ hI2 (Nat.le_succ _) (Nat.le_add_right _ _)) (fun c => absurd he c)
theorem lc_treesWith (hK : sx_Kk b K sa) (ho : LO_treesWith N I) (hI : I uG uN uD uR uF uP uL uT uA uM uH xA xB xC xD xE xF xG xH xI xJ xK xL) (hX : ∀ (U : State) (H : Heap), K U H → va_X bb L xs U H) (hbb : bb < b) (hin : ∀ j : Int32, 0 ≤ j → j ≤ 5 → vp_in (i + j) L) (hk : k + 1 ≤ room_1.cells) (hn : n + 14 ≤ room_1.slots) (hnx : L_next D b K bb i I k n) : sx_At D b K YL_law room_1 L_Q 920 (L_lv b bb i) [] (sx_hp b uG uN uD uR uF uP uL uT uA uM uH xA xB xC xD xE xF xG xH xI xJ xK xL uO G) k n := by
  obtain ⟨r1, h1, r2, h2, he, hI2⟩ := ho uG uN uD uR uF uP uL uT uA uM uH xA xB xC xD xE xF xG xH xI xJ xK xL (xs (i + 1).toNatClampNeg) hI
  have hk0 : k ≤ room_1.cells := Nat.le_of_succ_le hk
  have hn0 : n ≤ room_1.slots := Nat.le_trans (Nat.le_add_right _ _) hn
  refine at_aload_n 1 dL_law_920 rfl ?_
  refine at_aload_n 0 dL_law_921 rfl ?_
  refine at_iload 4 dL_law_922 rfl ?_
  refine at_iconst 1 dL_law_924 rfl ?_
  refine at_iadd dL_law_925 ?_
  refine at_scr hX hbb (hin 1 (by decide) (by decide)) dL_law_926 ?_
  refine at_callVi (st := []) hK mt_X11_treesWith ml_L_130 cl_X11 hg_0 (t_X11_treesWith hK h1) rfl rfl (Nat.le_of_ble_eq_true rfl) ⟨(Nat.le_of_ble_eq_true rfl), (Nat.le_of_ble_eq_true rfl)⟩ ⟨hk0, hn0⟩ dL_law_927 ?_
  refine at_aload_n 2 dL_law_930 rfl ?_
  refine at_aload_n 0 dL_law_931 rfl ?_
  refine at_iload 4 dL_law_932 rfl ?_
  refine at_iconst 1 dL_law_934 rfl ?_
  refine at_iadd dL_law_935 ?_
  refine at_scr hX hbb (hin 1 (by decide) (by decide)) dL_law_936 ?_
  refine at_callVi (st := [.int _]) hK mt_X12_treesWith ml_L_133 cl_X12 hg_38 (t_X12_treesWith hK h2) rfl rfl (Nat.le_of_ble_eq_true rfl) ⟨(Nat.le_of_ble_eq_true rfl), (Nat.le_of_ble_eq_true rfl)⟩ ⟨hk0, hn0⟩ dL_law_937 ?_
  exact at_icmp_eq 1406 dL_law_940 rfl (fun _ => hnx uG uN uD uR uF uP uL (r1.2) uA uM uH xA (r2.2.1) xC (r2.2.2.1) (r2.2.2.2.1) (r2.2.2.2.2) xG xH xI xJ xK xL uO G _ _ hI2 (Nat.le_succ _) (Nat.le_add_right _ _)) (fun c => absurd he c)
theorem lc_idle (hK : sx_Kk b K sa) (ho : LO_idle N I) (hI : I uG uN uD uR uF uP uL uT uA uM uH xA xB xC xD xE xF xG xH xI xJ xK xL) (hX : ∀ (U : State) (H : Heap), K U H → va_X bb L xs U H) (hbb : bb < b) (hin : ∀ j : Int32, 0 ≤ j → j ≤ 5 → vp_in (i + j) L) (hk : k + 1 ≤ room_1.cells) (hn : n + 14 ≤ room_1.slots) (hnx : L_next D b K bb i I k n) : sx_At D b K YL_law room_1 L_Q 945 (L_lv b bb i) [] (sx_hp b uG uN uD uR uF uP uL uT uA uM uH xA xB xC xD xE xF xG xH xI xJ xK xL uO G) k n := by
  obtain ⟨r1, h1, r2, h2, he, hI2⟩ := ho uG uN uD uR uF uP uL uT uA uM uH xA xB xC xD xE xF xG xH xI xJ xK xL (xs (i + 1).toNatClampNeg) hI
  have hk0 : k ≤ room_1.cells := Nat.le_of_succ_le hk
  have hn0 : n ≤ room_1.slots := Nat.le_trans (Nat.le_add_right _ _) hn
  refine at_aload_n 1 dL_law_945 rfl ?_
  refine at_aload_n 0 dL_law_946 rfl ?_
  refine at_iload 4 dL_law_947 rfl ?_
  refine at_iconst 1 dL_law_949 rfl ?_
  refine at_iadd dL_law_950 ?_
  refine at_scr hX hbb (hin 1 (by decide) (by decide)) dL_law_951 ?_
  refine at_callVi (st := []) hK mt_X11_idle ml_L_134 cl_X11 hg_0 (t_X11_idle hK h1) rfl rfl (Nat.le_of_ble_eq_true rfl) ⟨(Nat.le_of_ble_eq_true rfl), (Nat.le_of_ble_eq_true rfl)⟩ ⟨hk0, hn0⟩ dL_law_952 ?_
  refine at_aload_n 2 dL_law_955 rfl ?_
  refine at_aload_n 0 dL_law_956 rfl ?_
  refine at_iload 4 dL_law_957 rfl ?_
  refine at_iconst 1 dL_law_959 rfl ?_
  refine at_iadd dL_law_960 ?_
  refine at_scr hX hbb (hin 1 (by decide) (by decide)) dL_law_961 ?_
  refine at_callVi (st := [.int _]) hK mt_X12_idle ml_L_137 cl_X12 hg_38 (t_X12_idle hK h2) rfl rfl (Nat.le_of_ble_eq_true rfl) ⟨(Nat.le_of_ble_eq_true rfl), (Nat.le_of_ble_eq_true rfl)⟩ ⟨hk0, hn0⟩ dL_law_962 ?_
  exact at_icmp_eq 1406 dL_law_965 rfl (fun _ => hnx uG uN uD uR (r1.2) uP uL uT uA uM uH xA (r2.2.1) xC (r2.2.2.1) (r2.2.2.2.1) (r2.2.2.2.2.1) (r2.2.2.2.2.2) xH xI xJ xK xL uO G _ _ hI2 (Nat.le_succ _) (Nat.le_add_right _ _)) (fun c => absurd he c)
theorem lc_ifLine (hK : sx_Kk b K sa) (ho : LO_ifLine N I) (hI : I uG uN uD uR uF uP uL uT uA uM uH xA xB xC xD xE xF xG xH xI xJ xK xL) (hX : ∀ (U : State) (H : Heap), K U H → va_X bb L xs U H) (hbb : bb < b) (hin : ∀ j : Int32, 0 ≤ j → j ≤ 5 → vp_in (i + j) L) (hk : k + 1 ≤ room_1.cells) (hn : n + 14 ≤ room_1.slots) (hnx : L_next D b K bb i I k n) : sx_At D b K YL_law room_1 L_Q 970 (L_lv b bb i) [] (sx_hp b uG uN uD uR uF uP uL uT uA uM uH xA xB xC xD xE xF xG xH xI xJ xK xL uO G) k n := by
  obtain ⟨r1, h1, r2, h2, he, hI2⟩ := ho uG uN uD uR uF uP uL uT uA uM uH xA xB xC xD xE xF xG xH xI xJ xK xL (xs (i + 1).toNatClampNeg) (xs (i + 2).toNatClampNeg) hI
  have hk0 : k ≤ room_1.cells := Nat.le_of_succ_le hk
  have hn0 : n ≤ room_1.slots := Nat.le_trans (Nat.le_add_right _ _) hn
  refine at_aload_n 1 dL_law_970 rfl ?_
  refine at_aload_n 0 dL_law_971 rfl ?_
  refine at_iload 4 dL_law_972 rfl ?_
  refine at_iconst 1 dL_law_974 rfl ?_
  refine at_iadd dL_law_975 ?_
  refine at_scr hX hbb (hin 1 (by decide) (by decide)) dL_law_976 ?_
  refine at_aload_n 0 dL_law_977 rfl ?_
  refine at_iload 4 dL_law_978 rfl ?_
  refine at_iconst 2 dL_law_980 rfl ?_
  refine at_iadd dL_law_981 ?_
  refine at_scr hX hbb (hin 2 (by decide) (by decide)) dL_law_982 ?_
  refine at_callVi (st := []) hK mt_X11_ifLine ml_L_138 cl_X11 hg_0 (t_X11_ifLine hK h1) rfl rfl (Nat.le_of_ble_eq_true rfl) ⟨(Nat.le_of_ble_eq_true rfl), (Nat.le_of_ble_eq_true rfl)⟩ ⟨hk0, hn0⟩ dL_law_983 ?_
  refine at_aload_n 2 dL_law_986 rfl ?_
  refine at_aload_n 0 dL_law_987 rfl ?_
  refine at_iload 4 dL_law_988 rfl ?_
  refine at_iconst 1 dL_law_990 rfl ?_
  refine at_iadd dL_law_991 ?_
  refine at_scr hX hbb (hin 1 (by decide) (by decide)) dL_law_992 ?_
  refine at_aload_n 0 dL_law_993 rfl ?_
  refine at_iload 4 dL_law_994 rfl ?_
  refine at_iconst 2 dL_law_996 rfl ?_
  refine at_iadd dL_law_997 ?_
  refine at_scr hX hbb (hin 2 (by decide) (by decide)) dL_law_998 ?_
  refine at_callVi (st := [.int _]) hK mt_X12_ifLine ml_L_141 cl_X12 hg_38 (t_X12_ifLine hK h2) rfl rfl (Nat.le_of_ble_eq_true rfl) ⟨(Nat.le_of_ble_eq_true rfl), (Nat.le_of_ble_eq_true rfl)⟩ ⟨hk0, hn0⟩ dL_law_999 ?_
  exact at_icmp_eq 1406 dL_law_1002 rfl (fun _ => hnx uG uN uD uR (r1.2) uP uL uT uA uM uH xA (r2.2.1) xC (r2.2.2.1) (r2.2.2.2.1) (r2.2.2.2.2.1) (r2.2.2.2.2.2) xH xI xJ xK xL uO G _ _ hI2 (Nat.le_succ _) (Nat.le_add_right _ _)) (fun c => absurd he c)
theorem lc_ifMore (hK : sx_Kk b K sa) (ho : LO_ifMore N I) (hI : I uG uN uD uR uF uP uL uT uA uM uH xA xB xC xD xE xF xG xH xI xJ xK xL) (hX : ∀ (U : State) (H : Heap), K U H → va_X bb L xs U H) (hbb : bb < b) (hin : ∀ j : Int32, 0 ≤ j → j ≤ 5 → vp_in (i + j) L) (hk : k + 1 ≤ room_1.cells) (hn : n + 14 ≤ room_1.slots) (hnx : L_next D b K bb i I k n) : sx_At D b K YL_law room_1 L_Q 1007 (L_lv b bb i) [] (sx_hp b uG uN uD uR uF uP uL uT uA uM uH xA xB xC xD xE xF xG xH xI xJ xK xL uO G) k n := by
  obtain ⟨r1, h1, r2, h2, he, hI2⟩ := ho uG uN uD uR uF uP uL uT uA uM uH xA xB xC xD xE xF xG xH xI xJ xK xL (xs (i + 1).toNatClampNeg) (xs (i + 2).toNatClampNeg) hI
  have hk0 : k ≤ room_1.cells := Nat.le_of_succ_le hk
  have hn0 : n ≤ room_1.slots := Nat.le_trans (Nat.le_add_right _ _) hn
  refine at_aload_n 1 dL_law_1007 rfl ?_
  refine at_aload_n 0 dL_law_1008 rfl ?_
  refine at_iload 4 dL_law_1009 rfl ?_
  refine at_iconst 1 dL_law_1011 rfl ?_
  refine at_iadd dL_law_1012 ?_
  refine at_scr hX hbb (hin 1 (by decide) (by decide)) dL_law_1013 ?_
  refine at_aload_n 0 dL_law_1014 rfl ?_
  refine at_iload 4 dL_law_1015 rfl ?_
  refine at_iconst 2 dL_law_1017 rfl ?_
  refine at_iadd dL_law_1018 ?_
  refine at_scr hX hbb (hin 2 (by decide) (by decide)) dL_law_1019 ?_
  refine at_callVi (st := []) hK mt_X11_ifMore ml_L_142 cl_X11 hg_0 (t_X11_ifMore hK h1) rfl rfl (Nat.le_of_ble_eq_true rfl) ⟨(Nat.le_of_ble_eq_true rfl), (Nat.le_of_ble_eq_true rfl)⟩ ⟨hk0, hn0⟩ dL_law_1020 ?_
  refine at_aload_n 2 dL_law_1023 rfl ?_
  refine at_aload_n 0 dL_law_1024 rfl ?_
  refine at_iload 4 dL_law_1025 rfl ?_
  refine at_iconst 1 dL_law_1027 rfl ?_
  refine at_iadd dL_law_1028 ?_
  refine at_scr hX hbb (hin 1 (by decide) (by decide)) dL_law_1029 ?_
  refine at_aload_n 0 dL_law_1030 rfl ?_
  refine at_iload 4 dL_law_1031 rfl ?_
  refine at_iconst 2 dL_law_1033 rfl ?_
  refine at_iadd dL_law_1034 ?_
  refine at_scr hX hbb (hin 2 (by decide) (by decide)) dL_law_1035 ?_
  refine at_callVi (st := [.int _]) hK mt_X12_ifMore ml_L_145 cl_X12 hg_38 (t_X12_ifMore hK h2) rfl rfl (Nat.le_of_ble_eq_true rfl) ⟨(Nat.le_of_ble_eq_true rfl), (Nat.le_of_ble_eq_true rfl)⟩ ⟨hk0, hn0⟩ dL_law_1036 ?_
  exact at_icmp_eq 1406 dL_law_1039 rfl (fun _ => hnx uG uN uD uR (r1.2) uP uL uT uA uM uH (r2.2.1) (r2.2.2.1) xC (r2.2.2.2.1) (r2.2.2.2.2.1) (r2.2.2.2.2.2.1) (r2.2.2.2.2.2.2) xH xI xJ xK xL uO G _ _ hI2 (Nat.le_succ _) (Nat.le_add_right _ _)) (fun c => absurd he c)
theorem lc_ifEnds (hK : sx_Kk b K sa) (ho : LO_ifEnds N I) (hI : I uG uN uD uR uF uP uL uT uA uM uH xA xB xC xD xE xF xG xH xI xJ xK xL) (hX : ∀ (U : State) (H : Heap), K U H → va_X bb L xs U H) (hbb : bb < b) (hin : ∀ j : Int32, 0 ≤ j → j ≤ 5 → vp_in (i + j) L) (hk : k + 1 ≤ room_1.cells) (hn : n + 14 ≤ room_1.slots) (hnx : L_next D b K bb i I k n) : sx_At D b K YL_law room_1 L_Q 1044 (L_lv b bb i) [] (sx_hp b uG uN uD uR uF uP uL uT uA uM uH xA xB xC xD xE xF xG xH xI xJ xK xL uO G) k n := by
  obtain ⟨r1, h1, r2, h2, he, hI2⟩ := ho uG uN uD uR uF uP uL uT uA uM uH xA xB xC xD xE xF xG xH xI xJ xK xL (xs (i + 1).toNatClampNeg) (xs (i + 2).toNatClampNeg) hI
  have hk0 : k ≤ room_1.cells := Nat.le_of_succ_le hk
  have hn0 : n ≤ room_1.slots := Nat.le_trans (Nat.le_add_right _ _) hn
  refine at_aload_n 1 dL_law_1044 rfl ?_
  refine at_aload_n 0 dL_law_1045 rfl ?_
  refine at_iload 4 dL_law_1046 rfl ?_
  refine at_iconst 1 dL_law_1048 rfl ?_
  refine at_iadd dL_law_1049 ?_
  refine at_scr hX hbb (hin 1 (by decide) (by decide)) dL_law_1050 ?_
  refine at_aload_n 0 dL_law_1051 rfl ?_
  refine at_iload 4 dL_law_1052 rfl ?_
  refine at_iconst 2 dL_law_1054 rfl ?_
  refine at_iadd dL_law_1055 ?_
  refine at_scr hX hbb (hin 2 (by decide) (by decide)) dL_law_1056 ?_
  refine at_callVi (st := []) hK mt_X11_ifEnds ml_L_146 cl_X11 hg_0 (t_X11_ifEnds hK h1) rfl rfl (Nat.le_of_ble_eq_true rfl) ⟨(Nat.le_of_ble_eq_true rfl), (Nat.le_of_ble_eq_true rfl)⟩ ⟨hk0, hn0⟩ dL_law_1057 ?_
  refine at_aload_n 2 dL_law_1060 rfl ?_
  refine at_aload_n 0 dL_law_1061 rfl ?_
  refine at_iload 4 dL_law_1062 rfl ?_
  refine at_iconst 1 dL_law_1064 rfl ?_
  refine at_iadd dL_law_1065 ?_
  refine at_scr hX hbb (hin 1 (by decide) (by decide)) dL_law_1066 ?_
  refine at_aload_n 0 dL_law_1067 rfl ?_
  refine at_iload 4 dL_law_1068 rfl ?_
  refine at_iconst 2 dL_law_1070 rfl ?_
  refine at_iadd dL_law_1071 ?_
  refine at_scr hX hbb (hin 2 (by decide) (by decide)) dL_law_1072 ?_
  refine at_callVi (st := [.int _]) hK mt_X12_ifEnds ml_L_149 cl_X12 hg_38 (t_X12_ifEnds hK h2) rfl rfl (Nat.le_of_ble_eq_true rfl) ⟨(Nat.le_of_ble_eq_true rfl), (Nat.le_of_ble_eq_true rfl)⟩ ⟨hk0, hn0⟩ dL_law_1073 ?_
  exact at_icmp_eq 1406 dL_law_1076 rfl (fun _ => hnx uG uN uD uR (r1.2) uP uL uT uA uM uH (r2.2.1) (r2.2.2.1) xC (r2.2.2.2.1) (r2.2.2.2.2.1) (r2.2.2.2.2.2.1) (r2.2.2.2.2.2.2) xH xI xJ xK xL uO G _ _ hI2 (Nat.le_succ _) (Nat.le_add_right _ _)) (fun c => absurd he c)
theorem lc_lacks (hK : sx_Kk b K sa) (ho : LO_lacks N I) (hI : I uG uN uD uR uF uP uL uT uA uM uH xA xB xC xD xE xF xG xH xI xJ xK xL) (hX : ∀ (U : State) (H : Heap), K U H → va_X bb L xs U H) (hbb : bb < b) (hin : ∀ j : Int32, 0 ≤ j → j ≤ 5 → vp_in (i + j) L) (hk : k + 1 ≤ room_1.cells) (hn : n + 14 ≤ room_1.slots) (hnx : L_next D b K bb i I k n) : sx_At D b K YL_law room_1 L_Q 1081 (L_lv b bb i) [] (sx_hp b uG uN uD uR uF uP uL uT uA uM uH xA xB xC xD xE xF xG xH xI xJ xK xL uO G) k n := by
  obtain ⟨r1, h1, r2, h2, he, hI2⟩ := ho uG uN uD uR uF uP uL uT uA uM uH xA xB xC xD xE xF xG xH xI xJ xK xL  hI
  have hk0 : k ≤ room_1.cells := Nat.le_of_succ_le hk
  have hn0 : n ≤ room_1.slots := Nat.le_trans (Nat.le_add_right _ _) hn
  refine at_aload_n 1 dL_law_1081 rfl ?_
  refine at_callVi (st := []) hK mt_X11_lacks ml_L_150 cl_X11 hg_0 (t_X11_lacks hK h1) rfl rfl (Nat.le_of_ble_eq_true rfl) ⟨(Nat.le_of_ble_eq_true rfl), (Nat.le_of_ble_eq_true rfl)⟩ ⟨hk0, hn0⟩ dL_law_1082 ?_
  refine at_aload_n 2 dL_law_1085 rfl ?_
  refine at_callVi (st := [.int _]) hK mt_X12_lacks ml_L_153 cl_X12 hg_38 (t_X12_lacks hK h2) rfl rfl (Nat.le_of_ble_eq_true rfl) ⟨(Nat.le_of_ble_eq_true rfl), (Nat.le_of_ble_eq_true rfl)⟩ ⟨hk0, hn0⟩ dL_law_1086 ?_
  exact at_icmp_eq 1406 dL_law_1089 rfl (fun _ => hnx uG uN uD uR (r1.2) uP uL uT uA uM uH (r2.2.1) (r2.2.2.1) xC (r2.2.2.2.1) (r2.2.2.2.2.1) (r2.2.2.2.2.2.1) (r2.2.2.2.2.2.2) xH xI xJ xK xL uO G _ _ hI2 (Nat.le_succ _) (Nat.le_add_right _ _)) (fun c => absurd he c)
theorem lc_cutAnswer (hK : sx_Kk b K sa) (ho : LO_cutAnswer N I) (hI : I uG uN uD uR uF uP uL uT uA uM uH xA xB xC xD xE xF xG xH xI xJ xK xL) (hX : ∀ (U : State) (H : Heap), K U H → va_X bb L xs U H) (hbb : bb < b) (hin : ∀ j : Int32, 0 ≤ j → j ≤ 5 → vp_in (i + j) L) (hk : k + 1 ≤ room_1.cells) (hn : n + 14 ≤ room_1.slots) (hnx : L_next D b K bb i I k n) : sx_At D b K YL_law room_1 L_Q 1094 (L_lv b bb i) [] (sx_hp b uG uN uD uR uF uP uL uT uA uM uH xA xB xC xD xE xF xG xH xI xJ xK xL uO G) k n := by
  obtain ⟨r1, h1, r2, h2, he, hI2⟩ := ho uG uN uD uR uF uP uL uT uA uM uH xA xB xC xD xE xF xG xH xI xJ xK xL (xs (i + 1).toNatClampNeg) hI
  have hk0 : k ≤ room_1.cells := Nat.le_of_succ_le hk
  have hn0 : n ≤ room_1.slots := Nat.le_trans (Nat.le_add_right _ _) hn
  refine at_aload_n 1 dL_law_1094 rfl ?_
  refine at_aload_n 0 dL_law_1095 rfl ?_
  refine at_iload 4 dL_law_1096 rfl ?_
  refine at_iconst 1 dL_law_1098 rfl ?_
  refine at_iadd dL_law_1099 ?_
  refine at_scr hX hbb (hin 1 (by decide) (by decide)) dL_law_1100 ?_
  refine at_callVi (st := []) hK mt_X11_cutAnswer ml_L_154 cl_X11 hg_0 (t_X11_cutAnswer hK h1) rfl rfl (Nat.le_of_ble_eq_true rfl) ⟨(Nat.le_of_ble_eq_true rfl), (Nat.le_of_ble_eq_true rfl)⟩ ⟨hk0, hn0⟩ dL_law_1101 ?_
  refine at_aload_n 2 dL_law_1104 rfl ?_
  refine at_aload_n 0 dL_law_1105 rfl ?_
  refine at_iload 4 dL_law_1106 rfl ?_
  refine at_iconst 1 dL_law_1108 rfl ?_
  refine at_iadd dL_law_1109 ?_
  refine at_scr hX hbb (hin 1 (by decide) (by decide)) dL_law_1110 ?_
  refine at_callVi (st := [.int _]) hK mt_X12_cutAnswer ml_L_157 cl_X12 hg_38 (t_X12_cutAnswer hK h2) rfl rfl (Nat.le_of_ble_eq_true rfl) ⟨(Nat.le_of_ble_eq_true rfl), (Nat.le_of_ble_eq_true rfl)⟩ ⟨hk0, hn0⟩ dL_law_1111 ?_
  exact at_icmp_eq 1406 dL_law_1114 rfl (fun _ => hnx uG uN uD uR (r1.2) uP uL uT uA uM uH xA (r2.2.1) xC (r2.2.2.1) (r2.2.2.2.1) (r2.2.2.2.2.1) (r2.2.2.2.2.2) xH xI xJ xK xL uO G _ _ hI2 (Nat.le_succ _) (Nat.le_add_right _ _)) (fun c => absurd he c)
theorem lc_verifiedForCut (hK : sx_Kk b K sa) (ho : LO_verifiedForCut N I) (hI : I uG uN uD uR uF uP uL uT uA uM uH xA xB xC xD xE xF xG xH xI xJ xK xL) (hX : ∀ (U : State) (H : Heap), K U H → va_X bb L xs U H) (hbb : bb < b) (hin : ∀ j : Int32, 0 ≤ j → j ≤ 5 → vp_in (i + j) L) (hk : k + 1 ≤ room_1.cells) (hn : n + 14 ≤ room_1.slots) (hnx : L_next D b K bb i I k n) : sx_At D b K YL_law room_1 L_Q 1119 (L_lv b bb i) [] (sx_hp b uG uN uD uR uF uP uL uT uA uM uH xA xB xC xD xE xF xG xH xI xJ xK xL uO G) k n := by
  obtain ⟨r1, h1, r2, h2, he, hI2⟩ := ho uG uN uD uR uF uP uL uT uA uM uH xA xB xC xD xE xF xG xH xI xJ xK xL (xs (i + 1).toNatClampNeg) hI
  have hk0 : k ≤ room_1.cells := Nat.le_of_succ_le hk
  have hn0 : n ≤ room_1.slots := Nat.le_trans (Nat.le_add_right _ _) hn
  refine at_aload_n 1 dL_law_1119 rfl ?_
  refine at_aload_n 0 dL_law_1120 rfl ?_
  refine at_iload 4 dL_law_1121 rfl ?_
  refine at_iconst 1 dL_law_1123 rfl ?_
  refine at_iadd dL_law_1124 ?_
  refine at_scr hX hbb (hin 1 (by decide) (by decide)) dL_law_1125 ?_
  refine at_callVi (st := []) hK mt_X11_verifiedForCut ml_L_158 cl_X11 hg_0 (t_X11_verifiedForCut hK h1) rfl rfl (Nat.le_of_ble_eq_true rfl) ⟨(Nat.le_of_ble_eq_true rfl), (Nat.le_of_ble_eq_true rfl)⟩ ⟨hk0, hn0⟩ dL_law_1126 ?_
  refine at_aload_n 2 dL_law_1129 rfl ?_
  refine at_aload_n 0 dL_law_1130 rfl ?_
  refine at_iload 4 dL_law_1131 rfl ?_
  refine at_iconst 1 dL_law_1133 rfl ?_
  refine at_iadd dL_law_1134 ?_
  refine at_scr hX hbb (hin 1 (by decide) (by decide)) dL_law_1135 ?_
  refine at_callVi (st := [.int _]) hK mt_X12_verifiedForCut ml_L_161 cl_X12 hg_38 (t_X12_verifiedForCut hK h2) rfl rfl (Nat.le_of_ble_eq_true rfl) ⟨(Nat.le_of_ble_eq_true rfl), (Nat.le_of_ble_eq_true rfl)⟩ ⟨hk0, hn0⟩ dL_law_1136 ?_
  exact at_icmp_eq 1406 dL_law_1139 rfl (fun _ => hnx uG uN uD uR (r1.2.1) (r1.2.2.1) uL uT uA (r1.2.2.2) uH xA (r2.2.1) xC (r2.2.2.1) (r2.2.2.2.1) (r2.2.2.2.2.1) (r2.2.2.2.2.2.1) xH xI (r2.2.2.2.2.2.2) xK xL uO G _ _ hI2 (Nat.le_succ _) (Nat.le_add_right _ _)) (fun c => absurd he c)
theorem lc_pivots (hK : sx_Kk b K sa) (ho : LO_pivots N I) (hI : I uG uN uD uR uF uP uL uT uA uM uH xA xB xC xD xE xF xG xH xI xJ xK xL) (hX : ∀ (U : State) (H : Heap), K U H → va_X bb L xs U H) (hbb : bb < b) (hin : ∀ j : Int32, 0 ≤ j → j ≤ 5 → vp_in (i + j) L) (hk : k + 1 ≤ room_1.cells) (hn : n + 14 ≤ room_1.slots) (hnx : L_next D b K bb i I k n) : sx_At D b K YL_law room_1 L_Q 1144 (L_lv b bb i) [] (sx_hp b uG uN uD uR uF uP uL uT uA uM uH xA xB xC xD xE xF xG xH xI xJ xK xL uO G) k n := by
  obtain ⟨r1, h1, r2, h2, he, hI2⟩ := ho uG uN uD uR uF uP uL uT uA uM uH xA xB xC xD xE xF xG xH xI xJ xK xL (xs (i + 1).toNatClampNeg) hI
  have hk0 : k ≤ room_1.cells := Nat.le_of_succ_le hk
  have hn0 : n ≤ room_1.slots := Nat.le_trans (Nat.le_add_right _ _) hn
  refine at_aload_n 1 dL_law_1144 rfl ?_
  refine at_aload_n 0 dL_law_1145 rfl ?_
  refine at_iload 4 dL_law_1146 rfl ?_
  refine at_iconst 1 dL_law_1148 rfl ?_
  refine at_iadd dL_law_1149 ?_
  refine at_scr hX hbb (hin 1 (by decide) (by decide)) dL_law_1150 ?_
  refine at_callVi (st := []) hK mt_X11_pivots ml_L_162 cl_X11 hg_0 (t_X11_pivots hK h1) rfl rfl (Nat.le_of_ble_eq_true rfl) ⟨(Nat.le_of_ble_eq_true rfl), (Nat.le_of_ble_eq_true rfl)⟩ ⟨hk0, hn0⟩ dL_law_1151 ?_
  refine at_aload_n 2 dL_law_1154 rfl ?_
  refine at_aload_n 0 dL_law_1155 rfl ?_
  refine at_iload 4 dL_law_1156 rfl ?_
  refine at_iconst 1 dL_law_1158 rfl ?_
  refine at_iadd dL_law_1159 ?_
  refine at_scr hX hbb (hin 1 (by decide) (by decide)) dL_law_1160 ?_
  refine at_callVi (st := [.int _]) hK mt_X12_pivots ml_L_165 cl_X12 hg_38 (t_X12_pivots hK h2) rfl rfl (Nat.le_of_ble_eq_true rfl) ⟨(Nat.le_of_ble_eq_true rfl), (Nat.le_of_ble_eq_true rfl)⟩ ⟨hk0, hn0⟩ dL_law_1161 ?_
  exact at_icmp_eq 1406 dL_law_1164 rfl (fun _ => hnx uG uN uD uR uF uP (r1.2) uT uA uM uH xA (r2.2.1) xC (r2.2.2) xE xF xG xH xI xJ xK xL uO G _ _ hI2 (Nat.le_succ _) (Nat.le_add_right _ _)) (fun c => absurd he c)
theorem lc_needed (hK : sx_Kk b K sa) (ho : LO_needed N I) (hI : I uG uN uD uR uF uP uL uT uA uM uH xA xB xC xD xE xF xG xH xI xJ xK xL) (hX : ∀ (U : State) (H : Heap), K U H → va_X bb L xs U H) (hbb : bb < b) (hin : ∀ j : Int32, 0 ≤ j → j ≤ 5 → vp_in (i + j) L) (hk : k + 1 ≤ room_1.cells) (hn : n + 14 ≤ room_1.slots) (hnx : L_next D b K bb i I k n) : sx_At D b K YL_law room_1 L_Q 1169 (L_lv b bb i) [] (sx_hp b uG uN uD uR uF uP uL uT uA uM uH xA xB xC xD xE xF xG xH xI xJ xK xL uO G) k n := by
  obtain ⟨r1, h1, r2, h2, he, hI2⟩ := ho uG uN uD uR uF uP uL uT uA uM uH xA xB xC xD xE xF xG xH xI xJ xK xL  hI
  have hk0 : k ≤ room_1.cells := Nat.le_of_succ_le hk
  have hn0 : n ≤ room_1.slots := Nat.le_trans (Nat.le_add_right _ _) hn
  refine at_aload_n 1 dL_law_1169 rfl ?_
  refine at_callVi (st := []) hK mt_X11_needed ml_L_166 cl_X11 hg_0 (t_X11_needed hK h1) rfl rfl (Nat.le_of_ble_eq_true rfl) ⟨(Nat.le_of_ble_eq_true rfl), (Nat.le_of_ble_eq_true rfl)⟩ ⟨hk0, hn0⟩ dL_law_1170 ?_
  refine at_aload_n 2 dL_law_1173 rfl ?_
  refine at_callVi (st := [.int _]) hK mt_X12_needed ml_L_169 cl_X12 hg_38 (t_X12_needed hK h2) rfl rfl (Nat.le_of_ble_eq_true rfl) ⟨(Nat.le_of_ble_eq_true rfl), (Nat.le_of_ble_eq_true rfl)⟩ ⟨hk0, hn0⟩ dL_law_1174 ?_
  exact at_icmp_eq 1406 dL_law_1177 rfl (fun _ => hnx uG uN uD uR uF uP (r1.2) uT uA uM uH xA (r2.2.1) xC (r2.2.2) xE xF xG xH xI xJ xK xL uO G _ _ hI2 (Nat.le_succ _) (Nat.le_add_right _ _)) (fun c => absurd he c)
theorem lc_walls (hK : sx_Kk b K sa) (ho : LO_walls N I) (hI : I uG uN uD uR uF uP uL uT uA uM uH xA xB xC xD xE xF xG xH xI xJ xK xL) (hX : ∀ (U : State) (H : Heap), K U H → va_X bb L xs U H) (hbb : bb < b) (hin : ∀ j : Int32, 0 ≤ j → j ≤ 5 → vp_in (i + j) L) (hk : k + 1 ≤ room_1.cells) (hn : n + 14 ≤ room_1.slots) (hnx : L_next D b K bb i I k n) : sx_At D b K YL_law room_1 L_Q 1182 (L_lv b bb i) [] (sx_hp b uG uN uD uR uF uP uL uT uA uM uH xA xB xC xD xE xF xG xH xI xJ xK xL uO G) k n := by
  obtain ⟨r1, h1, r2, h2, he, hI2⟩ := ho uG uN uD uR uF uP uL uT uA uM uH xA xB xC xD xE xF xG xH xI xJ xK xL (xs (i + 1).toNatClampNeg) hI
  have hk0 : k ≤ room_1.cells := Nat.le_of_succ_le hk
  have hn0 : n ≤ room_1.slots := Nat.le_trans (Nat.le_add_right _ _) hn
  refine at_aload_n 1 dL_law_1182 rfl ?_
  refine at_aload_n 0 dL_law_1183 rfl ?_
  refine at_iload 4 dL_law_1184 rfl ?_
  refine at_iconst 1 dL_law_1186 rfl ?_
  refine at_iadd dL_law_1187 ?_
  refine at_scr hX hbb (hin 1 (by decide) (by decide)) dL_law_1188 ?_
  refine at_callVi (st := []) hK mt_X11_walls ml_L_170 cl_X11 hg_0 (t_X11_walls hK h1) rfl rfl (Nat.le_of_ble_eq_true rfl) ⟨(Nat.le_of_ble_eq_true rfl), (Nat.le_of_ble_eq_true rfl)⟩ ⟨hk0, hn0⟩ dL_law_1189 ?_
  refine at_aload_n 2 dL_law_1192 rfl ?_
  refine at_aload_n 0 dL_law_1193 rfl ?_
  refine at_iload 4 dL_law_1194 rfl ?_
  refine at_iconst 1 dL_law_1196 rfl ?_
  refine at_iadd dL_law_1197 ?_
  refine at_scr hX hbb (hin 1 (by decide) (by decide)) dL_law_1198 ?_
  refine at_callVi (st := [.int _]) hK mt_X12_walls ml_L_173 cl_X12 hg_38 (t_X12_walls hK h2) rfl rfl (Nat.le_of_ble_eq_true rfl) ⟨(Nat.le_of_ble_eq_true rfl), (Nat.le_of_ble_eq_true rfl)⟩ ⟨hk0, hn0⟩ dL_law_1199 ?_
  exact at_icmp_eq 1406 dL_law_1202 rfl (fun _ => hnx uG uN uD uR uF uP (r1.2) uT uA uM uH xA (r2.2.1) xC (r2.2.2.1) (r2.2.2.2.1) (r2.2.2.2.2) xG xH xI xJ xK xL uO G _ _ hI2 (Nat.le_succ _) (Nat.le_add_right _ _)) (fun c => absurd he c)
theorem lc_set (hK : sx_Kk b K sa) (ho : LO_set N I) (hI : I uG uN uD uR uF uP uL uT uA uM uH xA xB xC xD xE xF xG xH xI xJ xK xL) (hX : ∀ (U : State) (H : Heap), K U H → va_X bb L xs U H) (hbb : bb < b) (hin : ∀ j : Int32, 0 ≤ j → j ≤ 5 → vp_in (i + j) L) (hk : k + 1 ≤ room_1.cells) (hn : n + 14 ≤ room_1.slots) (hnx : L_next D b K bb i I k n) : sx_At D b K YL_law room_1 L_Q 1207 (L_lv b bb i) [] (sx_hp b uG uN uD uR uF uP uL uT uA uM uH xA xB xC xD xE xF xG xH xI xJ xK xL uO G) k n := by
  obtain ⟨r1, h1, r2, h2, he, hI2⟩ := ho uG uN uD uR uF uP uL uT uA uM uH xA xB xC xD xE xF xG xH xI xJ xK xL (xs (i + 1).toNatClampNeg) hI
  have hk0 : k ≤ room_1.cells := Nat.le_of_succ_le hk
  have hn0 : n ≤ room_1.slots := Nat.le_trans (Nat.le_add_right _ _) hn
  refine at_aload_n 1 dL_law_1207 rfl ?_
  refine at_aload_n 0 dL_law_1208 rfl ?_
  refine at_iload 4 dL_law_1209 rfl ?_
  refine at_iconst 1 dL_law_1211 rfl ?_
  refine at_iadd dL_law_1212 ?_
  refine at_scr hX hbb (hin 1 (by decide) (by decide)) dL_law_1213 ?_
  refine at_callVi (st := []) hK mt_X11_set ml_L_174 cl_X11 hg_0 (t_X11_set hK h1) rfl rfl (Nat.le_of_ble_eq_true rfl) ⟨(Nat.le_of_ble_eq_true rfl), (Nat.le_of_ble_eq_true rfl)⟩ ⟨hk0, hn0⟩ dL_law_1214 ?_
  refine at_aload_n 2 dL_law_1217 rfl ?_
  refine at_aload_n 0 dL_law_1218 rfl ?_
  refine at_iload 4 dL_law_1219 rfl ?_
  refine at_iconst 1 dL_law_1221 rfl ?_
  refine at_iadd dL_law_1222 ?_
  refine at_scr hX hbb (hin 1 (by decide) (by decide)) dL_law_1223 ?_
  refine at_callVi (st := [.int _]) hK mt_X12_set ml_L_177 cl_X12 hg_38 (t_X12_set hK h2) rfl rfl (Nat.le_of_ble_eq_true rfl) ⟨(Nat.le_of_ble_eq_true rfl), (Nat.le_of_ble_eq_true rfl)⟩ ⟨hk0, hn0⟩ dL_law_1224 ?_
  exact at_icmp_eq 1406 dL_law_1227 rfl (fun _ => hnx uG uN uD uR (r1.2.1) (r1.2.2) uL uT uA uM uH xA (r2.2.1) xC (r2.2.2.1) (r2.2.2.2.1) (r2.2.2.2.2.1) (r2.2.2.2.2.2) xH xI xJ xK xL uO G _ _ hI2 (Nat.le_succ _) (Nat.le_add_right _ _)) (fun c => absurd he c)
theorem lc_alike (hK : sx_Kk b K sa) (ho : LO_alike N I) (hI : I uG uN uD uR uF uP uL uT uA uM uH xA xB xC xD xE xF xG xH xI xJ xK xL) (hX : ∀ (U : State) (H : Heap), K U H → va_X bb L xs U H) (hbb : bb < b) (hin : ∀ j : Int32, 0 ≤ j → j ≤ 5 → vp_in (i + j) L) (hk : k + 1 ≤ room_1.cells) (hn : n + 14 ≤ room_1.slots) (hnx : L_next D b K bb i I k n) : sx_At D b K YL_law room_1 L_Q 1232 (L_lv b bb i) [] (sx_hp b uG uN uD uR uF uP uL uT uA uM uH xA xB xC xD xE xF xG xH xI xJ xK xL uO G) k n := by
  obtain ⟨r1, h1, r2, h2, he, hI2⟩ := ho uG uN uD uR uF uP uL uT uA uM uH xA xB xC xD xE xF xG xH xI xJ xK xL (xs (i + 1).toNatClampNeg) (xs (i + 2).toNatClampNeg) hI
  have hk0 : k ≤ room_1.cells := Nat.le_of_succ_le hk
  have hn0 : n ≤ room_1.slots := Nat.le_trans (Nat.le_add_right _ _) hn
  refine at_aload_n 1 dL_law_1232 rfl ?_
  refine at_aload_n 0 dL_law_1233 rfl ?_
  refine at_iload 4 dL_law_1234 rfl ?_
  refine at_iconst 1 dL_law_1236 rfl ?_
  refine at_iadd dL_law_1237 ?_
  refine at_scr hX hbb (hin 1 (by decide) (by decide)) dL_law_1238 ?_
  refine at_aload_n 0 dL_law_1239 rfl ?_
  refine at_iload 4 dL_law_1240 rfl ?_
  refine at_iconst 2 dL_law_1242 rfl ?_
  refine at_iadd dL_law_1243 ?_
  refine at_scr hX hbb (hin 2 (by decide) (by decide)) dL_law_1244 ?_
  refine at_callVi (st := []) hK mt_X11_alike ml_L_178 cl_X11 hg_0 (t_X11_alike hK h1) rfl rfl (Nat.le_of_ble_eq_true rfl) ⟨(Nat.le_of_ble_eq_true rfl), (Nat.le_of_ble_eq_true rfl)⟩ ⟨hk0, hn0⟩ dL_law_1245 ?_
  refine at_aload_n 2 dL_law_1248 rfl ?_
  refine at_aload_n 0 dL_law_1249 rfl ?_
  refine at_iload 4 dL_law_1250 rfl ?_
  refine at_iconst 1 dL_law_1252 rfl ?_
  refine at_iadd dL_law_1253 ?_
  refine at_scr hX hbb (hin 1 (by decide) (by decide)) dL_law_1254 ?_
  refine at_aload_n 0 dL_law_1255 rfl ?_
  refine at_iload 4 dL_law_1256 rfl ?_
  refine at_iconst 2 dL_law_1258 rfl ?_
  refine at_iadd dL_law_1259 ?_
  refine at_scr hX hbb (hin 2 (by decide) (by decide)) dL_law_1260 ?_
  refine at_callVi (st := [.int _]) hK mt_X12_alike ml_L_181 cl_X12 hg_38 (t_X12_alike hK h2) rfl rfl (Nat.le_of_ble_eq_true rfl) ⟨(Nat.le_of_ble_eq_true rfl), (Nat.le_of_ble_eq_true rfl)⟩ ⟨hk0, hn0⟩ dL_law_1261 ?_
  exact at_icmp_eq 1406 dL_law_1264 rfl (fun _ => hnx uG uN uD uR uF uP (r1.2) uT uA uM uH xA (r2.2.1) xC (r2.2.2) xE xF xG xH xI xJ xK xL uO G _ _ hI2 (Nat.le_succ _) (Nat.le_add_right _ _)) (fun c => absurd he c)
theorem lc_strong (hK : sx_Kk b K sa) (ho : LO_strong N I) (hI : I uG uN uD uR uF uP uL uT uA uM uH xA xB xC xD xE xF xG xH xI xJ xK xL) (hX : ∀ (U : State) (H : Heap), K U H → va_X bb L xs U H) (hbb : bb < b) (hin : ∀ j : Int32, 0 ≤ j → j ≤ 5 → vp_in (i + j) L) (hk : k + 1 ≤ room_1.cells) (hn : n + 14 ≤ room_1.slots) (hnx : L_next D b K bb i I k n) : sx_At D b K YL_law room_1 L_Q 1269 (L_lv b bb i) [] (sx_hp b uG uN uD uR uF uP uL uT uA uM uH xA xB xC xD xE xF xG xH xI xJ xK xL uO G) k n := by
  obtain ⟨r1, h1, r2, h2, he, hI2⟩ := ho uG uN uD uR uF uP uL uT uA uM uH xA xB xC xD xE xF xG xH xI xJ xK xL (xs (i + 1).toNatClampNeg) hI
  have hk0 : k ≤ room_1.cells := Nat.le_of_succ_le hk
  have hn0 : n ≤ room_1.slots := Nat.le_trans (Nat.le_add_right _ _) hn
  refine at_aload_n 1 dL_law_1269 rfl ?_
  refine at_aload_n 0 dL_law_1270 rfl ?_
  refine at_iload 4 dL_law_1271 rfl ?_
  refine at_iconst 1 dL_law_1273 rfl ?_
  refine at_iadd dL_law_1274 ?_
  refine at_scr hX hbb (hin 1 (by decide) (by decide)) dL_law_1275 ?_
  refine at_callVi (st := []) hK mt_X11_strong ml_L_182 cl_X11 hg_0 (t_X11_strong hK h1) rfl rfl (Nat.le_of_ble_eq_true rfl) ⟨(Nat.le_of_ble_eq_true rfl), (Nat.le_of_ble_eq_true rfl)⟩ ⟨hk0, hn0⟩ dL_law_1276 ?_
  refine at_aload_n 2 dL_law_1279 rfl ?_
  refine at_aload_n 0 dL_law_1280 rfl ?_
  refine at_iload 4 dL_law_1281 rfl ?_
  refine at_iconst 1 dL_law_1283 rfl ?_
  refine at_iadd dL_law_1284 ?_
  refine at_scr hX hbb (hin 1 (by decide) (by decide)) dL_law_1285 ?_
  refine at_callVQ (st := [.int _]) hK.1 mt_X12_strong.1 mt_X12_strong.2.1 mt_X12_strong.2.2 ml_L_185 cl_X12 hg_38 (t_X12_strong hK h2) rfl rfl (Nat.le_of_ble_eq_true rfl) ⟨(Nat.le_of_ble_eq_true rfl), (Nat.le_of_ble_eq_true rfl)⟩ ⟨hk, hn⟩ dL_law_1286 (fun v σ1 hv => ?_)
  obtain ⟨rfl, G1, rfl⟩ := hv
  exact at_icmp_eq 1406 dL_law_1289 rfl (fun _ => hnx uG uN uD uR uF uP (r1.2) uT uA uM uH xA (r2.2.1) xC (r2.2.2) xE xF xG xH xI xJ xK xL uO G1 _ _ hI2 (Nat.le_refl _) (Nat.le_refl _)) (fun c => absurd he c)
theorem lc_forests (hK : sx_Kk b K sa) (ho : LO_forests N I) (hI : I uG uN uD uR uF uP uL uT uA uM uH xA xB xC xD xE xF xG xH xI xJ xK xL) (hX : ∀ (U : State) (H : Heap), K U H → va_X bb L xs U H) (hbb : bb < b) (hin : ∀ j : Int32, 0 ≤ j → j ≤ 5 → vp_in (i + j) L) (hk : k + 1 ≤ room_1.cells) (hn : n + 14 ≤ room_1.slots) (hnx : L_next D b K bb i I k n) : sx_At D b K YL_law room_1 L_Q 1294 (L_lv b bb i) [] (sx_hp b uG uN uD uR uF uP uL uT uA uM uH xA xB xC xD xE xF xG xH xI xJ xK xL uO G) k n := by
  obtain ⟨r1, h1, r2, h2, he, hI2⟩ := ho uG uN uD uR uF uP uL uT uA uM uH xA xB xC xD xE xF xG xH xI xJ xK xL (xs (i + 1).toNatClampNeg) hI
  have hk0 : k ≤ room_1.cells := Nat.le_of_succ_le hk
  have hn0 : n ≤ room_1.slots := Nat.le_trans (Nat.le_add_right _ _) hn
  refine at_aload_n 1 dL_law_1294 rfl ?_
  refine at_aload_n 0 dL_law_1295 rfl ?_
  refine at_iload 4 dL_law_1296 rfl ?_
  refine at_iconst 1 dL_law_1298 rfl ?_
  refine at_iadd dL_law_1299 ?_
  refine at_scr hX hbb (hin 1 (by decide) (by decide)) dL_law_1300 ?_
  refine at_callVi (st := []) hK mt_X11_forests ml_L_186 cl_X11 hg_0 (t_X11_forests hK h1) rfl rfl (Nat.le_of_ble_eq_true rfl) ⟨(Nat.le_of_ble_eq_true rfl), (Nat.le_of_ble_eq_true rfl)⟩ ⟨hk0, hn0⟩ dL_law_1301 ?_
  refine at_aload_n 2 dL_law_1304 rfl ?_
  refine at_aload_n 0 dL_law_1305 rfl ?_
  refine at_iload 4 dL_law_1306 rfl ?_
  refine at_iconst 1 dL_law_1308 rfl ?_
  refine at_iadd dL_law_1309 ?_
  refine at_scr hX hbb (hin 1 (by decide) (by decide)) dL_law_1310 ?_
  refine at_callVi (st := [.int _]) hK mt_X12_forests ml_L_189 cl_X12 hg_38 (t_X12_forests hK h2) rfl rfl (Nat.le_of_ble_eq_true rfl) ⟨(Nat.le_of_ble_eq_true rfl), (Nat.le_of_ble_eq_true rfl)⟩ ⟨hk0, hn0⟩ dL_law_1311 ?_
  exact at_icmp_eq 1406 dL_law_1314 rfl (fun _ => hnx uG uN uD uR (r1.2) uP uL uT uA uM uH xA (r2.2.1) xC (r2.2.2.1) (r2.2.2.2.1) (r2.2.2.2.2.1) (r2.2.2.2.2.2) xH xI xJ xK xL uO G _ _ hI2 (Nat.le_succ _) (Nat.le_add_right _ _)) (fun c => absurd he c)
theorem lc_duel (hK : sx_Kk b K sa) (ho : LO_duel N I) (hI : I uG uN uD uR uF uP uL uT uA uM uH xA xB xC xD xE xF xG xH xI xJ xK xL) (hX : ∀ (U : State) (H : Heap), K U H → va_X bb L xs U H) (hbb : bb < b) (hin : ∀ j : Int32, 0 ≤ j → j ≤ 5 → vp_in (i + j) L) (hk : k + 1 ≤ room_1.cells) (hn : n + 14 ≤ room_1.slots) (hnx : L_next D b K bb i I k n) : sx_At D b K YL_law room_1 L_Q 1319 (L_lv b bb i) [] (sx_hp b uG uN uD uR uF uP uL uT uA uM uH xA xB xC xD xE xF xG xH xI xJ xK xL uO G) k n := by
  obtain ⟨r1, h1, r2, h2, he, hI2⟩ := ho uG uN uD uR uF uP uL uT uA uM uH xA xB xC xD xE xF xG xH xI xJ xK xL (xs (i + 1).toNatClampNeg) hI
  have hk0 : k ≤ room_1.cells := Nat.le_of_succ_le hk
  have hn0 : n ≤ room_1.slots := Nat.le_trans (Nat.le_add_right _ _) hn
  refine at_aload_n 1 dL_law_1319 rfl ?_
  refine at_aload_n 0 dL_law_1320 rfl ?_
  refine at_iload 4 dL_law_1321 rfl ?_
  refine at_iconst 1 dL_law_1323 rfl ?_
  refine at_iadd dL_law_1324 ?_
  refine at_scr hX hbb (hin 1 (by decide) (by decide)) dL_law_1325 ?_
  refine at_callVi (st := []) hK mt_X11_duel ml_L_190 cl_X11 hg_0 (t_X11_duel hK h1) rfl rfl (Nat.le_of_ble_eq_true rfl) ⟨(Nat.le_of_ble_eq_true rfl), (Nat.le_of_ble_eq_true rfl)⟩ ⟨hk0, hn0⟩ dL_law_1326 ?_
  refine at_aload_n 2 dL_law_1329 rfl ?_
  refine at_aload_n 0 dL_law_1330 rfl ?_
  refine at_iload 4 dL_law_1331 rfl ?_
  refine at_iconst 1 dL_law_1333 rfl ?_
  refine at_iadd dL_law_1334 ?_
  refine at_scr hX hbb (hin 1 (by decide) (by decide)) dL_law_1335 ?_
  refine at_callVi (st := [.int _]) hK mt_X12_duel ml_L_193 cl_X12 hg_38 (t_X12_duel hK h2) rfl rfl (Nat.le_of_ble_eq_true rfl) ⟨(Nat.le_of_ble_eq_true rfl), (Nat.le_of_ble_eq_true rfl)⟩ ⟨hk0, hn0⟩ dL_law_1336 ?_
  exact at_icmp_eq 1406 dL_law_1339 rfl (fun _ => hnx uG uN uD uR (r1.2.1) (r1.2.2.1) uL uT (r1.2.2.2) uM uH xA (r2.2.1) xC (r2.2.2.1) (r2.2.2.2.1) (r2.2.2.2.2.1) (r2.2.2.2.2.2.1) (r2.2.2.2.2.2.2.1) xI xJ xK (r2.2.2.2.2.2.2.2) uO G _ _ hI2 (Nat.le_succ _) (Nat.le_add_right _ _)) (fun c => absurd he c)
theorem lc_chance (hK : sx_Kk b K sa) (ho : LO_chance N I) (hI : I uG uN uD uR uF uP uL uT uA uM uH xA xB xC xD xE xF xG xH xI xJ xK xL) (hX : ∀ (U : State) (H : Heap), K U H → va_X bb L xs U H) (hbb : bb < b) (hin : ∀ j : Int32, 0 ≤ j → j ≤ 5 → vp_in (i + j) L) (hk : k + 1 ≤ room_1.cells) (hn : n + 14 ≤ room_1.slots) (hnx : L_next D b K bb i I k n) : sx_At D b K YL_law room_1 L_Q 1344 (L_lv b bb i) [] (sx_hp b uG uN uD uR uF uP uL uT uA uM uH xA xB xC xD xE xF xG xH xI xJ xK xL uO G) k n := by
  obtain ⟨r1, h1, r2, h2, he, hI2⟩ := ho uG uN uD uR uF uP uL uT uA uM uH xA xB xC xD xE xF xG xH xI xJ xK xL (xs (i + 1).toNatClampNeg) (xs (i + 2).toNatClampNeg) hI
  have hk0 : k ≤ room_1.cells := Nat.le_of_succ_le hk
  have hn0 : n ≤ room_1.slots := Nat.le_trans (Nat.le_add_right _ _) hn
  refine at_aload_n 1 dL_law_1344 rfl ?_
  refine at_aload_n 0 dL_law_1345 rfl ?_
  refine at_iload 4 dL_law_1346 rfl ?_
  refine at_iconst 1 dL_law_1348 rfl ?_
  refine at_iadd dL_law_1349 ?_
  refine at_scr hX hbb (hin 1 (by decide) (by decide)) dL_law_1350 ?_
  refine at_aload_n 0 dL_law_1351 rfl ?_
  refine at_iload 4 dL_law_1352 rfl ?_
  refine at_iconst 2 dL_law_1354 rfl ?_
  refine at_iadd dL_law_1355 ?_
  refine at_scr hX hbb (hin 2 (by decide) (by decide)) dL_law_1356 ?_
  refine at_callVi (st := []) hK mt_X11_chance ml_L_194 cl_X11 hg_0 (t_X11_chance hK h1) rfl rfl (Nat.le_of_ble_eq_true rfl) ⟨(Nat.le_of_ble_eq_true rfl), (Nat.le_of_ble_eq_true rfl)⟩ ⟨hk0, hn0⟩ dL_law_1357 ?_
  refine at_aload_n 2 dL_law_1360 rfl ?_
  refine at_aload_n 0 dL_law_1361 rfl ?_
  refine at_iload 4 dL_law_1362 rfl ?_
  refine at_iconst 1 dL_law_1364 rfl ?_
  refine at_iadd dL_law_1365 ?_
  refine at_scr hX hbb (hin 1 (by decide) (by decide)) dL_law_1366 ?_
  refine at_aload_n 0 dL_law_1367 rfl ?_
  refine at_iload 4 dL_law_1368 rfl ?_
  refine at_iconst 2 dL_law_1370 rfl ?_
  refine at_iadd dL_law_1371 ?_
  refine at_scr hX hbb (hin 2 (by decide) (by decide)) dL_law_1372 ?_
  refine at_callVi (st := [.int _]) hK mt_X12_chance ml_L_197 cl_X12 hg_38 (t_X12_chance hK h2) rfl rfl (Nat.le_of_ble_eq_true rfl) ⟨(Nat.le_of_ble_eq_true rfl), (Nat.le_of_ble_eq_true rfl)⟩ ⟨hk0, hn0⟩ dL_law_1373 ?_
  exact at_icmp_eq 1406 dL_law_1376 rfl (fun _ => hnx uG uN uD uR uF uP uL uT (r1.2) uM uH xA (r2.2.1) xC (r2.2.2.1) xE xF xG xH xI xJ xK (r2.2.2.2) uO G _ _ hI2 (Nat.le_succ _) (Nat.le_add_right _ _)) (fun c => absurd he c)
theorem lc_count (hK : sx_Kk b K sa) (ho : LO_count N I) (hI : I uG uN uD uR uF uP uL uT uA uM uH xA xB xC xD xE xF xG xH xI xJ xK xL) (hX : ∀ (U : State) (H : Heap), K U H → va_X bb L xs U H) (hbb : bb < b) (hin : ∀ j : Int32, 0 ≤ j → j ≤ 5 → vp_in (i + j) L) (hk : k + 1 ≤ room_1.cells) (hn : n + 14 ≤ room_1.slots) (hnx : L_next D b K bb i I k n) : sx_At D b K YL_law room_1 L_Q 1381 (L_lv b bb i) [] (sx_hp b uG uN uD uR uF uP uL uT uA uM uH xA xB xC xD xE xF xG xH xI xJ xK xL uO G) k n := by
  obtain ⟨r1, h1, r2, h2, he, hI2⟩ := ho uG uN uD uR uF uP uL uT uA uM uH xA xB xC xD xE xF xG xH xI xJ xK xL (xs (i + 1).toNatClampNeg) hI
  have hk0 : k ≤ room_1.cells := Nat.le_of_succ_le hk
  have hn0 : n ≤ room_1.slots := Nat.le_trans (Nat.le_add_right _ _) hn
  refine at_aload_n 1 dL_law_1381 rfl ?_
  refine at_aload_n 0 dL_law_1382 rfl ?_
  refine at_iload 4 dL_law_1383 rfl ?_
  refine at_iconst 1 dL_law_1385 rfl ?_
  refine at_iadd dL_law_1386 ?_
  refine at_scr hX hbb (hin 1 (by decide) (by decide)) dL_law_1387 ?_
  refine at_callVi (st := []) hK mt_X11_count ml_L_198 cl_X11 hg_0 (t_X11_count hK h1) rfl rfl (Nat.le_of_ble_eq_true rfl) ⟨(Nat.le_of_ble_eq_true rfl), (Nat.le_of_ble_eq_true rfl)⟩ ⟨hk0, hn0⟩ dL_law_1388 ?_
  refine at_aload_n 2 dL_law_1391 rfl ?_
  refine at_aload_n 0 dL_law_1392 rfl ?_
  refine at_iload 4 dL_law_1393 rfl ?_
  refine at_iconst 1 dL_law_1395 rfl ?_
  refine at_iadd dL_law_1396 ?_
  refine at_scr hX hbb (hin 1 (by decide) (by decide)) dL_law_1397 ?_
  refine at_callVi (st := [.int _]) hK mt_X12_count ml_L_201 cl_X12 hg_38 (t_X12_count hK h2) rfl rfl (Nat.le_of_ble_eq_true rfl) ⟨(Nat.le_of_ble_eq_true rfl), (Nat.le_of_ble_eq_true rfl)⟩ ⟨hk0, hn0⟩ dL_law_1398 ?_
  exact at_icmp_eq 1406 dL_law_1401 rfl (fun _ => hnx uG uN uD uR uF uP uL uT uA uM uH xA (r2.2) xC xD xE xF xG xH xI xJ xK xL uO G _ _ hI2 (Nat.le_succ _) (Nat.le_add_right _ _)) (fun c => absurd he c)
end
