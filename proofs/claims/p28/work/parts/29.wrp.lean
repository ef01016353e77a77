/-! ===== a call with its exceptions as numbers ===== -/
def wrp {α : Type} (ks : List Nat) (mk : α → T8) (ou : Nat → Int64) : Option ((Nat × α) ⊕ (Int32 × α)) → Option (Int32 × T8 × (Nat → Int64))
  | some (.inl (k, r)) => if ks[0]? = some k then some (1, mk r, ou) else if ks[1]? = some k then some (2, mk r, ou) else none
  | some (.inr (v, r)) => some (0, mk r, vp_updL ou 0 v.toInt64)
  | none => none
def wrpU (ks : List Nat) (w : T8) (ou : Nat → Int64) : Option (Nat ⊕ Int32) → Option (Int32 × T8 × (Nat → Int64))
  | some (.inl k) => if ks[0]? = some k then some (1, w, ou) else if ks[1]? = some k then some (2, w, ou) else none
  | some (.inr v) => some (0, w, vp_updL ou 0 v.toInt64)
  | none => none
def f_L_append (w0 : T8) (a1 : Int32) (ou : Nat → Int64) : Option (Int32 × T8 × (Nat → Int64)) := wrp [0, 1] (fun r => (r, w0.2.1, (w0.2.2.1.1, w0.2.2.1.2.1, w0.2.2.1.2.2), w0.2.2.2.1, w0.2.2.2.2)) ou (f_X8_append w0 a1)
def f_L_setWays (w0 : T8) (a1 : Int32) (a2 : Int32) (ou : Nat → Int64) : Option (Int32 × T8 × (Nat → Int64)) := wrp [0] (fun r => (w0.1, w0.2.1, (w0.2.2.1.1, w0.2.2.1.2.1, r.1), r.2, w0.2.2.2.2)) ou (f_X8_setWays w0 a1 a2)
def f_L_word (w0 : T8) (a1 : Int32) (a2 : Int32) (ou : Nat → Int64) : Option (Int32 × T8 × (Nat → Int64)) := wrpU [2, 0] w0 ou (f_X8_word w0 a1 a2)
def f_L_letter (w0 : T8) (a1 : Int32) (a2 : Int32) (ou : Nat → Int64) : Option (Int32 × T8 × (Nat → Int64)) := wrpU [2] w0 ou (f_X8_letter w0 a1 a2)
def f_L_press (w0 : T8) (a1 : Int32) (ou : Nat → Int64) : Option (Int32 × T8 × (Nat → Int64)) := wrp [0, 1] (fun r => (w0.1, w0.2.1, (w0.2.2.1.1, w0.2.2.1.2.1, r.1), r.2, w0.2.2.2.2)) ou (f_X8_press w0 a1)
def f_L_next (w0 : T8)  (ou : Nat → Int64) : Option (Int32 × T8 × (Nat → Int64)) := wrp [1] (fun r => (w0.1, w0.2.1, (w0.2.2.1.1, w0.2.2.1.2.1, r.1), r.2.1, r.2.2)) ou (f_X8_next w0)
def f_L_erase (w0 : T8)  (ou : Nat → Int64) : Option (Int32 × T8 × (Nat → Int64)) := wrp [1] (fun r => (w0.1, w0.2.1, (w0.2.2.1.1, r.2.1, r.1), r.2.2, w0.2.2.2.2)) ou (f_X8_erase w0)
def f_L_accept (w0 : T8)  (ou : Nat → Int64) : Option (Int32 × T8 × (Nat → Int64)) := wrp [1] (fun r => (w0.1, w0.2.1, (r.2.1, r.2.2.1, r.1), r.2.2.2.1, r.2.2.2.2)) ou (f_X8_accept w0)
def f_L_open (w0 : T8) (a1 : Int32) (ou : Nat → Int64) : Option (Int32 × T8 × (Nat → Int64)) := wrp [2, 1] (fun r => (w0.1, w0.2.1, (w0.2.2.1.1, w0.2.2.1.2.1, r.1), r.2, w0.2.2.2.2)) ou (f_X8_open w0 a1)
def f_L_setting (w0 : T8) (a1 : Int32) (ou : Nat → Int64) : Option (Int32 × T8 × (Nat → Int64)) := wrp [0] (fun r => (w0.1, w0.2.1, (w0.2.2.1.1, w0.2.2.1.2.1, w0.2.2.1.2.2), w0.2.2.2.1, r)) ou (f_X8_setting w0 a1)
def f_L_display (w0 : T8) (a1 : Int32) (ou : Nat → Int64) : Option (Int32 × T8 × (Nat → Int64)) := wrp [0] (fun r => (w0.1, w0.2.1, (w0.2.2.1.1, w0.2.2.1.2.1, w0.2.2.1.2.2), w0.2.2.2.1, r)) ou (f_X8_display w0 a1)
def f_L_candidate (w0 : T8) (a1 : Int32) (ou : Nat → Int64) : Option (Int32 × T8 × (Nat → Int64)) := wrp [2] (fun r => (w0.1, w0.2.1, (w0.2.2.1.1, w0.2.2.1.2.1, w0.2.2.1.2.2), w0.2.2.2.1, r)) ou (f_X8_candidate w0 a1)
def f_L_written (w0 : T8) (a1 : Int32) (a2 : Int32) (ou : Nat → Int64) : Option (Int32 × T8 × (Nat → Int64)) := wrpU [2] w0 ou (f_X8_written w0 a1 a2)
def f_L_steps (w0 : T8) (a1 : Int32) (ou : Nat → Int64) : Option (Int32 × T8 × (Nat → Int64)) := wrpU [2] w0 ou (f_X8_steps w0 a1)
def f_L_presses (w0 : T8) (a1 : Int32) (a2 : Int32) (ou : Nat → Int64) : Option (Int32 × T8 × (Nat → Int64)) := wrpU [2] w0 ou (f_X8_presses w0 a1 a2)
def f_L_shortest (w0 : T8) (a1 : Int32) (ou : Nat → Int64) : Option (Int32 × T8 × (Nat → Int64)) := wrpU [2] w0 ou (f_X8_shortest w0 a1)
def f_L_undo (w0 : T8)  (ou : Nat → Int64) : Option (Int32 × T8 × (Nat → Int64)) := wrp [1] (fun r => (w0.1, w0.2.1, (r.2.1, r.2.2.1, r.1), r.2.2.2, w0.2.2.2.2)) ou (f_X8_undo w0)
