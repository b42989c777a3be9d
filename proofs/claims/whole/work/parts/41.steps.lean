def kS_row (P : jM → jM → Prop) : Prop := ∀ (a1 a2 : Int32) (Mx Mm : jM), P Mx Mm → ∃ (r : Int32) (Mx' : jM) (Mm' : jM), f_X5_row a1 a2 Mx = some (r, Mx') ∧ f_X6_row a1 a2 Mm = some (r, Mm') ∧ P Mx' Mm'
def kS_lay (P : jM → jM → Prop) : Prop := ∀ (a1 a2 a3 : Int32) (Mx Mm : jM), P Mx Mm → ∃ (r : Int32) (Mx' : jM) (Mm' : jM), f_X5_lay a1 a2 a3 Mx = some (r, Mx') ∧ f_X6_lay a1 a2 a3 Mm = some (r, Mm') ∧ P Mx' Mm'
def kS_at (P : jM → jM → Prop) : Prop := ∀ (a1 a2 : Int32) (Mx Mm : jM), P Mx Mm → ∃ (r : Int32) (Mx' : jM) (Mm' : jM), f_X5_at a1 a2 Mx = some (r, Mx') ∧ f_X6_at a1 a2 Mm = some (r, Mm') ∧ P Mx' Mm'
def kS_tear (P : jM → jM → Prop) : Prop := ∀ (a1 : Int32) (Mx Mm : jM), P Mx Mm → ∃ (r : Int32) (Mx' : jM) (Mm' : jM), f_X5_tear a1 Mx = some (r, Mx') ∧ f_X6_tear a1 Mm = some (r, Mm') ∧ P Mx' Mm'
def kS_copy (P : jM → jM → Prop) : Prop := ∀ (a1 a2 a3 a4 a5 : Int32) (Mx Mm : jM), P Mx Mm → ∃ (r : Int32) (Mx' : jM) (Mm' : jM), f_X5_copy a1 a2 a3 a4 a5 Mx = some (r, Mx') ∧ f_X6_copy a1 a2 a3 a4 a5 Mm = some (r, Mm') ∧ P Mx' Mm'
def kS_mean (P : jM → jM → Prop) : Prop := ∀ (a1 : Int32) (Mx Mm : jM), P Mx Mm → ∃ (r : Int32) (Mx' : jM) (Mm' : jM), f_X5_mean a1 Mx = some (r, Mx') ∧ f_X6_mean a1 Mm = some (r, Mm') ∧ P Mx' Mm'
def kS_text (P : jM → jM → Prop) : Prop := ∀ (a1 a2 : Int32) (Mx Mm : jM), P Mx Mm → ∃ (r : Int32) (Mx' : jM) (Mm' : jM), f_X5_text a1 a2 Mx = some (r, Mx') ∧ f_X6_text a1 a2 Mm = some (r, Mm') ∧ P Mx' Mm'
def kS_put (P : jM → jM → Prop) : Prop := ∀ (a1 a2 a3 : Int32) (Mx Mm : jM), P Mx Mm → ∃ (r : Int32) (Mx' : jM) (Mm' : jM), f_X5_put a1 a2 a3 Mx = some (r, Mx') ∧ f_X6_put a1 a2 a3 Mm = some (r, Mm') ∧ P Mx' Mm'
def kS_fault (P : jM → jM → Prop) : Prop := ∀ (a1 : Int32) (Mx Mm : jM), P Mx Mm → ∃ (r : Int32) (Mx' : jM) (Mm' : jM), f_X5_fault a1 Mx = some (r, Mx') ∧ f_X6_fault a1 Mm = some (r, Mm') ∧ P Mx' Mm'
def kS_house (P : jM → jM → Prop) : Prop := ∀ (a1 : Int32) (Mx Mm : jM), P Mx Mm → ∃ (r : Int32) (Mx' : jM) (Mm' : jM), f_X5_house a1 Mx = some (r, Mx') ∧ f_X6_house a1 Mm = some (r, Mm') ∧ P Mx' Mm'
def kS_deed (P : jM → jM → Prop) : Prop := ∀ (a1 a2 : Int32) (Mx Mm : jM), P Mx Mm → ∃ (r : Int32) (Mx' : jM) (Mm' : jM), f_X5_deed a1 a2 Mx = some (r, Mx') ∧ f_X6_deed a1 a2 Mm = some (r, Mm') ∧ P Mx' Mm'
def kS_hour (P : jM → jM → Prop) : Prop := ∀ (a1 a2 : Int32) (Mx Mm : jM), P Mx Mm → ∃ (r : Int32) (Mx' : jM) (Mm' : jM), f_X5_hour a1 a2 Mx = some (r, Mx') ∧ f_X6_hour a1 a2 Mm = some (r, Mm') ∧ P Mx' Mm'
def kS_mark (P : jM → jM → Prop) : Prop := ∀ (a1 a2 : Int32) (Mx Mm : jM), P Mx Mm → ∃ (r : Int32) (Mx' : jM) (Mm' : jM), f_X5_mark a1 a2 Mx = some (r, Mx') ∧ f_X6_mark a1 a2 Mm = some (r, Mm') ∧ P Mx' Mm'
def kS_route (P : jM → jM → Prop) : Prop := ∀ (a1 a2 : Int32) (Mx Mm : jM), P Mx Mm → ∃ (r : Int32) (Mx' : jM) (Mm' : jM), f_X5_route a1 a2 Mx = some (r, Mx') ∧ f_X6_route a1 a2 Mm = some (r, Mm') ∧ P Mx' Mm'
def kS_day (P : jM → jM → Prop) : Prop := ∀ (Mx Mm : jM), P Mx Mm → ∃ (r : Int32) (Mx' : jM) (Mm' : jM), f_X5_day  Mx = some (r, Mx') ∧ f_X6_day  Mm = some (r, Mm') ∧ P Mx' Mm'
def kS_open (P : jM → jM → Prop) : Prop := ∀ (a1 a2 : Int32) (Mx Mm : jM), P Mx Mm → ∃ (r : Int32) (Mx' : jM) (Mm' : jM), f_X5_open a1 a2 Mx = some (r, Mx') ∧ f_X6_open a1 a2 Mm = some (r, Mm') ∧ P Mx' Mm'
def kS_send (P : jM → jM → Prop) : Prop := ∀ (a1 : Int32) (Mx Mm : jM), P Mx Mm → ∃ (r : Int32) (Mx' : jM) (Mm' : jM), f_X5_send a1 Mx = some (r, Mx') ∧ f_X6_send a1 Mm = some (r, Mm') ∧ P Mx' Mm'
def kS_undo (P : jM → jM → Prop) : Prop := ∀ (a1 : Int32) (Mx Mm : jM), P Mx Mm → ∃ (r : Int32) (Mx' : jM) (Mm' : jM), f_X5_undo a1 Mx = some (r, Mx') ∧ f_X6_undo a1 Mm = some (r, Mm') ∧ P Mx' Mm'
def kS_shelf (P : jM → jM → Prop) : Prop := ∀ (Mx Mm : jM), P Mx Mm → ∃ (r : Int32) (Mx' : jM) (Mm' : jM), f_X5_shelf  Mx = some (r, Mx') ∧ f_X6_shelf  Mm = some (r, Mm') ∧ P Mx' Mm'
def kS_keep (P : jM → jM → Prop) : Prop := ∀ (a1 : Int32) (Mx Mm : jM), P Mx Mm → ∃ (r : Int32) (Mx' : jM) (Mm' : jM), f_X5_keep a1 Mx = some (r, Mx') ∧ f_X6_keep a1 Mm = some (r, Mm') ∧ P Mx' Mm'
def kS_on (P : jM → jM → Prop) : Prop := ∀ (a1 : Int32) (Mx Mm : jM), P Mx Mm → ∃ (r : Int32) (Mx' : jM) (Mm' : jM), f_X5_on a1 Mx = some (r, Mx') ∧ f_X6_on a1 Mm = some (r, Mm') ∧ P Mx' Mm'
def kS_can (P : jM → jM → Prop) : Prop := ∀ (a1 : Int32) (Mx Mm : jM), P Mx Mm → ∃ (r : Int32), f_X5_can a1 Mx = some r ∧ f_X6_can a1 Mm = some r
def kS_why (P : jM → jM → Prop) : Prop := ∀ (a1 a2 : Int32) (Mx Mm : jM), P Mx Mm → ∃ (r : Int32) (Mx' : jM) (Mm' : jM), f_X5_why a1 a2 Mx = some (r, Mx') ∧ f_X6_why a1 a2 Mm = some (r, Mm') ∧ P Mx' Mm'
def kS_opens (P : jM → jM → Prop) : Prop := ∀ (a1 : Int32) (Mx Mm : jM), P Mx Mm → ∃ (r : Int32) (Mx' : jM) (Mm' : jM), f_X5_opens a1 Mx = some (r, Mx') ∧ f_X6_opens a1 Mm = some (r, Mm') ∧ P Mx' Mm'
def kS_late (P : jM → jM → Prop) : Prop := ∀ (Mx Mm : jM), P Mx Mm → ∃ (r : Int32) (Mx' : jM) (Mm' : jM), f_X5_late  Mx = some (r, Mx') ∧ f_X6_late  Mm = some (r, Mm') ∧ P Mx' Mm'
def kS_run (P : jM → jM → Prop) : Prop := ∀ (a1 : Int32) (Mx Mm : jM), P Mx Mm → ∃ (r : Int32) (Mx' : jM) (Mm' : jM), f_X5_run a1 Mx = some (r, Mx') ∧ f_X6_run a1 Mm = some (r, Mm') ∧ P Mx' Mm'
def kS_most (P : jM → jM → Prop) : Prop := ∀ (Mx Mm : jM), P Mx Mm → ∃ (r : Int32) (Mx' : jM) (Mm' : jM), f_X5_most  Mx = some (r, Mx') ∧ f_X6_most  Mm = some (r, Mm') ∧ P Mx' Mm'
def kS_fewest (P : jM → jM → Prop) : Prop := ∀ (a1 : Int32) (Mx Mm : jM), P Mx Mm → ∃ (r : Int32) (Mx' : jM) (Mm' : jM), f_X5_fewest a1 Mx = some (r, Mx') ∧ f_X6_fewest a1 Mm = some (r, Mm') ∧ P Mx' Mm'
def kS_order (P : jM → jM → Prop) : Prop := ∀ (a1 a2 : Int32) (Mx Mm : jM), P Mx Mm → ∃ (r : Int32) (Mx' : jM) (Mm' : jM), f_X5_order a1 a2 Mx = some (r, Mx') ∧ f_X6_order a1 a2 Mm = some (r, Mm') ∧ P Mx' Mm'
def kS_shut (P : jM → jM → Prop) : Prop := ∀ (Mx Mm : jM), P Mx Mm → ∃ (r : Int32) (Mx' : jM) (Mm' : jM), f_X5_shut  Mx = some (r, Mx') ∧ f_X6_shut  Mm = some (r, Mm') ∧ P Mx' Mm'
def kS_waits (P : jM → jM → Prop) : Prop := ∀ (a1 : Int32) (Mx Mm : jM), P Mx Mm → ∃ (r : Int32) (Mx' : jM) (Mm' : jM), f_X5_waits a1 Mx = some (r, Mx') ∧ f_X6_waits a1 Mm = some (r, Mm') ∧ P Mx' Mm'
def kS_diary (P : jM → jM → Prop) : Prop := ∀ (a1 : Int32) (Mx Mm : jM), P Mx Mm → ∃ (r : Int32) (Mx' : jM) (Mm' : jM), f_X5_diary a1 Mx = some (r, Mx') ∧ f_X6_diary a1 Mm = some (r, Mm') ∧ P Mx' Mm'
def kS_forged (P : jM → jM → Prop) : Prop := ∀ (a1 : Int32) (Mx Mm : jM), P Mx Mm → ∃ (r : Int32) (Mx' : jM) (Mm' : jM), f_X5_forged a1 Mx = some (r, Mx') ∧ f_X6_forged a1 Mm = some (r, Mm') ∧ P Mx' Mm'
def kS_stolen (P : jM → jM → Prop) : Prop := ∀ (a1 a2 : Int32) (Mx Mm : jM), P Mx Mm → ∃ (r : Int32), f_X5_stolen a1 a2 Mx = some r ∧ f_X6_stolen a1 a2 Mm = some r
def kS_odds (P : jM → jM → Prop) : Prop := ∀ (a1 : Int32) (Mx Mm : jM), P Mx Mm → ∃ (r : Int32) (Mx' : jM) (Mm' : jM), f_X5_odds a1 Mx = some (r, Mx') ∧ f_X6_odds a1 Mm = some (r, Mm') ∧ P Mx' Mm'
def kS_lots (P : jM → jM → Prop) : Prop := ∀ (a1 a2 : Int32) (Mx Mm : jM), P Mx Mm → ∃ (r : Int32) (Mx' : jM) (Mm' : jM), f_X5_lots a1 a2 Mx = some (r, Mx') ∧ f_X6_lots a1 a2 Mm = some (r, Mm') ∧ P Mx' Mm'
def kS_asked (P : jM → jM → Prop) : Prop := ∀ (Mx Mm : jM), P Mx Mm → ∃ (r : Int32), f_X5_asked  Mx = some r ∧ f_X6_asked  Mm = some r
def kS_upper (P : jM → jM → Prop) : Prop := ∀ (Mx Mm : jM), P Mx Mm → ∃ (r : Int64), f_X5_upper  Mx = some r ∧ f_X6_upper  Mm = some r
def kS_lower (P : jM → jM → Prop) : Prop := ∀ (Mx Mm : jM), P Mx Mm → ∃ (r : Int64), f_X5_lower  Mx = some r ∧ f_X6_lower  Mm = some r
def kS_count (P : jM → jM → Prop) : Prop := ∀ (a1 : Int32) (Mx Mm : jM), P Mx Mm → ∃ (r : Int32), f_X5_count a1 Mx = some r ∧ f_X6_count a1 Mm = some r
def kS_finding (P : jM → jM → Prop) : Prop := ∀ (Mx Mm : jM), P Mx Mm → ∃ (r : Int32), f_X5_finding  Mx = some r ∧ f_X6_finding  Mm = some r
def kS_findings (P : jM → jM → Prop) : Prop := ∀ (a1 : Int32) (Mx Mm : jM), P Mx Mm → ∃ (r : Int32), f_X5_findings a1 Mx = some r ∧ f_X6_findings a1 Mm = some r
def kS_digest (P : jM → jM → Prop) : Prop := ∀ (Mx Mm : jM), P Mx Mm → ∃ (r : Int64) (Mm' : jM), f_X5_digest  Mx = some r ∧ f_X6_digest  Mm = some (r, Mm') ∧ P Mx Mm'
