/-! the words that stay good over calls; the nest mates' words -/
def tg_ : List Cond := lw_tbl.filter goodWord
def isN_ : Cond → Bool
  | .fieldLinkNest .. => true
  | .methodLinkNest .. => true
  | _ => false
def nw_ : List Cond := lw_tbl.filter isN_
