/-! words: one list for all methods -/
def GW : List Cond := lw_tbl.filter goodWord
def nwWord : Cond → Bool
  | .castable .. | .declares _ | .fieldLinkNest .. | .methodLinkNest .. => true
  | _ => false
def NW : List Cond := lw_tbl.filter nwWord
theorem gw_of {i : Nat} {w : Cond} (h : lw_tbl[i]? = some w) (g : goodWord w = true) : w ∈ GW := List.mem_filter.mpr ⟨List.mem_of_getElem? h, g⟩
theorem nw_of {i : Nat} {w : Cond} (h : lw_tbl[i]? = some w) (g : nwWord w = true) : w ∈ NW := List.mem_filter.mpr ⟨List.mem_of_getElem? h, g⟩
theorem gw_good {w : Cond} (h : w ∈ GW) : (w.onTables && w.keeps) = true ∨ ∃ ty, w = .arrayClass ty := good_of_word (List.mem_filter.mp h).2
theorem gw_all : GoodIn GW GW := fun _ h => ⟨h, gw_good h⟩
