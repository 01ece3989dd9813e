/-! the words that a callee may be given; the classes and their fields -/
def lh_T : List Cond := lw_tbl.filter goodWord
def lh_mem (w : Cond) : Bool := decide (w ∈ lw_tbl) && goodWord w
theorem lh_mem_T {w : Cond} (h : lh_mem w = true) : w ∈ lh_T := by
  simp only [lh_mem, Bool.and_eq_true, decide_eq_true_eq] at h
  exact List.mem_filter.mpr ⟨h.1, h.2⟩
theorem lh_T_good {w : Cond} (h : w ∈ lh_T) : goodWord w = true := (List.mem_filter.mp h).2
theorem lh_T_tbl {w : Cond} (h : w ∈ lh_T) : w ∈ lw_tbl := (List.mem_filter.mp h).1
theorem lh_code_T {w : Cond} (i : Nat) (h : lw_tbl[i]? = some w) (hg : goodWord w = true) : w ∈ lh_T := List.mem_filter.mpr ⟨List.mem_of_getElem? h, hg⟩
def lh_fd : List (List (String × String × String × Bool)) := [
  [("LanternHall$Hall", "law", "LLanternHall$Law;", true), ("LanternHall$Hall", "kinds", "[I", true), ("LanternHall$Hall", "days", "[I", true), ("LanternHall$Hall", "hoursTold", "[I", true), ("LanternHall$Hall", "places", "[I", true), ("LanternHall$Hall", "vaseCells", "[I", true), ("LanternHall$Hall", "fellowCells", "[I", true), ("LanternHall$Hall", "lights", "[I", true), ("LanternHall$Hall", "daysShown", "[I", true), ("LanternHall$Hall", "cells", "I", false), ("LanternHall$Hall", "pillars", "I", false), ("LanternHall$Hall", "visitors", "I", false), ("LanternHall$Hall", "vases", "I", false), ("LanternHall$Hall", "beam", "I", false), ("LanternHall$Hall", "oil", "I", false), ("LanternHall$Hall", "guard", "I", false), ("LanternHall$Hall", "fellows", "I", false)],
  [("LanternHall$HallReader", "reader", "LLanternHall$Reader;", true), ("LanternHall$HallReader", "hall", "LLanternHall$Hall;", true), ("LanternHall$HallReader", "names", "[J", true), ("LanternHall$HallReader", "named", "I", false), ("LanternHall$HallReader", "toldWords", "I", false)],
  [("LanternHall$Law", "code", "[I", true), ("LanternHall$Law", "stack", "[I", true), ("LanternHall$Law", "length", "I", false)],
  [("LanternHall$Mark", "moment", "LLanternHall$Moment;", true), ("LanternHall$Mark", "laid", "Z", false), ("LanternHall$Mark", "said", "I", false), ("LanternHall$Mark", "saidDays", "I", false)],
  [("LanternHall$Moment", "cell", "I", false), ("LanternHall$Moment", "hour", "I", false), ("LanternHall$Moment", "day", "I", false), ("LanternHall$Moment", "oil", "I", false), ("LanternHall$Moment", "steps", "I", false), ("LanternHall$Moment", "bumps", "I", false), ("LanternHall$Moment", "seen", "I", false)],
  [("LanternHall$Night", "acts", "[I", true), ("LanternHall$Night", "amounts", "[I", true), ("LanternHall$Night", "lines", "I", false), ("LanternHall$Night", "firstFailed", "I", false), ("LanternHall$Night", "firstBump", "I", false)],
  [("LanternHall$Reader", "tape", "[C", true), ("LanternHall$Reader", "knownLetters", "[J", true), ("LanternHall$Reader", "length", "I", false), ("LanternHall$Reader", "next", "I", false), ("LanternHall$Reader", "token", "I", false), ("LanternHall$Reader", "place", "I", false), ("LanternHall$Reader", "number", "I", false), ("LanternHall$Reader", "letters", "J", false), ("LanternHall$Reader", "fault", "I", false)],
  [("LanternHall$Walks", "seenSets", "[J", true), ("LanternHall$Walks", "nextSets", "[J", true)],
  [("LanternHall", "reader", "LLanternHall$Reader;", true), ("LanternHall", "walks", "LLanternHall$Walks;", true), ("LanternHall", "now", "LLanternHall$Moment;", true), ("LanternHall", "trial", "LLanternHall$Moment;", true), ("LanternHall", "past", "[LLanternHall$Moment;", true), ("LanternHall", "marks", "[LLanternHall$Mark;", true), ("LanternHall", "hall", "LLanternHall$Hall;", false), ("LanternHall", "spareHall", "LLanternHall$Hall;", false), ("LanternHall", "night", "LLanternHall$Night;", false), ("LanternHall", "spareNight", "LLanternHall$Night;", false), ("LanternHall", "pastEnd", "I", false), ("LanternHall", "pastCount", "I", false), ("LanternHall", "said", "I", false), ("LanternHall", "saidDays", "I", false)],
  [("LanternHallModel", "thrown", "I", false), ("LanternHallModel", "tape", "[I", true), ("LanternHallModel", "taped", "I", false), ("LanternHallModel", "size", "I", false), ("LanternHallModel", "sort", "[I", true), ("LanternHallModel", "place", "[I", true), ("LanternHallModel", "value", "[J", true), ("LanternHallModel", "at", "I", false), ("LanternHallModel", "fault", "I", false), ("LanternHallModel", "words", "[J", true), ("LanternHallModel", "halls", "[I", true), ("LanternHallModel", "op", "[I", true), ("LanternHallModel", "arg", "[I", true), ("LanternHallModel", "codes", "I", false), ("LanternHallModel", "readNames", "[J", true), ("LanternHallModel", "readMany", "I", false), ("LanternHallModel", "once", "I", false), ("LanternHallModel", "lines", "[I", true), ("LanternHallModel", "facts", "[I", true), ("LanternHallModel", "pile", "[I", true), ("LanternHallModel", "state", "[I", true), ("LanternHallModel", "undos", "I", false), ("LanternHallModel", "isMarked", "[Z", true), ("LanternHallModel", "reached", "[J", true), ("LanternHallModel", "g", "J", false)]]
def lh_tags : List (List Nat) := [[2, 2, 2, 2, 2, 2, 2, 2, 2, 0, 0, 0, 0, 0, 0, 0, 0], [2, 2, 2, 0, 0], [2, 2, 0], [2, 3, 0, 0], [0, 0, 0, 0, 0, 0, 0], [2, 2, 0, 0, 0], [2, 2, 0, 0, 0, 0, 0, 1, 0], [2, 2], [2, 2, 2, 2, 2, 2, 2, 2, 2, 2, 0, 0, 0, 0], [0, 2, 0, 0, 2, 2, 2, 0, 0, 2, 2, 2, 2, 0, 2, 0, 0, 2, 2, 2, 2, 0, 2, 2, 1]]
def lh_tag (ci k : Nat) : Nat := (lh_tags.getD ci []).getD k 0
def lh_Tt (ci : Nat) : u_T := fun k => (lh_fd.getD ci []).getD k ("", "", "", false)
def lh_cls : List vw_C := [("LanternHall$Hall", lh_Tt 0, 17), ("LanternHall$HallReader", lh_Tt 1, 5), ("LanternHall$Law", lh_Tt 2, 3), ("LanternHall$Mark", lh_Tt 3, 4), ("LanternHall$Moment", lh_Tt 4, 7), ("LanternHall$Night", lh_Tt 5, 5), ("LanternHall$Reader", lh_Tt 6, 9), ("LanternHall$Walks", lh_Tt 7, 2), ("LanternHall", lh_Tt 8, 14), ("LanternHallModel", lh_Tt 9, 25)]
theorem lh_layb : (lh_cls.all fun r => (u_ws r.1 r.2.1 r.2.2).all lh_mem) = true := by decide +kernel
theorem lh_tyb : (lh_cls.all fun r => (List.range r.2.2).all fun k => (parseFieldDescriptor (r.2.1 k).2.2.1).isSome) = true := by decide +kernel
theorem lh_nmb : (lh_cls.all fun r => (List.range r.2.2).all fun a => (List.range r.2.2).all fun b => decide (a = b) || !(decide ((r.2.1 a).2.1 = (r.2.1 b).2.1))) = true := by decide +kernel
theorem lh_dcb : (lh_cls.all fun r => (List.range r.2.2).all fun a => decide ((r.2.1 a).1 = r.1)) = true := by decide +kernel
def lh_isR : FieldType → Bool
  | .object _ => true
  | .array _ => true
  | _ => false
def lh_tgok (t : Nat) (ty : Option FieldType) : Bool := match t, ty with
  | 0, some .int => true
  | 1, some .long => true
  | 2, some ty => lh_isR ty
  | 3, some .boolean => true
  | _, _ => false
theorem lh_tgb : ((List.range 10).all fun ci => (List.range ((lh_fd.getD ci []).length)).all fun k => lh_tgok (lh_tag ci k) (parseFieldDescriptor (lh_Tt ci k).2.2.1)) = true := by decide +kernel
theorem lh_nfb : ((List.range 10).all fun ci => decide ((lh_cls[ci]?).map (fun r => r.2.2) = some ((lh_fd.getD ci []).length))) = true := by decide +kernel
