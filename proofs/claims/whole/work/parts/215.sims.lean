/-! WHAT THE PURE LAYER OWES for each call: both answer alike and the relation holds on -/
def Sim_feed (RR : MSt → MSt → Prop) : Prop := ∀ (σ μ : MSt) (a0 : Int32) (a1 : Int32) (a2 : Int32) (a3 : Int32) (a4 : Int32), RR σ μ → ∃ r σ1 μ1, f_X11_feed a0 a1 a2 a3 a4 σ = some (r, σ1) ∧ f_X12_feed a0 a1 a2 a3 a4 μ = some (r, μ1) ∧ RR σ1 μ1
def Sim_text (RR : MSt → MSt → Prop) : Prop := ∀ (σ μ : MSt) (a0 : Int32), RR σ μ → ∃ r σ1 μ1, f_X11_text a0 σ = some (r, σ1) ∧ f_X12_text a0 μ = some (r, μ1) ∧ RR σ1 μ1
def Sim_fault (RR : MSt → MSt → Prop) : Prop := ∀ (σ μ : MSt) (a0 : Int32), RR σ μ → ∃ r σ1 μ1, f_X11_fault a0 σ = some (r, σ1) ∧ f_X12_fault a0 μ = some (r, μ1) ∧ RR σ1 μ1
def Sim_named (RR : MSt → MSt → Prop) : Prop := ∀ (σ μ : MSt) (a0 : Int32), RR σ μ → ∃ r σ1 μ1, f_X11_named a0 σ = some (r, σ1) ∧ f_X12_named a0 μ = some (r, μ1) ∧ RR σ1 μ1
def Sim_lane (RR : MSt → MSt → Prop) : Prop := ∀ (σ μ : MSt) (a0 : Int32) (a1 : Int32), RR σ μ → ∃ r σ1 μ1, f_X11_lane a0 a1 σ = some (r, σ1) ∧ f_X12_lane a0 a1 μ = some (r, μ1) ∧ RR σ1 μ1
def Sim_deed (RR : MSt → MSt → Prop) : Prop := ∀ (σ μ : MSt) (a0 : Int32) (a1 : Int32), RR σ μ → ∃ r σ1 μ1, f_X11_deed a0 a1 σ = some (r, σ1) ∧ f_X12_deed a0 a1 μ = some (r, μ1) ∧ RR σ1 μ1
def Sim_wind (RR : MSt → MSt → Prop) : Prop := ∀ (σ μ : MSt) (a0 : Int32), RR σ μ → ∃ r σ1 μ1, f_X11_wind a0 σ = some (r, σ1) ∧ f_X12_wind a0 μ = some (r, μ1) ∧ RR σ1 μ1
def Sim_mood (RR : MSt → MSt → Prop) : Prop := ∀ (σ μ : MSt) (a0 : Int32) (a1 : Int32), RR σ μ → ∃ r σ1 μ1, f_X11_mood a0 a1 σ = some (r, σ1) ∧ f_X12_mood a0 a1 μ = some (r, μ1) ∧ RR σ1 μ1
def Sim_holds (RR : MSt → MSt → Prop) : Prop := ∀ (σ μ : MSt) (a0 : Int32) (a1 : Int32), RR σ μ → ∃ r σ1 μ1, f_X11_holds a0 a1 σ = some (r, σ1) ∧ f_X12_holds a0 a1 μ = some (r, μ1) ∧ RR σ1 μ1
def Sim_law (RR : MSt → MSt → Prop) : Prop := ∀ (σ μ : MSt) (a0 : Int32) (a1 : Int32), RR σ μ → ∃ r σ1 μ1, f_X11_law a0 a1 σ = some (r, σ1) ∧ f_X12_law a0 a1 μ = some (r, μ1) ∧ RR σ1 μ1
def Sim_sail (RR : MSt → MSt → Prop) : Prop := ∀ (σ μ : MSt) (a0 : Int32), RR σ μ → ∃ r σ1 μ1, f_X11_sail a0 σ = some (r, σ1) ∧ f_X12_sail a0 μ = some (r, μ1) ∧ RR σ1 μ1
def Sim_kind (RR : MSt → MSt → Prop) : Prop := ∀ (σ μ : MSt) (a0 : Int32) (a1 : Int32), RR σ μ → ∃ r σ1 μ1, f_X11_kind a0 a1 σ = some (r, σ1) ∧ f_X12_kind a0 a1 μ = some (r, μ1) ∧ RR σ1 μ1
def Sim_copy (RR : MSt → MSt → Prop) : Prop := ∀ (σ μ : MSt) (a0 : Int32), (a0 = 0 ∨ a0 = 1) → RR σ μ → ∃ r σ1 μ1, f_X11_copy a0 σ = some (r, σ1) ∧ f_X12_copy a0 μ = some (r, μ1) ∧ RR σ1 μ1
def Sim_go (RR : MSt → MSt → Prop) : Prop := ∀ (σ μ : MSt) (a0 : Int32), RR σ μ → ∃ r σ1 μ1, f_X11_go a0 σ = some (r, σ1) ∧ f_X12_go a0 μ = some (r, μ1) ∧ RR σ1 μ1
def Sim_firstAdrift (RR : MSt → MSt → Prop) : Prop := ∀ (σ μ : MSt) (a0 : Int32), RR σ μ → ∃ r σ1 μ1, f_X11_firstAdrift a0 σ = some (r, σ1) ∧ f_X12_firstAdrift a0 μ = some (r, μ1) ∧ RR σ1 μ1
def Sim_way (RR : MSt → MSt → Prop) : Prop := ∀ (σ μ : MSt) (a0 : Int32) (a1 : Int32), RR σ μ → ∃ r σ1 μ1, f_X11_way a0 a1 σ = some (r, σ1) ∧ f_X12_way a0 a1 μ = some (r, μ1) ∧ RR σ1 μ1
def Sim_never (RR : MSt → MSt → Prop) : Prop := ∀ (σ μ : MSt) , RR σ μ → ∃ r σ1 μ1, f_X11_never  σ = some (r, σ1) ∧ f_X12_never  μ = some (r, μ1) ∧ RR σ1 μ1
def Sim_kindness (RR : MSt → MSt → Prop) : Prop := ∀ (σ μ : MSt) (a0 : Int32) (a1 : Int32), RR σ μ → ∃ r σ1 μ1, f_X11_kindness a0 a1 σ = some (r, σ1) ∧ f_X12_kindness a0 a1 μ = some (r, μ1) ∧ RR σ1 μ1
def Sim_winter (RR : MSt → MSt → Prop) : Prop := ∀ (σ μ : MSt) (a0 : Int32) (a1 : Int32), RR σ μ → ∃ r σ1 μ1, f_X11_winter a0 a1 σ = some (r, σ1) ∧ f_X12_winter a0 a1 μ = some (r, μ1) ∧ RR σ1 μ1
def Sim_copies (RR : MSt → MSt → Prop) : Prop := ∀ (σ μ : MSt) (a0 : Int32) (a1 : Int32), RR σ μ → ∃ r σ1 μ1, f_X11_copies a0 a1 σ = some (r, σ1) ∧ f_X12_copies a0 a1 μ = some (r, μ1) ∧ RR σ1 μ1
def Sim_bids (RR : MSt → MSt → Prop) : Prop := ∀ (σ μ : MSt) (a0 : Int32), RR σ μ → ∃ r σ1 μ1, f_X11_bids a0 σ = some (r, σ1) ∧ f_X12_bids a0 μ = some (r, μ1) ∧ RR σ1 μ1
def Sim_rests (RR : MSt → MSt → Prop) : Prop := ∀ (σ μ : MSt) (a0 : Int32), RR σ μ → ∃ r σ1 μ1, f_X11_rests a0 σ = some (r, σ1) ∧ f_X12_rests a0 μ = some (r, μ1) ∧ RR σ1 μ1
def Sim_rest (RR : MSt → MSt → Prop) : Prop := ∀ (σ μ : MSt) (a0 : Int32) (a1 : Int32), RR σ μ → ∃ r σ1 μ1, f_X11_rest a0 a1 σ = some (r, σ1) ∧ f_X12_rest a0 a1 μ = some (r, μ1) ∧ RR σ1 μ1
def Sim_note (RR : MSt → MSt → Prop) : Prop := ∀ (σ μ : MSt) (a0 : Int32) (a1 : Int32) (a2 : Int32), (a2 = 0 ∨ a2 = 1) → RR σ μ → ∃ r σ1 μ1, f_X11_note a0 a1 a2 σ = some (r, σ1) ∧ f_X12_note a0 a1 a2 μ = some (r, μ1) ∧ RR σ1 μ1
def Sim_out (RR : MSt → MSt → Prop) : Prop := ∀ (σ μ : MSt) (a0 : Int32), RR σ μ → ∃ r σ1 μ1, f_X11_out a0 σ = some (r, σ1) ∧ f_X12_out a0 μ = some (r, μ1) ∧ RR σ1 μ1
def Sim_known (RR : MSt → MSt → Prop) : Prop := ∀ (σ μ : MSt) (a0 : Int32), RR σ μ → ∃ r σ1 μ1, f_X11_known a0 σ = some (r, σ1) ∧ f_X12_known a0 μ = some (r, μ1) ∧ RR σ1 μ1
def Sim_was (RR : MSt → MSt → Prop) : Prop := ∀ (σ μ : MSt) (a0 : Int32), RR σ μ → ∃ r σ1 μ1, f_X11_was a0 σ = some (r, σ1) ∧ f_X12_was a0 μ = some (r, μ1) ∧ RR σ1 μ1
def Sim_tells (RR : MSt → MSt → Prop) : Prop := ∀ (σ μ : MSt) (a0 : Int32), RR σ μ → ∃ r σ1 μ1, f_X11_tells a0 σ = some (r, σ1) ∧ f_X12_tells a0 μ = some (r, μ1) ∧ RR σ1 μ1
def Sim_chance (RR : MSt → MSt → Prop) : Prop := ∀ (σ μ : MSt) (a0 : Int32) (a1 : Int32) (a2 : Int32), RR σ μ → ∃ r σ1 μ1, f_X11_chance a0 a1 a2 σ = some (r, σ1) ∧ f_X12_chance a0 a1 a2 μ = some (r, μ1) ∧ RR σ1 μ1
def Sim_tried (RR : MSt → MSt → Prop) : Prop := ∀ (σ μ : MSt) (a0 : Int32) (a1 : Int32) (a2 : Int32), RR σ μ → ∃ r σ1 μ1, f_X11_tried a0 a1 a2 σ = some (r, σ1) ∧ f_X12_tried a0 a1 a2 μ = some (r, μ1) ∧ RR σ1 μ1
def Sim_undo (RR : MSt → MSt → Prop) : Prop := ∀ (σ μ : MSt) , RR σ μ → ∃ r σ1 μ1, f_X11_undo  σ = some (r, σ1) ∧ f_X12_undo  μ = some (r, μ1) ∧ RR σ1 μ1
def Sim_keep (RR : MSt → MSt → Prop) : Prop := ∀ (σ μ : MSt) , RR σ μ → ∃ r σ1 μ1, f_X11_keep  σ = some (r, σ1) ∧ f_X12_keep  μ = some (r, μ1) ∧ RR σ1 μ1
def Sim_back (RR : MSt → MSt → Prop) : Prop := ∀ (σ μ : MSt) , RR σ μ → ∃ r σ1 μ1, f_X11_back  σ = some (r, σ1) ∧ f_X12_back  μ = some (r, μ1) ∧ RR σ1 μ1
def Sim_count (RR : MSt → MSt → Prop) : Prop := ∀ (σ μ : MSt) (a0 : Int32), RR σ μ → ∃ r σ1 μ1, f_X11_count a0 σ = some (r, σ1) ∧ f_X12_count a0 μ = some (r, μ1) ∧ RR σ1 μ1
