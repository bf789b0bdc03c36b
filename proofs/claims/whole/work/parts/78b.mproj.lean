/-! PURE: what the reference holds after a write. -/
theorem q_nodes_nodes (τ : MPS) (v : Int32) : mp_nodes (ms_nodes τ v) = v := rfl
theorem q_isElement_nodes (τ : MPS) (v : Int32) : mp_isElement (ms_nodes τ v) = mp_isElement τ := rfl
theorem q_begins_nodes (τ : MPS) (v : Int32) : mp_begins (ms_nodes τ v) = mp_begins τ := rfl
theorem q_ends_nodes (τ : MPS) (v : Int32) : mp_ends (ms_nodes τ v) = mp_ends τ := rfl
theorem q_up_nodes (τ : MPS) (v : Int32) : mp_up (ms_nodes τ v) = mp_up τ := rfl
theorem q_depth_nodes (τ : MPS) (v : Int32) : mp_depth (ms_nodes τ v) = mp_depth τ := rfl
theorem q_first_nodes (τ : MPS) (v : Int32) : mp_first (ms_nodes τ v) = mp_first τ := rfl
theorem q_next_nodes (τ : MPS) (v : Int32) : mp_next (ms_nodes τ v) = mp_next τ := rfl
theorem q_last_nodes (τ : MPS) (v : Int32) : mp_last (ms_nodes τ v) = mp_last τ := rfl
theorem q_openAt_nodes (τ : MPS) (v : Int32) : mp_openAt (ms_nodes τ v) = mp_openAt τ := rfl
theorem q_openMany_nodes (τ : MPS) (v : Int32) : mp_openMany (ms_nodes τ v) = mp_openMany τ := rfl
theorem q_openNode_nodes (τ : MPS) (v : Int32) : mp_openNode (ms_nodes τ v) = mp_openNode τ := rfl
theorem q_deep_nodes (τ : MPS) (v : Int32) : mp_deep (ms_nodes τ v) = mp_deep τ := rfl
theorem q_elements_nodes (τ : MPS) (v : Int32) : mp_elements (ms_nodes τ v) = mp_elements τ := rfl
theorem q_at_nodes (τ : MPS) (v : Int32) : mp_at (ms_nodes τ v) = mp_at τ := rfl
theorem q_bad_nodes (τ : MPS) (v : Int32) : mp_bad (ms_nodes τ v) = mp_bad τ := rfl
theorem q_size_nodes (τ : MPS) (v : Int32) : mp_size (ms_nodes τ v) = mp_size τ := rfl
theorem q_text_nodes (τ : MPS) (v : Int32) : mp_text (ms_nodes τ v) = mp_text τ := rfl
theorem q_nodes_isElement (τ : MPS) (v : Nat → Int32) : mp_nodes (ms_isElement τ v) = mp_nodes τ := rfl
theorem q_isElement_isElement (τ : MPS) (v : Nat → Int32) : mp_isElement (ms_isElement τ v) = v := rfl
theorem q_begins_isElement (τ : MPS) (v : Nat → Int32) : mp_begins (ms_isElement τ v) = mp_begins τ := rfl
theorem q_ends_isElement (τ : MPS) (v : Nat → Int32) : mp_ends (ms_isElement τ v) = mp_ends τ := rfl
theorem q_up_isElement (τ : MPS) (v : Nat → Int32) : mp_up (ms_isElement τ v) = mp_up τ := rfl
theorem q_depth_isElement (τ : MPS) (v : Nat → Int32) : mp_depth (ms_isElement τ v) = mp_depth τ := rfl
theorem q_first_isElement (τ : MPS) (v : Nat → Int32) : mp_first (ms_isElement τ v) = mp_first τ := rfl
theorem q_next_isElement (τ : MPS) (v : Nat → Int32) : mp_next (ms_isElement τ v) = mp_next τ := rfl
theorem q_last_isElement (τ : MPS) (v : Nat → Int32) : mp_last (ms_isElement τ v) = mp_last τ := rfl
theorem q_openAt_isElement (τ : MPS) (v : Nat → Int32) : mp_openAt (ms_isElement τ v) = mp_openAt τ := rfl
theorem q_openMany_isElement (τ : MPS) (v : Nat → Int32) : mp_openMany (ms_isElement τ v) = mp_openMany τ := rfl
theorem q_openNode_isElement (τ : MPS) (v : Nat → Int32) : mp_openNode (ms_isElement τ v) = mp_openNode τ := rfl
theorem q_deep_isElement (τ : MPS) (v : Nat → Int32) : mp_deep (ms_isElement τ v) = mp_deep τ := rfl
theorem q_elements_isElement (τ : MPS) (v : Nat → Int32) : mp_elements (ms_isElement τ v) = mp_elements τ := rfl
theorem q_at_isElement (τ : MPS) (v : Nat → Int32) : mp_at (ms_isElement τ v) = mp_at τ := rfl
theorem q_bad_isElement (τ : MPS) (v : Nat → Int32) : mp_bad (ms_isElement τ v) = mp_bad τ := rfl
theorem q_size_isElement (τ : MPS) (v : Nat → Int32) : mp_size (ms_isElement τ v) = mp_size τ := rfl
theorem q_text_isElement (τ : MPS) (v : Nat → Int32) : mp_text (ms_isElement τ v) = mp_text τ := rfl
theorem q_nodes_begins (τ : MPS) (v : Nat → Int32) : mp_nodes (ms_begins τ v) = mp_nodes τ := rfl
theorem q_isElement_begins (τ : MPS) (v : Nat → Int32) : mp_isElement (ms_begins τ v) = mp_isElement τ := rfl
theorem q_begins_begins (τ : MPS) (v : Nat → Int32) : mp_begins (ms_begins τ v) = v := rfl
theorem q_ends_begins (τ : MPS) (v : Nat → Int32) : mp_ends (ms_begins τ v) = mp_ends τ := rfl
theorem q_up_begins (τ : MPS) (v : Nat → Int32) : mp_up (ms_begins τ v) = mp_up τ := rfl
theorem q_depth_begins (τ : MPS) (v : Nat → Int32) : mp_depth (ms_begins τ v) = mp_depth τ := rfl
theorem q_first_begins (τ : MPS) (v : Nat → Int32) : mp_first (ms_begins τ v) = mp_first τ := rfl
theorem q_next_begins (τ : MPS) (v : Nat → Int32) : mp_next (ms_begins τ v) = mp_next τ := rfl
theorem q_last_begins (τ : MPS) (v : Nat → Int32) : mp_last (ms_begins τ v) = mp_last τ := rfl
theorem q_openAt_begins (τ : MPS) (v : Nat → Int32) : mp_openAt (ms_begins τ v) = mp_openAt τ := rfl
theorem q_openMany_begins (τ : MPS) (v : Nat → Int32) : mp_openMany (ms_begins τ v) = mp_openMany τ := rfl
theorem q_openNode_begins (τ : MPS) (v : Nat → Int32) : mp_openNode (ms_begins τ v) = mp_openNode τ := rfl
theorem q_deep_begins (τ : MPS) (v : Nat → Int32) : mp_deep (ms_begins τ v) = mp_deep τ := rfl
theorem q_elements_begins (τ : MPS) (v : Nat → Int32) : mp_elements (ms_begins τ v) = mp_elements τ := rfl
theorem q_at_begins (τ : MPS) (v : Nat → Int32) : mp_at (ms_begins τ v) = mp_at τ := rfl
theorem q_bad_begins (τ : MPS) (v : Nat → Int32) : mp_bad (ms_begins τ v) = mp_bad τ := rfl
theorem q_size_begins (τ : MPS) (v : Nat → Int32) : mp_size (ms_begins τ v) = mp_size τ := rfl
theorem q_text_begins (τ : MPS) (v : Nat → Int32) : mp_text (ms_begins τ v) = mp_text τ := rfl
theorem q_nodes_ends (τ : MPS) (v : Nat → Int32) : mp_nodes (ms_ends τ v) = mp_nodes τ := rfl
theorem q_isElement_ends (τ : MPS) (v : Nat → Int32) : mp_isElement (ms_ends τ v) = mp_isElement τ := rfl
theorem q_begins_ends (τ : MPS) (v : Nat → Int32) : mp_begins (ms_ends τ v) = mp_begins τ := rfl
theorem q_ends_ends (τ : MPS) (v : Nat → Int32) : mp_ends (ms_ends τ v) = v := rfl
theorem q_up_ends (τ : MPS) (v : Nat → Int32) : mp_up (ms_ends τ v) = mp_up τ := rfl
theorem q_depth_ends (τ : MPS) (v : Nat → Int32) : mp_depth (ms_ends τ v) = mp_depth τ := rfl
theorem q_first_ends (τ : MPS) (v : Nat → Int32) : mp_first (ms_ends τ v) = mp_first τ := rfl
theorem q_next_ends (τ : MPS) (v : Nat → Int32) : mp_next (ms_ends τ v) = mp_next τ := rfl
theorem q_last_ends (τ : MPS) (v : Nat → Int32) : mp_last (ms_ends τ v) = mp_last τ := rfl
theorem q_openAt_ends (τ : MPS) (v : Nat → Int32) : mp_openAt (ms_ends τ v) = mp_openAt τ := rfl
theorem q_openMany_ends (τ : MPS) (v : Nat → Int32) : mp_openMany (ms_ends τ v) = mp_openMany τ := rfl
theorem q_openNode_ends (τ : MPS) (v : Nat → Int32) : mp_openNode (ms_ends τ v) = mp_openNode τ := rfl
theorem q_deep_ends (τ : MPS) (v : Nat → Int32) : mp_deep (ms_ends τ v) = mp_deep τ := rfl
theorem q_elements_ends (τ : MPS) (v : Nat → Int32) : mp_elements (ms_ends τ v) = mp_elements τ := rfl
theorem q_at_ends (τ : MPS) (v : Nat → Int32) : mp_at (ms_ends τ v) = mp_at τ := rfl
theorem q_bad_ends (τ : MPS) (v : Nat → Int32) : mp_bad (ms_ends τ v) = mp_bad τ := rfl
theorem q_size_ends (τ : MPS) (v : Nat → Int32) : mp_size (ms_ends τ v) = mp_size τ := rfl
theorem q_text_ends (τ : MPS) (v : Nat → Int32) : mp_text (ms_ends τ v) = mp_text τ := rfl
theorem q_nodes_up (τ : MPS) (v : Nat → Int32) : mp_nodes (ms_up τ v) = mp_nodes τ := rfl
theorem q_isElement_up (τ : MPS) (v : Nat → Int32) : mp_isElement (ms_up τ v) = mp_isElement τ := rfl
theorem q_begins_up (τ : MPS) (v : Nat → Int32) : mp_begins (ms_up τ v) = mp_begins τ := rfl
theorem q_ends_up (τ : MPS) (v : Nat → Int32) : mp_ends (ms_up τ v) = mp_ends τ := rfl
theorem q_up_up (τ : MPS) (v : Nat → Int32) : mp_up (ms_up τ v) = v := rfl
theorem q_depth_up (τ : MPS) (v : Nat → Int32) : mp_depth (ms_up τ v) = mp_depth τ := rfl
theorem q_first_up (τ : MPS) (v : Nat → Int32) : mp_first (ms_up τ v) = mp_first τ := rfl
theorem q_next_up (τ : MPS) (v : Nat → Int32) : mp_next (ms_up τ v) = mp_next τ := rfl
theorem q_last_up (τ : MPS) (v : Nat → Int32) : mp_last (ms_up τ v) = mp_last τ := rfl
theorem q_openAt_up (τ : MPS) (v : Nat → Int32) : mp_openAt (ms_up τ v) = mp_openAt τ := rfl
theorem q_openMany_up (τ : MPS) (v : Nat → Int32) : mp_openMany (ms_up τ v) = mp_openMany τ := rfl
theorem q_openNode_up (τ : MPS) (v : Nat → Int32) : mp_openNode (ms_up τ v) = mp_openNode τ := rfl
theorem q_deep_up (τ : MPS) (v : Nat → Int32) : mp_deep (ms_up τ v) = mp_deep τ := rfl
theorem q_elements_up (τ : MPS) (v : Nat → Int32) : mp_elements (ms_up τ v) = mp_elements τ := rfl
theorem q_at_up (τ : MPS) (v : Nat → Int32) : mp_at (ms_up τ v) = mp_at τ := rfl
theorem q_bad_up (τ : MPS) (v : Nat → Int32) : mp_bad (ms_up τ v) = mp_bad τ := rfl
theorem q_size_up (τ : MPS) (v : Nat → Int32) : mp_size (ms_up τ v) = mp_size τ := rfl
theorem q_text_up (τ : MPS) (v : Nat → Int32) : mp_text (ms_up τ v) = mp_text τ := rfl
theorem q_nodes_depth (τ : MPS) (v : Nat → Int32) : mp_nodes (ms_depth τ v) = mp_nodes τ := rfl
theorem q_isElement_depth (τ : MPS) (v : Nat → Int32) : mp_isElement (ms_depth τ v) = mp_isElement τ := rfl
theorem q_begins_depth (τ : MPS) (v : Nat → Int32) : mp_begins (ms_depth τ v) = mp_begins τ := rfl
theorem q_ends_depth (τ : MPS) (v : Nat → Int32) : mp_ends (ms_depth τ v) = mp_ends τ := rfl
theorem q_up_depth (τ : MPS) (v : Nat → Int32) : mp_up (ms_depth τ v) = mp_up τ := rfl
theorem q_depth_depth (τ : MPS) (v : Nat → Int32) : mp_depth (ms_depth τ v) = v := rfl
theorem q_first_depth (τ : MPS) (v : Nat → Int32) : mp_first (ms_depth τ v) = mp_first τ := rfl
theorem q_next_depth (τ : MPS) (v : Nat → Int32) : mp_next (ms_depth τ v) = mp_next τ := rfl
theorem q_last_depth (τ : MPS) (v : Nat → Int32) : mp_last (ms_depth τ v) = mp_last τ := rfl
theorem q_openAt_depth (τ : MPS) (v : Nat → Int32) : mp_openAt (ms_depth τ v) = mp_openAt τ := rfl
theorem q_openMany_depth (τ : MPS) (v : Nat → Int32) : mp_openMany (ms_depth τ v) = mp_openMany τ := rfl
theorem q_openNode_depth (τ : MPS) (v : Nat → Int32) : mp_openNode (ms_depth τ v) = mp_openNode τ := rfl
theorem q_deep_depth (τ : MPS) (v : Nat → Int32) : mp_deep (ms_depth τ v) = mp_deep τ := rfl
theorem q_elements_depth (τ : MPS) (v : Nat → Int32) : mp_elements (ms_depth τ v) = mp_elements τ := rfl
theorem q_at_depth (τ : MPS) (v : Nat → Int32) : mp_at (ms_depth τ v) = mp_at τ := rfl
theorem q_bad_depth (τ : MPS) (v : Nat → Int32) : mp_bad (ms_depth τ v) = mp_bad τ := rfl
theorem q_size_depth (τ : MPS) (v : Nat → Int32) : mp_size (ms_depth τ v) = mp_size τ := rfl
theorem q_text_depth (τ : MPS) (v : Nat → Int32) : mp_text (ms_depth τ v) = mp_text τ := rfl
theorem q_nodes_first (τ : MPS) (v : Nat → Int32) : mp_nodes (ms_first τ v) = mp_nodes τ := rfl
theorem q_isElement_first (τ : MPS) (v : Nat → Int32) : mp_isElement (ms_first τ v) = mp_isElement τ := rfl
theorem q_begins_first (τ : MPS) (v : Nat → Int32) : mp_begins (ms_first τ v) = mp_begins τ := rfl
theorem q_ends_first (τ : MPS) (v : Nat → Int32) : mp_ends (ms_first τ v) = mp_ends τ := rfl
theorem q_up_first (τ : MPS) (v : Nat → Int32) : mp_up (ms_first τ v) = mp_up τ := rfl
theorem q_depth_first (τ : MPS) (v : Nat → Int32) : mp_depth (ms_first τ v) = mp_depth τ := rfl
theorem q_first_first (τ : MPS) (v : Nat → Int32) : mp_first (ms_first τ v) = v := rfl
theorem q_next_first (τ : MPS) (v : Nat → Int32) : mp_next (ms_first τ v) = mp_next τ := rfl
theorem q_last_first (τ : MPS) (v : Nat → Int32) : mp_last (ms_first τ v) = mp_last τ := rfl
theorem q_openAt_first (τ : MPS) (v : Nat → Int32) : mp_openAt (ms_first τ v) = mp_openAt τ := rfl
theorem q_openMany_first (τ : MPS) (v : Nat → Int32) : mp_openMany (ms_first τ v) = mp_openMany τ := rfl
theorem q_openNode_first (τ : MPS) (v : Nat → Int32) : mp_openNode (ms_first τ v) = mp_openNode τ := rfl
theorem q_deep_first (τ : MPS) (v : Nat → Int32) : mp_deep (ms_first τ v) = mp_deep τ := rfl
theorem q_elements_first (τ : MPS) (v : Nat → Int32) : mp_elements (ms_first τ v) = mp_elements τ := rfl
theorem q_at_first (τ : MPS) (v : Nat → Int32) : mp_at (ms_first τ v) = mp_at τ := rfl
theorem q_bad_first (τ : MPS) (v : Nat → Int32) : mp_bad (ms_first τ v) = mp_bad τ := rfl
theorem q_size_first (τ : MPS) (v : Nat → Int32) : mp_size (ms_first τ v) = mp_size τ := rfl
theorem q_text_first (τ : MPS) (v : Nat → Int32) : mp_text (ms_first τ v) = mp_text τ := rfl
theorem q_nodes_next (τ : MPS) (v : Nat → Int32) : mp_nodes (ms_next τ v) = mp_nodes τ := rfl
theorem q_isElement_next (τ : MPS) (v : Nat → Int32) : mp_isElement (ms_next τ v) = mp_isElement τ := rfl
theorem q_begins_next (τ : MPS) (v : Nat → Int32) : mp_begins (ms_next τ v) = mp_begins τ := rfl
theorem q_ends_next (τ : MPS) (v : Nat → Int32) : mp_ends (ms_next τ v) = mp_ends τ := rfl
theorem q_up_next (τ : MPS) (v : Nat → Int32) : mp_up (ms_next τ v) = mp_up τ := rfl
theorem q_depth_next (τ : MPS) (v : Nat → Int32) : mp_depth (ms_next τ v) = mp_depth τ := rfl
theorem q_first_next (τ : MPS) (v : Nat → Int32) : mp_first (ms_next τ v) = mp_first τ := rfl
theorem q_next_next (τ : MPS) (v : Nat → Int32) : mp_next (ms_next τ v) = v := rfl
theorem q_last_next (τ : MPS) (v : Nat → Int32) : mp_last (ms_next τ v) = mp_last τ := rfl
theorem q_openAt_next (τ : MPS) (v : Nat → Int32) : mp_openAt (ms_next τ v) = mp_openAt τ := rfl
theorem q_openMany_next (τ : MPS) (v : Nat → Int32) : mp_openMany (ms_next τ v) = mp_openMany τ := rfl
theorem q_openNode_next (τ : MPS) (v : Nat → Int32) : mp_openNode (ms_next τ v) = mp_openNode τ := rfl
theorem q_deep_next (τ : MPS) (v : Nat → Int32) : mp_deep (ms_next τ v) = mp_deep τ := rfl
theorem q_elements_next (τ : MPS) (v : Nat → Int32) : mp_elements (ms_next τ v) = mp_elements τ := rfl
theorem q_at_next (τ : MPS) (v : Nat → Int32) : mp_at (ms_next τ v) = mp_at τ := rfl
theorem q_bad_next (τ : MPS) (v : Nat → Int32) : mp_bad (ms_next τ v) = mp_bad τ := rfl
theorem q_size_next (τ : MPS) (v : Nat → Int32) : mp_size (ms_next τ v) = mp_size τ := rfl
theorem q_text_next (τ : MPS) (v : Nat → Int32) : mp_text (ms_next τ v) = mp_text τ := rfl
theorem q_nodes_last (τ : MPS) (v : Nat → Int32) : mp_nodes (ms_last τ v) = mp_nodes τ := rfl
theorem q_isElement_last (τ : MPS) (v : Nat → Int32) : mp_isElement (ms_last τ v) = mp_isElement τ := rfl
theorem q_begins_last (τ : MPS) (v : Nat → Int32) : mp_begins (ms_last τ v) = mp_begins τ := rfl
theorem q_ends_last (τ : MPS) (v : Nat → Int32) : mp_ends (ms_last τ v) = mp_ends τ := rfl
theorem q_up_last (τ : MPS) (v : Nat → Int32) : mp_up (ms_last τ v) = mp_up τ := rfl
theorem q_depth_last (τ : MPS) (v : Nat → Int32) : mp_depth (ms_last τ v) = mp_depth τ := rfl
theorem q_first_last (τ : MPS) (v : Nat → Int32) : mp_first (ms_last τ v) = mp_first τ := rfl
theorem q_next_last (τ : MPS) (v : Nat → Int32) : mp_next (ms_last τ v) = mp_next τ := rfl
theorem q_last_last (τ : MPS) (v : Nat → Int32) : mp_last (ms_last τ v) = v := rfl
theorem q_openAt_last (τ : MPS) (v : Nat → Int32) : mp_openAt (ms_last τ v) = mp_openAt τ := rfl
theorem q_openMany_last (τ : MPS) (v : Nat → Int32) : mp_openMany (ms_last τ v) = mp_openMany τ := rfl
theorem q_openNode_last (τ : MPS) (v : Nat → Int32) : mp_openNode (ms_last τ v) = mp_openNode τ := rfl
theorem q_deep_last (τ : MPS) (v : Nat → Int32) : mp_deep (ms_last τ v) = mp_deep τ := rfl
theorem q_elements_last (τ : MPS) (v : Nat → Int32) : mp_elements (ms_last τ v) = mp_elements τ := rfl
theorem q_at_last (τ : MPS) (v : Nat → Int32) : mp_at (ms_last τ v) = mp_at τ := rfl
theorem q_bad_last (τ : MPS) (v : Nat → Int32) : mp_bad (ms_last τ v) = mp_bad τ := rfl
theorem q_size_last (τ : MPS) (v : Nat → Int32) : mp_size (ms_last τ v) = mp_size τ := rfl
theorem q_text_last (τ : MPS) (v : Nat → Int32) : mp_text (ms_last τ v) = mp_text τ := rfl
theorem q_nodes_openAt (τ : MPS) (v : Nat → Int32) : mp_nodes (ms_openAt τ v) = mp_nodes τ := rfl
theorem q_isElement_openAt (τ : MPS) (v : Nat → Int32) : mp_isElement (ms_openAt τ v) = mp_isElement τ := rfl
theorem q_begins_openAt (τ : MPS) (v : Nat → Int32) : mp_begins (ms_openAt τ v) = mp_begins τ := rfl
theorem q_ends_openAt (τ : MPS) (v : Nat → Int32) : mp_ends (ms_openAt τ v) = mp_ends τ := rfl
theorem q_up_openAt (τ : MPS) (v : Nat → Int32) : mp_up (ms_openAt τ v) = mp_up τ := rfl
theorem q_depth_openAt (τ : MPS) (v : Nat → Int32) : mp_depth (ms_openAt τ v) = mp_depth τ := rfl
theorem q_first_openAt (τ : MPS) (v : Nat → Int32) : mp_first (ms_openAt τ v) = mp_first τ := rfl
theorem q_next_openAt (τ : MPS) (v : Nat → Int32) : mp_next (ms_openAt τ v) = mp_next τ := rfl
theorem q_last_openAt (τ : MPS) (v : Nat → Int32) : mp_last (ms_openAt τ v) = mp_last τ := rfl
theorem q_openAt_openAt (τ : MPS) (v : Nat → Int32) : mp_openAt (ms_openAt τ v) = v := rfl
theorem q_openMany_openAt (τ : MPS) (v : Nat → Int32) : mp_openMany (ms_openAt τ v) = mp_openMany τ := rfl
theorem q_openNode_openAt (τ : MPS) (v : Nat → Int32) : mp_openNode (ms_openAt τ v) = mp_openNode τ := rfl
theorem q_deep_openAt (τ : MPS) (v : Nat → Int32) : mp_deep (ms_openAt τ v) = mp_deep τ := rfl
theorem q_elements_openAt (τ : MPS) (v : Nat → Int32) : mp_elements (ms_openAt τ v) = mp_elements τ := rfl
theorem q_at_openAt (τ : MPS) (v : Nat → Int32) : mp_at (ms_openAt τ v) = mp_at τ := rfl
theorem q_bad_openAt (τ : MPS) (v : Nat → Int32) : mp_bad (ms_openAt τ v) = mp_bad τ := rfl
theorem q_size_openAt (τ : MPS) (v : Nat → Int32) : mp_size (ms_openAt τ v) = mp_size τ := rfl
theorem q_text_openAt (τ : MPS) (v : Nat → Int32) : mp_text (ms_openAt τ v) = mp_text τ := rfl
theorem q_nodes_openMany (τ : MPS) (v : Nat → Int32) : mp_nodes (ms_openMany τ v) = mp_nodes τ := rfl
theorem q_isElement_openMany (τ : MPS) (v : Nat → Int32) : mp_isElement (ms_openMany τ v) = mp_isElement τ := rfl
theorem q_begins_openMany (τ : MPS) (v : Nat → Int32) : mp_begins (ms_openMany τ v) = mp_begins τ := rfl
theorem q_ends_openMany (τ : MPS) (v : Nat → Int32) : mp_ends (ms_openMany τ v) = mp_ends τ := rfl
theorem q_up_openMany (τ : MPS) (v : Nat → Int32) : mp_up (ms_openMany τ v) = mp_up τ := rfl
theorem q_depth_openMany (τ : MPS) (v : Nat → Int32) : mp_depth (ms_openMany τ v) = mp_depth τ := rfl
theorem q_first_openMany (τ : MPS) (v : Nat → Int32) : mp_first (ms_openMany τ v) = mp_first τ := rfl
theorem q_next_openMany (τ : MPS) (v : Nat → Int32) : mp_next (ms_openMany τ v) = mp_next τ := rfl
theorem q_last_openMany (τ : MPS) (v : Nat → Int32) : mp_last (ms_openMany τ v) = mp_last τ := rfl
theorem q_openAt_openMany (τ : MPS) (v : Nat → Int32) : mp_openAt (ms_openMany τ v) = mp_openAt τ := rfl
theorem q_openMany_openMany (τ : MPS) (v : Nat → Int32) : mp_openMany (ms_openMany τ v) = v := rfl
theorem q_openNode_openMany (τ : MPS) (v : Nat → Int32) : mp_openNode (ms_openMany τ v) = mp_openNode τ := rfl
theorem q_deep_openMany (τ : MPS) (v : Nat → Int32) : mp_deep (ms_openMany τ v) = mp_deep τ := rfl
theorem q_elements_openMany (τ : MPS) (v : Nat → Int32) : mp_elements (ms_openMany τ v) = mp_elements τ := rfl
theorem q_at_openMany (τ : MPS) (v : Nat → Int32) : mp_at (ms_openMany τ v) = mp_at τ := rfl
theorem q_bad_openMany (τ : MPS) (v : Nat → Int32) : mp_bad (ms_openMany τ v) = mp_bad τ := rfl
theorem q_size_openMany (τ : MPS) (v : Nat → Int32) : mp_size (ms_openMany τ v) = mp_size τ := rfl
theorem q_text_openMany (τ : MPS) (v : Nat → Int32) : mp_text (ms_openMany τ v) = mp_text τ := rfl
theorem q_nodes_openNode (τ : MPS) (v : Nat → Int32) : mp_nodes (ms_openNode τ v) = mp_nodes τ := rfl
theorem q_isElement_openNode (τ : MPS) (v : Nat → Int32) : mp_isElement (ms_openNode τ v) = mp_isElement τ := rfl
theorem q_begins_openNode (τ : MPS) (v : Nat → Int32) : mp_begins (ms_openNode τ v) = mp_begins τ := rfl
theorem q_ends_openNode (τ : MPS) (v : Nat → Int32) : mp_ends (ms_openNode τ v) = mp_ends τ := rfl
theorem q_up_openNode (τ : MPS) (v : Nat → Int32) : mp_up (ms_openNode τ v) = mp_up τ := rfl
theorem q_depth_openNode (τ : MPS) (v : Nat → Int32) : mp_depth (ms_openNode τ v) = mp_depth τ := rfl
theorem q_first_openNode (τ : MPS) (v : Nat → Int32) : mp_first (ms_openNode τ v) = mp_first τ := rfl
theorem q_next_openNode (τ : MPS) (v : Nat → Int32) : mp_next (ms_openNode τ v) = mp_next τ := rfl
theorem q_last_openNode (τ : MPS) (v : Nat → Int32) : mp_last (ms_openNode τ v) = mp_last τ := rfl
theorem q_openAt_openNode (τ : MPS) (v : Nat → Int32) : mp_openAt (ms_openNode τ v) = mp_openAt τ := rfl
theorem q_openMany_openNode (τ : MPS) (v : Nat → Int32) : mp_openMany (ms_openNode τ v) = mp_openMany τ := rfl
theorem q_openNode_openNode (τ : MPS) (v : Nat → Int32) : mp_openNode (ms_openNode τ v) = v := rfl
theorem q_deep_openNode (τ : MPS) (v : Nat → Int32) : mp_deep (ms_openNode τ v) = mp_deep τ := rfl
theorem q_elements_openNode (τ : MPS) (v : Nat → Int32) : mp_elements (ms_openNode τ v) = mp_elements τ := rfl
theorem q_at_openNode (τ : MPS) (v : Nat → Int32) : mp_at (ms_openNode τ v) = mp_at τ := rfl
theorem q_bad_openNode (τ : MPS) (v : Nat → Int32) : mp_bad (ms_openNode τ v) = mp_bad τ := rfl
theorem q_size_openNode (τ : MPS) (v : Nat → Int32) : mp_size (ms_openNode τ v) = mp_size τ := rfl
theorem q_text_openNode (τ : MPS) (v : Nat → Int32) : mp_text (ms_openNode τ v) = mp_text τ := rfl
theorem q_nodes_deep (τ : MPS) (v : Int32) : mp_nodes (ms_deep τ v) = mp_nodes τ := rfl
theorem q_isElement_deep (τ : MPS) (v : Int32) : mp_isElement (ms_deep τ v) = mp_isElement τ := rfl
theorem q_begins_deep (τ : MPS) (v : Int32) : mp_begins (ms_deep τ v) = mp_begins τ := rfl
theorem q_ends_deep (τ : MPS) (v : Int32) : mp_ends (ms_deep τ v) = mp_ends τ := rfl
theorem q_up_deep (τ : MPS) (v : Int32) : mp_up (ms_deep τ v) = mp_up τ := rfl
theorem q_depth_deep (τ : MPS) (v : Int32) : mp_depth (ms_deep τ v) = mp_depth τ := rfl
theorem q_first_deep (τ : MPS) (v : Int32) : mp_first (ms_deep τ v) = mp_first τ := rfl
theorem q_next_deep (τ : MPS) (v : Int32) : mp_next (ms_deep τ v) = mp_next τ := rfl
theorem q_last_deep (τ : MPS) (v : Int32) : mp_last (ms_deep τ v) = mp_last τ := rfl
theorem q_openAt_deep (τ : MPS) (v : Int32) : mp_openAt (ms_deep τ v) = mp_openAt τ := rfl
theorem q_openMany_deep (τ : MPS) (v : Int32) : mp_openMany (ms_deep τ v) = mp_openMany τ := rfl
theorem q_openNode_deep (τ : MPS) (v : Int32) : mp_openNode (ms_deep τ v) = mp_openNode τ := rfl
theorem q_deep_deep (τ : MPS) (v : Int32) : mp_deep (ms_deep τ v) = v := rfl
theorem q_elements_deep (τ : MPS) (v : Int32) : mp_elements (ms_deep τ v) = mp_elements τ := rfl
theorem q_at_deep (τ : MPS) (v : Int32) : mp_at (ms_deep τ v) = mp_at τ := rfl
theorem q_bad_deep (τ : MPS) (v : Int32) : mp_bad (ms_deep τ v) = mp_bad τ := rfl
theorem q_size_deep (τ : MPS) (v : Int32) : mp_size (ms_deep τ v) = mp_size τ := rfl
theorem q_text_deep (τ : MPS) (v : Int32) : mp_text (ms_deep τ v) = mp_text τ := rfl
theorem q_nodes_elements (τ : MPS) (v : Int32) : mp_nodes (ms_elements τ v) = mp_nodes τ := rfl
theorem q_isElement_elements (τ : MPS) (v : Int32) : mp_isElement (ms_elements τ v) = mp_isElement τ := rfl
theorem q_begins_elements (τ : MPS) (v : Int32) : mp_begins (ms_elements τ v) = mp_begins τ := rfl
theorem q_ends_elements (τ : MPS) (v : Int32) : mp_ends (ms_elements τ v) = mp_ends τ := rfl
theorem q_up_elements (τ : MPS) (v : Int32) : mp_up (ms_elements τ v) = mp_up τ := rfl
theorem q_depth_elements (τ : MPS) (v : Int32) : mp_depth (ms_elements τ v) = mp_depth τ := rfl
theorem q_first_elements (τ : MPS) (v : Int32) : mp_first (ms_elements τ v) = mp_first τ := rfl
theorem q_next_elements (τ : MPS) (v : Int32) : mp_next (ms_elements τ v) = mp_next τ := rfl
theorem q_last_elements (τ : MPS) (v : Int32) : mp_last (ms_elements τ v) = mp_last τ := rfl
theorem q_openAt_elements (τ : MPS) (v : Int32) : mp_openAt (ms_elements τ v) = mp_openAt τ := rfl
theorem q_openMany_elements (τ : MPS) (v : Int32) : mp_openMany (ms_elements τ v) = mp_openMany τ := rfl
theorem q_openNode_elements (τ : MPS) (v : Int32) : mp_openNode (ms_elements τ v) = mp_openNode τ := rfl
theorem q_deep_elements (τ : MPS) (v : Int32) : mp_deep (ms_elements τ v) = mp_deep τ := rfl
theorem q_elements_elements (τ : MPS) (v : Int32) : mp_elements (ms_elements τ v) = v := rfl
theorem q_at_elements (τ : MPS) (v : Int32) : mp_at (ms_elements τ v) = mp_at τ := rfl
theorem q_bad_elements (τ : MPS) (v : Int32) : mp_bad (ms_elements τ v) = mp_bad τ := rfl
theorem q_size_elements (τ : MPS) (v : Int32) : mp_size (ms_elements τ v) = mp_size τ := rfl
theorem q_text_elements (τ : MPS) (v : Int32) : mp_text (ms_elements τ v) = mp_text τ := rfl
theorem q_nodes_at (τ : MPS) (v : Int32) : mp_nodes (ms_at τ v) = mp_nodes τ := rfl
theorem q_isElement_at (τ : MPS) (v : Int32) : mp_isElement (ms_at τ v) = mp_isElement τ := rfl
theorem q_begins_at (τ : MPS) (v : Int32) : mp_begins (ms_at τ v) = mp_begins τ := rfl
theorem q_ends_at (τ : MPS) (v : Int32) : mp_ends (ms_at τ v) = mp_ends τ := rfl
theorem q_up_at (τ : MPS) (v : Int32) : mp_up (ms_at τ v) = mp_up τ := rfl
theorem q_depth_at (τ : MPS) (v : Int32) : mp_depth (ms_at τ v) = mp_depth τ := rfl
theorem q_first_at (τ : MPS) (v : Int32) : mp_first (ms_at τ v) = mp_first τ := rfl
theorem q_next_at (τ : MPS) (v : Int32) : mp_next (ms_at τ v) = mp_next τ := rfl
theorem q_last_at (τ : MPS) (v : Int32) : mp_last (ms_at τ v) = mp_last τ := rfl
theorem q_openAt_at (τ : MPS) (v : Int32) : mp_openAt (ms_at τ v) = mp_openAt τ := rfl
theorem q_openMany_at (τ : MPS) (v : Int32) : mp_openMany (ms_at τ v) = mp_openMany τ := rfl
theorem q_openNode_at (τ : MPS) (v : Int32) : mp_openNode (ms_at τ v) = mp_openNode τ := rfl
theorem q_deep_at (τ : MPS) (v : Int32) : mp_deep (ms_at τ v) = mp_deep τ := rfl
theorem q_elements_at (τ : MPS) (v : Int32) : mp_elements (ms_at τ v) = mp_elements τ := rfl
theorem q_at_at (τ : MPS) (v : Int32) : mp_at (ms_at τ v) = v := rfl
theorem q_bad_at (τ : MPS) (v : Int32) : mp_bad (ms_at τ v) = mp_bad τ := rfl
theorem q_size_at (τ : MPS) (v : Int32) : mp_size (ms_at τ v) = mp_size τ := rfl
theorem q_text_at (τ : MPS) (v : Int32) : mp_text (ms_at τ v) = mp_text τ := rfl
theorem q_nodes_bad (τ : MPS) (v : Int32) : mp_nodes (ms_bad τ v) = mp_nodes τ := rfl
theorem q_isElement_bad (τ : MPS) (v : Int32) : mp_isElement (ms_bad τ v) = mp_isElement τ := rfl
theorem q_begins_bad (τ : MPS) (v : Int32) : mp_begins (ms_bad τ v) = mp_begins τ := rfl
theorem q_ends_bad (τ : MPS) (v : Int32) : mp_ends (ms_bad τ v) = mp_ends τ := rfl
theorem q_up_bad (τ : MPS) (v : Int32) : mp_up (ms_bad τ v) = mp_up τ := rfl
theorem q_depth_bad (τ : MPS) (v : Int32) : mp_depth (ms_bad τ v) = mp_depth τ := rfl
theorem q_first_bad (τ : MPS) (v : Int32) : mp_first (ms_bad τ v) = mp_first τ := rfl
theorem q_next_bad (τ : MPS) (v : Int32) : mp_next (ms_bad τ v) = mp_next τ := rfl
theorem q_last_bad (τ : MPS) (v : Int32) : mp_last (ms_bad τ v) = mp_last τ := rfl
theorem q_openAt_bad (τ : MPS) (v : Int32) : mp_openAt (ms_bad τ v) = mp_openAt τ := rfl
theorem q_openMany_bad (τ : MPS) (v : Int32) : mp_openMany (ms_bad τ v) = mp_openMany τ := rfl
theorem q_openNode_bad (τ : MPS) (v : Int32) : mp_openNode (ms_bad τ v) = mp_openNode τ := rfl
theorem q_deep_bad (τ : MPS) (v : Int32) : mp_deep (ms_bad τ v) = mp_deep τ := rfl
theorem q_elements_bad (τ : MPS) (v : Int32) : mp_elements (ms_bad τ v) = mp_elements τ := rfl
theorem q_at_bad (τ : MPS) (v : Int32) : mp_at (ms_bad τ v) = mp_at τ := rfl
theorem q_bad_bad (τ : MPS) (v : Int32) : mp_bad (ms_bad τ v) = v := rfl
theorem q_size_bad (τ : MPS) (v : Int32) : mp_size (ms_bad τ v) = mp_size τ := rfl
theorem q_text_bad (τ : MPS) (v : Int32) : mp_text (ms_bad τ v) = mp_text τ := rfl
