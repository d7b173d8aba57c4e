theorem rel_sim : lw_Sim (fun _ _ _ => True) := sorry
