theorem rel_sim : lw_Sim rel := sorry
