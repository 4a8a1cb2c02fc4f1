/-! the claim -/
theorem zk_goal : lw_goal := lw_goal_of (fun G sz k S _ M => wJ zkS G sz k S M) (fun _ _ _ => wJ_0 zk_0) (fun G sz n L xs S v M hok h hm hL => lw_step zk_PS zk_s zk_f zk_sf G sz n L xs S v M hok h hm hL)
theorem i_vc : Claimed_1_1 ∧ Claimed_1_2 := lw_vc zk_goal
