theorem pure_all : PureAll := sorry
